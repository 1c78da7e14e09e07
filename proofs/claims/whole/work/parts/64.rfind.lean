/-! the reference brings lines -/
theorem s_Rin {v a b : Int} : R_in v a b = some (b2i (decide (a ≤ v ∧ v ≤ b))) := by
  unfold R_in
  by_cases q : v < a
  · rw [if_pos q, decide_eq_false (by omega)]; rfl
  · rw [if_neg q]
    by_cases q2 : b < v
    · rw [if_pos q2, decide_eq_false (by omega)]; rfl
    · rw [if_neg q2, decide_eq_true (by omega)]; rfl
theorem s_RisNumber {n : Int} : R_isNumber n = some (b2i (decide (2 ≤ n ∧ n ≤ 1000000000))) := by
  unfold R_isNumber
  refine cB s_Rin ?_
  refine gB ?_ rfl
  cases decide (2 ≤ n ∧ n ≤ 1000000000)
  · exact ⟨Int.le_refl 0, by decide⟩
  · exact ⟨by decide, Int.le_refl 1⟩
/-- what waits: number and sort of the k-th -/
def WT (h : AH) (k : Nat) (n s : Int) : Prop := hCe h 46 (k : Int) = n ∧ hCe h 47 (k : Int) = s
/-- what finding changes in the reference -/
def RK (b j : Int) : Prop := VK b j ∨ WK b j ∨ b = 46 ∨ b = 47 ∨ (b = 27 ∧ j = 7)
/-- the reference while it finds: its lines, which are right -/
def RS (h : AH) (ls : List LN) : Prop := Sh h ∧ MD h ls ∧ ∀ i : Nat, i < ls.length → hCe h 44 (i : Int) = b2i (rtS ls i)
/-- lines and what else is there, beside what a search changes -/
def UK (b0 : Nat) (b j : Int) : Prop := VK b j ∨ (b = 46 ∧ (b0 : Int) ≤ j) ∨ (b = 47 ∧ (b0 : Int) ≤ j) ∨ b = 44 ∨ b = 45 ∨ (b = 27 ∧ j = 7) ∨ (33 ≤ b ∧ b ≤ 43)
theorem VK.far {b j : Int} (h : VK b j) : (33 ≤ b ∧ b ≤ 38 ∧ j = 115) ∨ (39 ≤ b ∧ b ≤ 43 ∧ 1035 ≤ j) ∨ b = 28 ∨ b = 29 ∨ b = 30 ∨ (b = 27 ∧ j = 6) ∨ b = 31 ∨ b = 32 := by
  unfold VK MK QK XK at h
  omega
theorem MD.vk {P : Int → Int → Prop} {h h' : AH} {ls : List LN} (M : MD h ls) (F : Fr P h h') (q : ∀ b j, P b j → VK b j ∨ b = 46 ∨ b = 47) : MD h' ls := by
  have n7 : ¬ P 27 7 := fun z => by
    rcases q _ _ z with y | y | y
    · have := y.far; omega
    · omega
    · omega
  refine ⟨(F.2 _ _ n7).trans M.1, M.2.1, fun i hi => ⟨(M.2.2 i hi).1.of fun b j z => F.2 _ _ fun y => ?_, (M.2.2 i hi).2⟩⟩
  have h60 := M.2.1
  rcases q _ _ y with y | y | y
  · have := y.far
    unfold MK at z
    omega
  · unfold MK at z; omega
  · unfold MK at z; omega
theorem RS.vk {P : Int → Int → Prop} {h h' : AH} {ls : List LN} (M : RS h ls) (F : Fr P h h') (q : ∀ b j, P b j → VK b j ∨ b = 46 ∨ b = 47) : RS h' ls := by
  refine ⟨M.1.fr F fun b j z => ?_, M.2.1.vk F q, fun i hi => (F.2 _ _ fun z => ?_).trans (M.2.2 i hi)⟩
  · rcases q _ _ z with y | y | y
    · exact y.mut
    · exact mutM (by unfold MutM; omega)
    · exact mutM (by unfold MutM; omega)
  · rcases q _ _ z with y | y | y
    · have := y.far; omega
    · omega
    · omega
theorem RS.rr {h : AH} {ls : List LN} (M : RS h ls) {i : Nat} (hi : i < ls.length) : RR h i = rtS ls i := by
  unfold RR
  rw [M.2.2 i hi]
  cases rtS ls i <;> rfl
theorem RS.lf {h : AH} {ls : List LN} (M : RS h ls) {q : Int} : R_lineFor 27 q (ls.length : Int) h = some (ahS ls (rtS ls) ls.length q) := by
  rw [s_lineFor M.1 M.2.1.2.1 fun j hj => M.2.1.num hj]
  congr 1
  exact ahS_g fun i hi => ⟨M.rr hi, rfl⟩
/-- the first number that is wanting -/
noncomputable def mi1 (ls : List LN) : List Int → Int
  | [] => 0
  | q :: qs => if ahS ls (rtS ls) ls.length q = -1 then q else mi1 ls qs
theorem mi_a (ls : List LN) : ∀ (a b : List Int), (∀ q ∈ a, ahS ls (rtS ls) ls.length q = -1 → q ≠ 0) → mi1 ls (a ++ b) = if mi1 ls a = 0 then mi1 ls b else mi1 ls a
  | [], b, _ => by show mi1 ls b = if (0 : Int) = 0 then mi1 ls b else 0; rw [if_pos rfl]
  | q :: a, b, h => by
    show (if ahS ls (rtS ls) ls.length q = -1 then q else mi1 ls (a ++ b)) = if (if ahS ls (rtS ls) ls.length q = -1 then q else mi1 ls a) = 0 then mi1 ls b else (if ahS ls (rtS ls) ls.length q = -1 then q else mi1 ls a)
    by_cases c : ahS ls (rtS ls) ls.length q = -1
    · rw [if_pos c, if_pos c, if_neg (h q List.mem_cons_self c)]
    · rw [if_neg c, if_neg c]
      exact mi_a ls a b fun x hx => h x (List.mem_cons_of_mem _ hx)
theorem ms_up {h : AH} {ls : List LN} (M : RS h ls) {l : LN} (L : LM h 115 l) : ∀ (m f j : Nat), j + m = l.2.2.length → m < f → R_missing_54 f 27 j h = some (mi1 ls ((l.2.2.drop j).map fun r => r.1)) := by
  have H := M.1
  have u9 := L.2.2.2.1
  intro m
  induction m with
  | zero =>
    intro f j hj hf
    obtain ⟨f, rfl, -⟩ := fu_pos hf
    unfold R_missing_54
    refine gB H.t27 ?_
    rw [H.p27_13]
    refine gB ⟨H.t38, by omega, by rw [H.l38]; omega⟩ ?_
    have e : hCe h 38 115 = (l.2.2.length : Int) := L.2.2.1
    rw [e]
    refine ifF (by omega) ?_
    rw [dr_e (by omega)]
    rfl
  | succ m ih =>
    intro f j hj hf
    obtain ⟨f, rfl, hf⟩ := fu_pos hf
    have hj' : j < l.2.2.length := by omega
    have c : hCe h 42 (1035 + (j : Int)) = (gt l.2.2 j).1 := (L.2.2.2.2 j hj').1
    unfold R_missing_54
    refine gB H.t27 ?_
    rw [H.p27_13]
    refine gB ⟨H.t38, by omega, by rw [H.l38]; omega⟩ ?_
    have e : hCe h 38 115 = (l.2.2.length : Int) := L.2.2.1
    rw [e]
    refine ifT (by omega) ?_
    refine gB H.t27 ?_
    rw [H.p27_17, w32_e (z := 1035 + (j : Int)) (by omega)]
    refine gB ⟨H.t42, by omega, by rw [H.l42]; omega⟩ ?_
    refine gB H.t27 ?_
    refine gB H.t27 ?_
    rw [c, M.2.1.1]
    refine cB M.lf ?_
    rw [gt_dr hj', List.map_cons]
    unfold mi1
    by_cases z : ahS ls (rtS ls) ls.length (gt l.2.2 j).1 = -1
    · refine ifT z ?_
      rw [if_pos z]
      refine gB H.t27 ?_
      refine gB ⟨H.t42, by omega, by rw [H.l42]; omega⟩ ?_
      rw [c]
    · refine ifF z ?_
      rw [if_neg z, w32_e (by omega)]
      exact ih f (j + 1) (by omega) (by omega)
theorem ms_dn {h : AH} {ls : List LN} (M : RS h ls) {l : LN} (L : LM h 115 l) (pos : ∀ r ∈ l.2.1, r.1 ≠ 0) : ∀ (m f j : Nat), j + m = l.2.1.length → m < f → R_missing_2 f 27 j h = some (mi1 ls (((l.2.1.drop j) ++ l.2.2).map fun r => r.1)) := by
  have H := M.1
  have u9 := L.2.2.2.1
  have d9 := L.2.1.2.1
  intro m
  induction m with
  | zero =>
    intro f j hj hf
    obtain ⟨f, rfl, -⟩ := fu_pos hf
    unfold R_missing_2
    refine gB H.t27 ?_
    rw [H.p27_12]
    refine gB ⟨H.t37, by omega, by rw [H.l37]; omega⟩ ?_
    have e : hCe h 37 115 = (l.2.1.length : Int) := L.2.1.1
    rw [e]
    refine ifF (by omega) ?_
    rw [dr_e (by omega), List.nil_append]
    have := ms_up M L l.2.2.length FU 0 (by omega) (fu_big (by omega))
    rw [List.drop_zero] at this
    exact this
  | succ m ih =>
    intro f j hj hf
    obtain ⟨f, rfl, hf⟩ := fu_pos hf
    have hj' : j < l.2.1.length := by omega
    have c : hCe h 39 (1035 + (j : Int)) = (gt l.2.1 j).1 := (L.2.1.2.2.1 j hj').1
    unfold R_missing_2
    refine gB H.t27 ?_
    rw [H.p27_12]
    refine gB ⟨H.t37, by omega, by rw [H.l37]; omega⟩ ?_
    have e : hCe h 37 115 = (l.2.1.length : Int) := L.2.1.1
    rw [e]
    refine ifT (by omega) ?_
    refine gB H.t27 ?_
    rw [H.p27_14, w32_e (z := 1035 + (j : Int)) (by omega)]
    refine gB ⟨H.t39, by omega, by rw [H.l39]; omega⟩ ?_
    refine gB H.t27 ?_
    refine gB H.t27 ?_
    rw [c, M.2.1.1]
    refine cB M.lf ?_
    rw [gt_dr hj', List.cons_append, List.map_cons]
    unfold mi1
    by_cases z : ahS ls (rtS ls) ls.length (gt l.2.1 j).1 = -1
    · refine ifT z ?_
      rw [if_pos z]
      refine gB H.t27 ?_
      refine gB ⟨H.t39, by omega, by rw [H.l39]; omega⟩ ?_
      rw [c]
    · refine ifF z ?_
      rw [if_neg z, w32_e (by omega)]
      exact ih f (j + 1) (by omega) (by omega)
theorem s_missing {h : AH} {ls : List LN} (M : RS h ls) {l : LN} (L : LM h 115 l) (pos : ∀ r ∈ l.2.1, r.1 ≠ 0) : R_missing 27 h = some (mi1 ls ((rows l).map fun r => r.1)) := by
  have d9 := L.2.1.2.1
  have := ms_dn M L pos l.2.1.length FU 0 (by omega) (fu_big (by omega))
  rw [List.drop_zero] at this
  exact this
/-- the rows of a line for n are laid, without bases -/
def lnS (n s : Int) : LN := if s = 0 then ((n, 0, 0, 0), [], []) else ((n, s, 0, 0), (lyS n s 2).1, (lyS n s 2).2)
theorem ly_q {n s b : Int} (hs : 1 ≤ s ∧ s ≤ 4) : ((lyS n s b).1 ++ (lyS n s b).2).map (fun r => r.1) = ((lyS n s 0).1 ++ (lyS n s 0).2).map fun r => r.1 := by
  obtain ⟨D, U, ly, -⟩ := ly_form (n := n) hs
  rw [ly, ly, List.map_append, List.map_append]
  congr 1
  show (D.map (rD b)).map _ = (D.map (rD 0)).map _
  rw [List.map_map, List.map_map]
  rfl
theorem ln_q {n s : Int} (hs : 0 ≤ s ∧ s ≤ 4) : (rows (lnS n s)).map (fun r => r.1) = qsS n s := by
  unfold lnS qsS rows
  by_cases s0 : s = 0
  · rw [if_pos s0, if_pos s0]; rfl
  · rw [if_neg s0, if_neg s0]
    exact ly_q ⟨by omega, hs.2⟩
theorem s_top {h : AH} {ls : List LN} (M : RS h ls) {n s : Int} (hn : okN n) (ip : isP n) (two : s = 0 ∨ n ≠ 2) (hs : 0 ≤ s ∧ s ≤ 4) {X : AH → Option (Int × AH)} : ∃ h', Fr VK h h' ∧ LM h' 115 (lnS n s) ∧ ((R_begins 27 115 n s h).bind fun h6 => if s = 0 then X h6 else (gd (hTy h6 27 = 10) 0).bind fun _ => (R_laysRows 27 115 h6).bind fun h8 => X h8) = X h' := by
  have H := M.1
  obtain ⟨h1, e1, F1, L1⟩ := s_begins H (k := 115) (by omega) (n := n) (s := s)
  have e1' : R_begins 27 115 n s h = some h1 := e1
  have H1 := H.fr F1 fun b j => MK.mut
  by_cases s0 : s = 0
  · refine ⟨h1, F1.mo fun b j z => Or.inl z, ?_, cB e1' (ifT s0 rfl)⟩
    unfold lnS
    rw [if_pos s0]
    rw [s0] at L1
    exact L1
  · have nb := isP_nb hn ip (two.resolve_left s0)
    obtain ⟨h2, e2, F2, L2⟩ := s_laysRows nb ⟨by omega, hs.2⟩ H1 L1
    refine ⟨h2, (F1.mo fun b j z => Or.inl z).tr (F2.mo fun b j z => z.elim Or.inl fun y => Or.inr (Or.inr y)), ?_, cB e1' (ifF s0 (gB H1.t27 (cB e2 rfl)))⟩
    unfold lnS
    rw [if_neg s0]
    exact L2
