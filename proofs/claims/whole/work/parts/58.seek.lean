/-! the class lays and seeks a line -/
theorem LD.side {h h' : AH} {a : Int} {l : LN} (L : LD h a l) {P : Int → Int → Prop} (F : Fr P h h') {D U : List RW} (q : ∀ b j, P b j → SK (a + 1) b j ∨ SK (a + 3) b j) (SDd : SD h' (a + 1) D) (SDu : SD h' (a + 3) U) : LD h' a (l.1, D, U) := by
  have z : ∀ b j, b = a → ¬ P b j := fun b j e y => by have := q b j y; unfold SK at this; omega
  refine ⟨L.1.fr F (z _ _ rfl) (z _ _ rfl) (fun y => by have := q _ _ y; unfold SK at this; omega) (fun y => by have := q _ _ y; unfold SK at this; omega), ?_, SDd, SDu⟩
  have := L.2.1
  unfold hdAt at *
  rw [F.2 _ _ (z _ _ rfl), F.2 _ _ (z _ _ rfl), F.2 _ _ (z _ _ rfl), F.2 _ _ (z _ _ rfl)]
  exact this
theorem SD.frS {h h' : AH} {s t : Int} {l : List RW} (S : SD h s l) (F : Fr (SK t) h h') (q : s + 1 < t ∨ t + 1 < s) : SD h' s l := S.fr F (by unfold SK; omega) (by unfold SK; omega) (fun j => by unfold SK; omega)
theorem s_layOne {h : AH} {s o : Int} {l : List RW} {fs : List FE} (S : SD h s l) (D : FD h o fs) {i : Nat} (hi : i < fs.length) (h9 : l.length < 9) : ∃ h', Finder_layOne s o i h = some h' ∧ Fr (SK s) h h' ∧ SD h' s (l ++ [rD 0 (ge fs i)]) := by
  obtain ⟨h', e', F', S'⟩ := s_append S h9 (q := (ge fs i).1) (e := (ge fs i).2) (b := 0)
  obtain ⟨⟨t0, p0, p1, t1, l1, t2, l2⟩, sz, f9, cs⟩ := D
  refine ⟨h', ?_, F', S'⟩
  unfold Finder_layOne
  refine ifF (by omega) ?_
  refine gB t0 ?_
  rw [sz]
  refine ifT (by omega) ?_
  refine gB t0 ?_
  rw [p0, p1]
  refine gB ⟨t1, by omega, by omega⟩ ?_
  refine gB t0 ?_
  refine gB ⟨t2, by omega, by omega⟩ ?_
  refine gB S.1.1 ?_
  rw [(cs i hi).1, (cs i hi).2]
  exact cB e' rfl
theorem la_all {s o : Int} {fs : List FE} (so : s + 1 < o ∨ o + 2 < s) : ∀ (m f i : Nat) (h : AH), i + m = fs.length → m < f → FD h o fs → SD h s ((fs.take i).map (rD 0)) → ∃ h', Finder_layAll_2 f s o i h = some h' ∧ Fr (SK s) h h' ∧ SD h' s (fs.map (rD 0)) := by
  intro m
  induction m with
  | zero =>
    intro f i h hi hf D S
    obtain ⟨f, rfl, -⟩ := fu_pos hf
    rw [List.take_of_length_le (by omega)] at S
    refine ⟨h, ?_, Fr.rf, S⟩
    unfold Finder_layAll_2
    refine gB D.1.1 ?_
    rw [D.2.1]
    exact ifF (by omega) rfl
  | succ m ih =>
    intro f i h hi hf D S
    obtain ⟨f, rfl, hf⟩ := fu_pos hf
    have f9 := D.2.2.1
    have hi' : i < fs.length := by omega
    obtain ⟨h1, e1, F1, S1⟩ := s_layOne S D hi' (by rw [List.length_map, List.length_take]; omega)
    have tk : (fs.take i).map (rD 0) ++ [rD 0 (ge fs i)] = (fs.take (i + 1)).map (rD 0) := by
      have : fs.take (i + 1) = fs.take i ++ [ge fs i] := by
        rw [List.take_succ]
        unfold ge
        rw [List.getD_eq_getElem?_getD, List.getElem?_eq_getElem hi']
        rfl
      rw [this, List.map_append]
      rfl
    rw [tk] at S1
    obtain ⟨h2, e2, F2, S2⟩ := ih f (i + 1) h1 (by omega) (by omega) (D.fr F1 (fun j hj => by unfold SK; omega) (fun j => by unfold SK; omega) (fun j => by unfold SK; omega)) S1
    refine ⟨h2, ?_, F1.tr F2, S2⟩
    unfold Finder_layAll_2
    refine gB D.1.1 ?_
    rw [D.2.1]
    refine ifT (by omega) ?_
    refine cB e1 ?_
    rw [w32_e (by omega)]
    exact e2
def BA (a : Int) : Prop := a = 17 ∨ (52 ≤ a ∧ (a - 52) % 5 = 0)
theorem BA.ge {a : Int} (h : BA a) : 17 ≤ a := by unfold BA at h; omega
theorem LK.mut {a b j : Int} (ha : BA a) (h : LK a b j) : Mut b j := by
  rcases ha with rfl | ha
  · refine mutB ?_
    unfold LK SK at h
    unfold MutB
    rcases h with ⟨rfl, h⟩ | (⟨rfl, h⟩ | rfl) | ⟨rfl, h⟩ | rfl <;> omega
  · refine mutL ?_
    unfold LK SK at h
    unfold MutL
    omega
/-- the sides of a line -/
def SL (a b j : Int) : Prop := SK (a + 1) b j ∨ SK (a + 3) b j
theorem lt_loop {n s : Int} (hn : nbOK n) {a : Int} (hA : BA a) {D U : List FE} (hD : D.length ≤ 9) (hU : U.length ≤ 9) (okD : ∀ x ∈ D, okR (rD 0 x)) (okU : ∀ x ∈ U, okR (rD 0 x)) (full : pfS n s (prE D) (prE U) = 0) : ∀ (k f di ui : Nat) (up : Bool) (t : Int) (h : AH), di + ui ≤ k → t + k = 18 → 0 ≤ t → k < f → di ≤ D.length → ui ≤ U.length → Sh h → FD h 7 D → (0 < ui → FD h 10 U) → LD h a ((n, s, 0, 0), rvD 0 (D.drop di), rvD 0 (U.drop ui)) → ∃ h', Finder_layByTurns_12 f 6 a di ui (b2i up) t h = some h' ∧ Fr (SL a) h h' ∧ LD h' a ((n, s, 0, 0), rvD 0 (D.drop (tuN n s D U k di ui up).1), rvD 0 (U.drop (tuN n s D U k di ui up).2)) := by
  have ha := hA.ge
  obtain ⟨n1, n2, n3⟩ := id hn
  have okd : ∀ di, ∀ r ∈ rvD 0 (D.drop di), okR r := fun di r hr => by
    obtain ⟨x, hx, rfl⟩ := rvD_m hr
    exact okD x (List.mem_of_mem_drop hx)
  have oku : ∀ ui, ∀ r ∈ rvD 0 (U.drop ui), okR r := fun ui r hr => by
    obtain ⟨x, hx, rfl⟩ := rvD_m hr
    exact okU x (List.mem_of_mem_drop hx)
  have pf : ∀ (di ui : Nat) (h : AH), LD h a ((n, s, 0, 0), rvD 0 (D.drop di), rvD 0 (U.drop ui)) → Checker_productFault a h = some (pfS n s (prE (D.drop di)) (prE (U.drop ui))) := fun di ui h L => by
    have := s_productFault L ⟨by show 2 ≤ n; omega, n2⟩ (okd di) (oku ui)
    refine this.trans ?_
    show some (pfS n s (prF (rvD 0 (D.drop di))) (prF (rvD 0 (U.drop ui)))) = _
    rw [prF_v, prF_v]
  intro k
  induction k with
  | zero =>
    intro f di ui up t h hk ht t0 hf l1 l2 H FDd FDu L
    obtain ⟨f, rfl, -⟩ := fu_pos hf
    refine ⟨h, ?_, Fr.rf, L⟩
    unfold Finder_layByTurns_12
    exact ifF (by omega) rfl
  | succ k ih =>
    intro f di ui up t h hk ht t0 hf l1 l2 H FDd FDu L
    obtain ⟨f, rfl, hf⟩ := fu_pos hf
    by_cases p0 : pfS n s (prE (D.drop di)) (prE (U.drop ui)) = 0
    · refine ⟨h, ?_, Fr.rf, ?_⟩
      · unfold Finder_layByTurns_12
        refine ifT (by omega) ?_
        refine cB (pf di ui h L) ?_
        exact ifT p0 rfl
      · unfold tuN
        rw [if_pos p0]
        exact L
    · have some1 : 0 < di ∨ 0 < ui := by
        rcases Nat.eq_zero_or_pos di with z1 | z1
        · rcases Nat.eq_zero_or_pos ui with z2 | z2
          · subst z1 z2; rw [List.drop_zero, List.drop_zero] at p0; exact absurd full p0
          · exact Or.inr z2
        · exact Or.inl z1
      have goUp : 0 < ui → ∃ h', Finder_layByTurns_41 (fun a0 a1 a2 a3 a4 a5 h0 => Finder_layByTurns_12 f a0 a1 a2 a3 a4 a5 h0) 6 a di ui t h = some h' ∧ Fr (SL a) h h' ∧ LD h' a ((n, s, 0, 0), rvD 0 (D.drop (tuN n s D U k di (ui - 1) false).1), rvD 0 (U.drop (tuN n s D U k di (ui - 1) false).2)) := by
        intro z
        obtain ⟨h1, e1, F1, S1⟩ := s_layOne L.2.2.2 (FDu z) (i := ui - 1) (by omega) (by show (rvD 0 (U.drop ui)).length < 9; rw [rvD_l]; omega)
        have S1' : SD h1 (a + 3) (rvD 0 (U.drop ui) ++ [rD 0 (ge U (ui - 1))]) := S1
        rw [← rvD_s z l2] at S1'
        have L1 := L.side F1 (fun b j y => Or.inr y) (L.2.2.1.frS F1 (by omega)) S1'
        have frO : ∀ o : Int, o + 2 < a → ∀ fs, FD h o fs → FD h1 o fs := fun o ho fs Q => Q.fr F1 (fun j _ => by unfold SK; omega) (fun j => by unfold SK; omega) (fun j => by unfold SK; omega)
        have H1 : Sh h1 := H.fr F1 fun b j y => LK.mut hA (Or.inr (Or.inr y))
        obtain ⟨h2, e2, F2, L2⟩ := ih f di (ui - 1) false (t + 1) h1 (by omega) (by omega) (by omega) (by omega) l1 (by omega) H1 (frO 7 (by omega) _ FDd) (fun y => frO 10 (by omega) _ (FDu z)) L1
        refine ⟨h2, ?_, (F1.mo fun b j y => Or.inr y).tr F2, L2⟩
        unfold Finder_layByTurns_41
        refine gB L.1.t ?_
        rw [L.1.p1]
        refine gB H.t6 ?_
        rw [H.p6_2, w32_e (z := (ui : Int) + -1) (by omega), show (ui : Int) + -1 = ((ui - 1 : Nat) : Int) by omega]
        refine cB e1 ?_
        rw [w32_e (by omega)]
        exact e2
      have goDn : 0 < di → ∃ h', Finder_layByTurns_63 (fun a0 a1 a2 a3 a4 a5 h0 => Finder_layByTurns_12 f a0 a1 a2 a3 a4 a5 h0) 6 a di ui (b2i up) t h = some h' ∧ Fr (SL a) h h' ∧ LD h' a ((n, s, 0, 0), rvD 0 (D.drop (tuN n s D U k (di - 1) ui true).1), rvD 0 (U.drop (tuN n s D U k (di - 1) ui true).2)) := by
        intro z
        obtain ⟨h1, e1, F1, S1⟩ := s_layOne L.2.2.1 FDd (i := di - 1) (by omega) (by show (rvD 0 (D.drop di)).length < 9; rw [rvD_l]; omega)
        have S1' : SD h1 (a + 1) (rvD 0 (D.drop di) ++ [rD 0 (ge D (di - 1))]) := S1
        rw [← rvD_s z l1] at S1'
        have L1 := L.side F1 (fun b j y => Or.inl y) S1' (L.2.2.2.frS F1 (by omega))
        have frO : ∀ o : Int, o + 2 < a → ∀ fs, FD h o fs → FD h1 o fs := fun o ho fs Q => Q.fr F1 (fun j _ => by unfold SK; omega) (fun j => by unfold SK; omega) (fun j => by unfold SK; omega)
        have H1 : Sh h1 := H.fr F1 fun b j y => LK.mut hA (Or.inr (Or.inl y))
        obtain ⟨h2, e2, F2, L2⟩ := ih f (di - 1) ui true (t + 1) h1 (by omega) (by omega) (by omega) (by omega) (by omega) l2 H1 (frO 7 (by omega) _ FDd) (fun y => frO 10 (by omega) _ (FDu y)) L1
        refine ⟨h2, ?_, (F1.mo fun b j y => Or.inl y).tr F2, L2⟩
        unfold Finder_layByTurns_63
        refine ifT (by omega) ?_
        refine gB L.1.t ?_
        rw [L.1.p0]
        refine gB H.t6 ?_
        rw [H.p6_1, w32_e (z := (di : Int) + -1) (by omega), show (di : Int) + -1 = ((di - 1 : Nat) : Int) by omega]
        refine cB e1 ?_
        rw [w32_e (by omega)]
        exact e2
      have pre : ∀ {r}, (if 0 < (ui : Int) then (if b2i up = 0 then (if (di : Int) = 0 then Finder_layByTurns_41 (fun a0 a1 a2 a3 a4 a5 h0 => Finder_layByTurns_12 f a0 a1 a2 a3 a4 a5 h0) 6 a di ui t h else Finder_layByTurns_63 (fun a0 a1 a2 a3 a4 a5 h0 => Finder_layByTurns_12 f a0 a1 a2 a3 a4 a5 h0) 6 a di ui (b2i up) t h) else Finder_layByTurns_41 (fun a0 a1 a2 a3 a4 a5 h0 => Finder_layByTurns_12 f a0 a1 a2 a3 a4 a5 h0) 6 a di ui t h) else Finder_layByTurns_63 (fun a0 a1 a2 a3 a4 a5 h0 => Finder_layByTurns_12 f a0 a1 a2 a3 a4 a5 h0) 6 a di ui (b2i up) t h) = r → Finder_layByTurns_12 (f + 1) 6 a di ui (b2i up) t h = r := by
        rintro r rfl
        conv => lhs; unfold Finder_layByTurns_12
        refine ifT (by omega) ?_
        refine cB (pf di ui h L) ?_
        exact ifF p0 rfl
      unfold tuN
      rw [if_neg p0]
      by_cases z : 0 < ui
      · cases up
        · by_cases y : di = 0
          · rw [if_pos ⟨z, Or.inr y⟩]
            obtain ⟨h', e', F', L'⟩ := goUp z
            exact ⟨h', pre (ifT (by omega) (ifT rfl (ifT (by omega) e'))), F', L'⟩
          · rw [if_neg (fun w => by rcases w.2 with w | w; exact absurd w (by decide); exact y w), if_pos (by omega)]
            obtain ⟨h', e', F', L'⟩ := goDn (by omega)
            exact ⟨h', pre (ifT (by omega) (ifT rfl (ifF (by omega) e'))), F', L'⟩
        · rw [if_pos ⟨z, Or.inl rfl⟩]
          obtain ⟨h', e', F', L'⟩ := goUp z
          exact ⟨h', pre (ifT (by omega) (ifF one_ne e')), F', L'⟩
      · rw [if_neg (fun w => z w.1), if_pos (by omega)]
        obtain ⟨h', e', F', L'⟩ := goDn (by omega)
        exact ⟨h', pre (ifF (by omega) e'), F', L'⟩
/-- what laying changes -/
def AK (a b j : Int) : Prop := LK a b j ∨ FK 7 b j ∨ FK 10 b j
theorem AK.mut {a b j : Int} (ha : BA a) (h : AK a b j) : Mut b j := h.elim (LK.mut ha) fun z => z.elim (FK.mut (Or.inl rfl)) (FK.mut (Or.inr (Or.inl rfl)))
/-- whether a line for n can be laid -/
def lyOK (n s : Int) : Bool := decide (prS n = 1) && (if s = 0 then decide (n < 100) else decide (n ≠ 2))
theorem LD.frF {h h' : AH} {a o : Int} {l : LN} (L : LD h a l) (F : Fr (FK o) h h') (q : o + 2 < a) : LD h' a l := L.fr F fun b j x y _ z => by unfold FK at z; omega
theorem isP_nb {n : Int} (hn : okN n) (ip : isP n) (two : n ≠ 2) : nbOK n := by
  have n1 := hn.1
  refine ⟨by omega, hn.2, ?_⟩
  rcases Int.emod_two_eq n with y | y
  · rcases Int.lt_or_le n 4 with w | w
    · omega
    · exact absurd y (ip.2 2 (by omega) (by omega))
  · exact y
theorem prS_isP {n : Int} (h : prS n = 1) : isP n := Classical.byContradiction fun z => by rw [prS_f z] at h; omega
theorem s_lay (hM : MRok) {h : AH} (H : Sh h) {a : Int} (hA : BA a) (B : Blk h a) {n s : Int} (hn : okN n) (hs : 0 ≤ s ∧ s ≤ 4) : ∃ h', Finder_lay 6 a n s h = some (b2i (lyOK n s), h') ∧ Fr (AK a) h h' ∧ Blk h' a ∧ (lyOK n s = true → hCe h' a 6 = -1 ∧ LD h' a (if s = 0 then ((n, 0, 0, 0), [], []) else ((n, s, 0, 0), (lyS n s 0).1, (lyS n s 0).2))) := by
  have ha := hA.ge
  have n1 := hn.1
  have n2 := hn.2
  obtain ⟨h1, e1, F1, L1, c1⟩ := s_begin B (n := n) (s := s)
  have A1 : Fr (AK a) h h1 := F1.mo fun b j z => Or.inl z
  have H1 := H.fr F1 fun b j => LK.mut hA
  have st : ∀ {r}, (if prS n = 0 then some (0, h1) else if s = 0 then (if n < 100 then some (1, h1) else some (0, h1)) else if n = 2 then some (0, h1) else (Factors_split 7 (n - 1) h1).bind fun h6 =>
        (gd (hTy h6 6 = 2) (hCe h6 6 2)).bind fun u7 =>
        (gd (hTy h6 u7 = 1) 0).bind fun _ =>
        (Factors_split u7 (n + 1) h6).bind fun h9 =>
        if s = 1 then
          (gd (hTy h9 a = 4) (hCe h9 a 0)).bind fun u10 =>
          (gd (hTy h9 6 = 2) (hCe h9 6 1)).bind fun u11 =>
          (Finder_layAll u10 u11 h9).bind fun h13 =>
          some (1, h13)
        else if s = 2 then
          (gd (hTy h9 6 = 2) (hCe h9 6 1)).bind fun u14 =>
          (gd (hTy h9 u14 = 1) (hCe h9 u14 2)).bind fun u15 =>
          (gd (hTy h9 6 = 2) 0).bind fun _ =>
          (Finder_layByTurns 6 a u15 0 h9).bind fun h17 =>
          some (1, h17)
        else if s = 3 then
          (gd (hTy h9 a = 4) (hCe h9 a 1)).bind fun u18 =>
          (gd (hTy h9 6 = 2) (hCe h9 6 2)).bind fun u19 =>
          (Finder_layAll u18 u19 h9).bind fun h21 =>
          some (1, h21)
        else 
          (gd (hTy h9 6 = 2) (hCe h9 6 1)).bind fun u22 =>
          (gd (hTy h9 u22 = 1) (hCe h9 u22 2)).bind fun u23 =>
          (gd (hTy h9 6 = 2) (hCe h9 6 2)).bind fun u24 =>
          (gd (hTy h9 u24 = 1) (hCe h9 u24 2)).bind fun u25 =>
          (gd (hTy h9 6 = 2) 0).bind fun _ =>
          (Finder_layByTurns 6 a u23 u25 h9).bind fun h27 =>
          some (1, h27)) = r → Finder_lay 6 a n s h = r := by
    rintro r rfl
    unfold Finder_lay
    refine gB B.t ?_
    refine cB e1 ?_
    refine cB (s_isPrime hM (by omega)) ?_
    congr 1
    congr 1
    congr 1
    refine gB H1.t6 ?_
    rw [H1.p6_1]
    refine gB H1.t7 ?_
    rw [w32_e (z := n - 1) (by omega), w32_e (z := n + 1) (by omega)]
  rcases prS_01 n with p | p
  · have z : lyOK n s = false := by unfold lyOK; rw [p]; rfl
    rw [z]
    exact ⟨h1, st (ifT p rfl), A1, L1.1, fun y => by cases y⟩
  have p0 : ¬ prS n = 0 := by omega
  by_cases s0 : s = 0
  · subst s0
    by_cases h100 : n < 100
    · have z : lyOK n 0 = true := by unfold lyOK; rw [p, if_pos rfl, decide_eq_true h100]; rfl
      rw [z]
      exact ⟨h1, st (ifF p0 (ifT rfl (ifT h100 rfl))), A1, L1.1, fun _ => ⟨c1, by rw [if_pos rfl]; exact L1⟩⟩
    · have z : lyOK n 0 = false := by unfold lyOK; rw [p, if_pos rfl, decide_eq_false h100]; rfl
      rw [z]
      exact ⟨h1, st (ifF p0 (ifT rfl (ifF h100 rfl))), A1, L1.1, fun y => by cases y⟩
  by_cases two : n = 2
  · have z : lyOK n s = false := by unfold lyOK; rw [p, if_neg s0, decide_eq_false (show ¬ (n ≠ 2) from fun y => y two)]; rfl
    rw [z]
    exact ⟨h1, st (ifF p0 (ifF s0 (ifT two rfl))), A1, L1.1, fun y => by cases y⟩
  have z : lyOK n s = true := by unfold lyOK; rw [p, if_neg s0, decide_eq_true two]; rfl
  rw [z]
  have nb := isP_nb hn (prS_isP p) two
  obtain ⟨h2, e2, F2, D2⟩ := s_split hM (H1.fo (Or.inl rfl)) (n := n - 1) (by omega) (by omega)
  have H2 := H1.fr F2 fun b j => FK.mut (Or.inl rfl)
  have L2 := L1.frF F2 (by omega)
  obtain ⟨h3, e3, F3, D3⟩ := s_split hM (H2.fo (Or.inr (Or.inl rfl))) (n := n + 1) (by omega) (by omega)
  have H3 := H2.fr F3 fun b j => FK.mut (Or.inr (Or.inl rfl))
  have L3 := L2.frF F3 (by omega)
  have D7 : FD h3 7 (facS (n - 1)) := D2.fr F3 (fun j _ => by unfold FK; omega) (fun j => by unfold FK; omega) (fun j => by unfold FK; omega)
  have A3 : Fr (AK a) h h3 := A1.tr ((F2.mo fun b j z => Or.inr (Or.inl z)).tr (F3.mo fun b j z => Or.inr (Or.inr z)))
  have c3 : hCe h3 a 6 = -1 := (F3.2 _ _ (by unfold FK; omega)).trans ((F2.2 _ _ (by unfold FK; omega)).trans c1)
  have lo := nb_lo nb
  have hi := nb_hi nb
  have lo9 := lo.2
  have hi9 := hi.2
  have okD : ∀ x ∈ facS (n - 1), okR (rD 0 x) := fun x hx => by
    have := nb_lo1 nb hx
    exact rD_ok nb ⟨this.1, this.2.1, this.2.2.1, this.2.2.2.2⟩
  have okU : ∀ x ∈ facS (n + 1), okR (rD 0 x) := fun x hx => by
    have := nb_hi1 nb hx
    exact rD_ok nb ⟨this.1, this.2.1, this.2.2.1, this.2.2.2.2⟩
  have fin : ∀ {h4 : AH} {D U : List RW}, Fr (SL a) h3 h4 → LD h4 a ((n, s, 0, 0), D, U) → lyS n s 0 = (D, U) → Fr (AK a) h h4 ∧ Blk h4 a ∧ (true = true → hCe h4 a 6 = -1 ∧ LD h4 a (if s = 0 then ((n, 0, 0, 0), [], []) else ((n, s, 0, 0), (lyS n s 0).1, (lyS n s 0).2))) := by
    intro h4 D U F4 L4 e
    refine ⟨A3.tr (F4.mo fun b j y => Or.inl (Or.inr y)), L4.1, fun _ => ⟨(F4.2 _ _ (by unfold SL SK; omega)).trans c3, ?_⟩⟩
    rw [if_neg s0, e]
    exact L4
  have st3 : ∀ {r}, (if s = 1 then
          (Finder_layAll (a + 1) 7 h3).bind fun h13 =>
          some (1, h13)
        else if s = 2 then
          (Finder_layByTurns 6 a (facS (n - 1)).length 0 h3).bind fun h17 =>
          some (1, h17)
        else if s = 3 then
          (Finder_layAll (a + 3) 10 h3).bind fun h21 =>
          some (1, h21)
        else 
          (Finder_layByTurns 6 a (facS (n - 1)).length (facS (n + 1)).length h3).bind fun h27 =>
          some (1, h27)) = r → Finder_lay 6 a n s h = r := by
    rintro r rfl
    refine st (ifF p0 (ifF s0 (ifF two ?_)))
    refine cB e2 ?_
    refine gB H2.t6 ?_
    rw [H2.p6_2]
    refine gB H2.t10 ?_
    refine cB e3 ?_
    congr 1
    · refine gB L3.1.t ?_
      rw [L3.1.p0]
      refine gB H3.t6 ?_
      rw [H3.p6_1]
    · congr 1
      · refine gB H3.t6 ?_
        rw [H3.p6_1]
        refine gB H3.t7 ?_
        rw [D7.2.1]
        exact gB H3.t6 rfl
      · congr 1
        · refine gB L3.1.t ?_
          rw [L3.1.p1]
          refine gB H3.t6 ?_
          rw [H3.p6_2]
        · refine gB H3.t6 ?_
          rw [H3.p6_1]
          refine gB H3.t7 ?_
          refine gB H3.t6 ?_
          rw [H3.p6_2]
          refine gB H3.t10 ?_
          rw [D7.2.1, D3.2.1]
          exact gB H3.t6 rfl
  by_cases s1 : s = 1
  · obtain ⟨h4, e4, F4, S4⟩ := la_all (s := a + 1) (o := 7) (fs := facS (n - 1)) (by omega) (facS (n - 1)).length FU 0 h3 (by omega) (fu_big (by omega)) D7 L3.2.2.1
    have L4 := L3.side F4 (fun b j y => Or.inl y) S4 (L3.2.2.2.frS F4 (by omega))
    obtain ⟨r1, r2, r3⟩ := fin (F4.mo fun b j y => Or.inl y) L4 (by unfold lyS; rw [if_pos s1])
    exact ⟨h4, st3 (ifT s1 (cB e4 rfl)), r1, r2, r3⟩
  by_cases s2 : s = 2
  · have L3' : LD h3 a ((n, 2, 0, 0), rvD 0 ((facS (n - 1)).drop (facS (n - 1)).length), rvD 0 (([] : List FE).drop 0)) := by rw [dr_e (Nat.le_refl _), ← s2]; exact L3
    obtain ⟨h4, e4, F4, L4⟩ := lt_loop nb hA (s := 2) (U := []) lo9 (Nat.zero_le _) okD (fun x hx => absurd hx List.not_mem_nil) (by rw [lo.1.2.2]; exact pf_all nb (Or.inl rfl) (fun y => by omega)) 18 FU (facS (n - 1)).length 0 false 0 h3 (by omega) (by omega) (by omega) (fu_big (by omega)) (Nat.le_refl _) (Nat.le_refl _) H3 D7 (fun y => by omega) L3'
    have L4' : LD h4 a ((n, s, 0, 0), rvD 0 ((facS (n - 1)).drop (tuN n 2 (facS (n - 1)) [] 18 (facS (n - 1)).length 0 false).1), []) := by
      have : ∀ i, rvD 0 (([] : List FE).drop i) = [] := fun i => by rw [List.drop_nil]; rfl
      rw [this] at L4
      rw [s2]
      exact L4
    obtain ⟨r1, r2, r3⟩ := fin F4 L4' (by unfold lyS; rw [if_neg s1, if_pos s2])
    exact ⟨h4, st3 (ifF s1 (ifT s2 (cB e4 rfl))), r1, r2, r3⟩
  by_cases s3 : s = 3
  · obtain ⟨h4, e4, F4, S4⟩ := la_all (s := a + 3) (o := 10) (fs := facS (n + 1)) (by omega) (facS (n + 1)).length FU 0 h3 (by omega) (fu_big (by omega)) D3 L3.2.2.2
    have L4 := L3.side F4 (fun b j y => Or.inr y) (L3.2.2.1.frS F4 (by omega)) S4
    obtain ⟨r1, r2, r3⟩ := fin (F4.mo fun b j y => Or.inr y) L4 (by unfold lyS; rw [if_neg s1, if_neg s2, if_pos s3])
    exact ⟨h4, st3 (ifF s1 (ifF s2 (ifT s3 (cB e4 rfl)))), r1, r2, r3⟩
  · have s4 : s = 4 := by omega
    have L3' : LD h3 a ((n, 4, 0, 0), rvD 0 ((facS (n - 1)).drop (facS (n - 1)).length), rvD 0 ((facS (n + 1)).drop (facS (n + 1)).length)) := by rw [dr_e (Nat.le_refl _), dr_e (Nat.le_refl _), ← s4]; exact L3
    obtain ⟨h4, e4, F4, L4⟩ := lt_loop nb hA (s := 4) lo9 hi9 okD okU (by rw [lo.1.2.2, hi.1.2.2]; exact pf_all nb (Or.inr rfl) (fun _ => rfl)) 18 FU (facS (n - 1)).length (facS (n + 1)).length false 0 h3 (by omega) (by omega) (by omega) (fu_big (by omega)) (Nat.le_refl _) (Nat.le_refl _) H3 D7 (fun _ => D3) L3'
    rw [← s4] at L4
    obtain ⟨r1, r2, r3⟩ := fin F4 L4 (by unfold lyS; rw [if_neg s1, if_neg s2, if_neg s3, ← s4])
    exact ⟨h4, st3 (ifF s1 (ifF s2 (ifF s3 (cB e4 rfl)))), r1, r2, r3⟩
/-! ### bases -/
theorem LD.put {h : AH} {a : Int} {l : LN} (L : LD h a l) {i : Nat} (hi : i < l.2.1.length) {v : Int} : ∃ h', Side_put (a + 1) i 2 v h = some h' ∧ Fr (SK (a + 1)) h h' ∧ LD h' a (l.1, l.2.1.set i ((gt l.2.1 i).1, (gt l.2.1 i).2.1, v), l.2.2) := by
  obtain ⟨h', e', F', S'⟩ := s_put L.2.2.1 hi (c := 2) (by omega) (v := v)
  have F2 : Fr (SK (a + 1)) h h' := F'.mo fun b j z => Or.inr z.1
  exact ⟨h', e', F2, L.side F2 (fun b j y => Or.inl y) S' (L.2.2.2.frS F2 (by omega))⟩
theorem so_put {k2 : Int → Int → AH → Option (Int × AH)} {a v : Int} {l : LN} : ∀ (m f j : Nat) (h : AH), j + m = l.2.1.length → m < f → LD h a (l.1, (l.2.1.take j).map (sbR v) ++ l.2.1.drop j, l.2.2) → ∃ h', Fr (SK (a + 1)) h h' ∧ LD h' a (l.1, l.2.1.map (sbR v), l.2.2) ∧ Finder_seekOneBase_11 k2 f a v j h = ((Checker_downFault a h').bind fun u6 => if u6 = 0 then some (1, h') else k2 a (w32 (v + 1)) h') := by
  have len : ∀ j, j ≤ l.2.1.length → ((l.2.1.take j).map (sbR v) ++ l.2.1.drop j).length = l.2.1.length := fun j hj => by
    rw [List.length_append, List.length_map, List.length_take, List.length_drop]; omega
  intro m
  induction m with
  | zero =>
    intro f j h hj hf L
    obtain ⟨f, rfl, -⟩ := fu_pos hf
    have e : hCe h (a + 1) 1 = (l.2.1.length : Int) := by
      have := L.2.2.1.2.1
      rw [len j (by omega)] at this
      exact this
    have L0 := L
    rw [dr_e (by omega), List.append_nil, List.take_of_length_le (by omega)] at L
    refine ⟨h, Fr.rf, L, ?_⟩
    conv => lhs; unfold Finder_seekOneBase_11
    refine gB L.1.t ?_
    rw [L.1.p0]
    refine gB L.1.d.1 ?_
    rw [e]
    exact ifF (by omega) rfl
  | succ m ih =>
    intro f j h hj hf L
    obtain ⟨f, rfl, hf⟩ := fu_pos hf
    have hj' : j < l.2.1.length := by omega
    have e : hCe h (a + 1) 1 = (l.2.1.length : Int) := by
      have := L.2.2.1.2.1
      rw [len j (by omega)] at this
      exact this
    have h9 : l.2.1.length ≤ 9 := by
      have := L.2.2.1.2.2.1
      rw [len j (by omega)] at this
      exact this
    obtain ⟨h1, e1, F1, L1⟩ := L.put (i := j) (by show j < ((l.2.1.take j).map (sbR v) ++ l.2.1.drop j).length; rw [len j (by omega)]; exact hj') (v := v)
    have g0 : gt ((l.2.1.take j).map (sbR v) ++ l.2.1.drop j) j = gt l.2.1 j := by
      rw [gt_ap, if_neg (by rw [List.length_map, List.length_take]; omega), List.length_map, List.length_take, show j - min j l.2.1.length = 0 by omega, gt_dr hj']
      rfl
    have nx : (l.2.1.take (j + 1)).map (sbR v) ++ l.2.1.drop (j + 1) = ((l.2.1.take j).map (sbR v) ++ l.2.1.drop j).set j (sbR v (gt l.2.1 j)) := by
      rw [← tk_s hj', List.map_append, List.append_assoc, gt_dr hj']
      rw [List.set_append_right _ _ (by rw [List.length_map, List.length_take]; omega), List.length_map, List.length_take, show j - min j l.2.1.length = 0 by omega]
      rfl
    have L1' : LD h1 a (l.1, (l.2.1.take (j + 1)).map (sbR v) ++ l.2.1.drop (j + 1), l.2.2) := by
      rw [nx]
      have := L1
      rw [show gt (l.1, (l.2.1.take j).map (sbR v) ++ l.2.1.drop j, l.2.2).2.1 j = gt l.2.1 j from g0] at this
      exact this
    obtain ⟨h2, F2, L2, e2⟩ := ih f (j + 1) h1 (by omega) (by omega) L1'
    refine ⟨h2, F1.tr F2, L2, ?_⟩
    conv => lhs; unfold Finder_seekOneBase_11
    refine gB L.1.t ?_
    rw [L.1.p0]
    refine gB L.1.d.1 ?_
    rw [e]
    refine ifT (by omega) ?_
    refine gB L.1.t ?_
    refine gB L.1.d.1 ?_
    refine cB e1 ?_
    rw [w32_e (z := (j : Int) + 1) (by omega)]
    exact e2
theorem so_loop {a : Int} {l : LN} (hn : okN l.1.1) (hq : ∀ r ∈ l.2.1, 1 ≤ r.1) : ∀ (m f : Nat) (v : Int) (h : AH) (l1 : List RW), v + m = 1000 → 2 ≤ v → m < f → (∀ x, l1.map (sbR x) = l.2.1.map (sbR x)) → LD h a (l.1, l1, l.2.2) → ∃ h', Finder_seekOneBase_2 f a v h = some (ob (fstB (fun b => decide (dfS l.1.1 (l.2.1.map (sbR b)) = 0)) m v), h') ∧ Fr (SK (a + 1)) h h' ∧ Blk h' a ∧ ∀ w, fstB (fun b => decide (dfS l.1.1 (l.2.1.map (sbR b)) = 0)) m v = some w → LD h' a (l.1, l.2.1.map (sbR w), l.2.2) := by
  intro m
  induction m with
  | zero =>
    intro f v h l1 hv h2 hf hl L
    obtain ⟨f, rfl, -⟩ := fu_pos hf
    refine ⟨h, ?_, Fr.rf, L.1, fun w hw => by cases hw⟩
    unfold Finder_seekOneBase_2
    exact ifT (by omega) rfl
  | succ m ih =>
    intro f v h l1 hv h2 hf hl L
    obtain ⟨f, rfl, hf⟩ := fu_pos hf
    obtain ⟨h1, F1, L1, e1⟩ := so_put (k2 := fun a0 a1 h0 => Finder_seekOneBase_2 f a0 a1 h0) (a := a) (v := v) (l := (l.1, l1, l.2.2)) l1.length FU 0 h (by show 0 + l1.length = l1.length; omega) (fu_big (by have := L.2.2.1.2.2.1; have h9 : l1.length ≤ 9 := this; omega)) L
    have L1' : LD h1 a (l.1, l.2.1.map (sbR v), l.2.2) := by rw [← hl]; exact L1
    have df := s_downFault L1' hn (fun r hr => by
      obtain ⟨x, hx, rfl⟩ := List.mem_map.mp hr
      exact ⟨hq x hx, by show 0 ≤ v; omega⟩)
    have run : Finder_seekOneBase_2 (f + 1) a v h = if dfS l.1.1 (l.2.1.map (sbR v)) = 0 then some (1, h1) else Finder_seekOneBase_2 f a (v + 1) h1 := by
      conv => lhs; unfold Finder_seekOneBase_2
      refine ifF (by omega) ?_
      refine e1.trans ?_
      refine cB df ?_
      rw [w32_e (by omega)]
    unfold fstB
    by_cases z : dfS l.1.1 (l.2.1.map (sbR v)) = 0
    · rw [if_pos (decide_eq_true z)]
      refine ⟨h1, by rw [run, if_pos z]; rfl, F1, L1'.1, fun w hw => by cases hw; exact L1'⟩
    · rw [if_neg (fun y => z (of_decide_eq_true y))]
      obtain ⟨h', e', F', B', L'⟩ := ih f (v + 1) h1 (l.2.1.map (sbR v)) (by omega) (by omega) (by omega) (fun x => by rw [List.map_map]; rfl) L1'
      exact ⟨h', by rw [run, if_neg z]; exact e', F1.tr F', B', L'⟩
theorem s_leastBase {n q : Int} (hn : okN n) (hq : 1 ≤ q) : Finder_leastBase n q = some (match lbS n q with | some v => v | none => -1) := by
  have main : ∀ (m f : Nat) (a : Int), a + m = 1000 → 2 ≤ a → m < f → Finder_leastBase_2 f n q a = some (match fstB (fun a => decide (rfS n q a = 0)) m a with | some v => v | none => -1) := by
    intro m
    induction m with
    | zero =>
      intro f a ha h2 hf
      obtain ⟨f, rfl, -⟩ := fu_pos hf
      unfold Finder_leastBase_2
      exact ifT (by omega) rfl
    | succ m ih =>
      intro f a ha h2 hf
      obtain ⟨f, rfl, hf⟩ := fu_pos hf
      unfold Finder_leastBase_2 fstB
      refine ifF (by omega) ?_
      refine cB (s_rowFault hn hq (by omega)) ?_
      by_cases z : rfS n q a = 0
      · refine ifT z ?_
        rw [if_pos (decide_eq_true z)]
      · refine ifF z ?_
        rw [if_neg (fun y => z (of_decide_eq_true y)), w32_e (by omega)]
        exact ih f (a + 1) (by omega) (by omega) (by omega)
  exact main 998 FU 2 (by omega) (by omega) (fu_big (by omega))
theorem sb_loop {a : Int} {l : LN} (hn : okN l.1.1) (hq : ∀ r ∈ l.2.1, 1 ≤ r.1) : ∀ (m f j : Nat) (h : AH) (pre : List RW), j + m = l.2.1.length → m < f → pre.length = j → LD h a (l.1, pre ++ l.2.1.drop j, l.2.2) → ∃ h', Finder_seekBases_2 f a j h = some (ob (bsS l.1.1 (l.2.1.drop j)), h') ∧ Fr (SK (a + 1)) h h' ∧ Blk h' a ∧ ∀ v, bsS l.1.1 (l.2.1.drop j) = some v → LD h' a (l.1, pre ++ v, l.2.2) := by
  intro m
  induction m with
  | zero =>
    intro f j h pre hj hf hp L
    obtain ⟨f, rfl, -⟩ := fu_pos hf
    have e : hCe h (a + 1) 1 = (((pre ++ l.2.1.drop j).length : Nat) : Int) := L.2.2.1.2.1
    have e3 : (pre ++ l.2.1.drop j).length = l.2.1.length := by rw [List.length_append, List.length_drop]; omega
    rw [e3] at e
    rw [dr_e (show l.2.1.length ≤ j by omega)] at L ⊢
    refine ⟨h, ?_, Fr.rf, L.1, fun v hv => by cases hv; exact L⟩
    unfold Finder_seekBases_2
    refine gB L.1.t ?_
    rw [L.1.p0]
    refine gB L.1.d.1 ?_
    rw [e]
    exact ifF (by omega) rfl
  | succ m ih =>
    intro f j h pre hj hf hp L
    obtain ⟨f, rfl, hf⟩ := fu_pos hf
    have hj' : j < l.2.1.length := by omega
    have hr := hq _ (gt_mem hj')
    have e : hCe h (a + 1) 1 = (((pre ++ l.2.1.drop j).length : Nat) : Int) := L.2.2.1.2.1
    have e3 : (pre ++ l.2.1.drop j).length = l.2.1.length := by rw [List.length_append, List.length_drop]; omega
    have h9 : (pre ++ l.2.1.drop j).length ≤ 9 := L.2.2.1.2.2.1
    rw [e3] at e h9
    have g0 : gt (pre ++ l.2.1.drop j) j = gt l.2.1 j := by
      rw [gt_ap, if_neg (by omega), show j - pre.length = 0 by omega, gt_dr hj']
      rfl
    have lt : j < (pre ++ l.2.1.drop j).length := by omega
    have cell : Side_cell (a + 1) j 0 h = some (gt l.2.1 j).1 := by
      have := s_cell0 L.2.2.1 lt
      rw [show gt (l.1, pre ++ l.2.1.drop j, l.2.2).2.1 j = gt l.2.1 j from g0] at this
      exact this
    have pre1 : ∀ {r}, ((Finder_leastBase l.1.1 (gt l.2.1 j).1).bind fun u6 =>
      if u6 < 0 then
        some (0, h)
      else
        (Side_put (a + 1) j 2 u6 h).bind fun h9 =>
        Finder_seekBases_2 f a ((j + 1 : Nat) : Int) h9) = r → Finder_seekBases_2 (f + 1) a j h = r := by
      rintro r rfl
      conv => lhs; unfold Finder_seekBases_2
      refine gB L.1.t ?_
      rw [L.1.p0]
      refine gB L.1.d.1 ?_
      rw [e]
      refine ifT (by omega) ?_
      refine gB L.1.t ?_
      rw [L.2.1.1]
      refine gB L.1.t ?_
      refine gB L.1.d.1 ?_
      refine cB cell ?_
      congr 1
      funext u6
      congr 1
      refine gB L.1.t ?_
      refine gB L.1.d.1 ?_
      rw [w32_e (by omega)]
      rfl
    have lb0 := s_leastBase hn hr
    rw [gt_dr hj']
    unfold bsS
    cases lb : lbS l.1.1 (gt l.2.1 j).1 with
    | none =>
      rw [lb] at lb0
      exact ⟨h, pre1 (cB lb0 (ifT (by show (-1 : Int) < 0; omega) rfl)), Fr.rf, L.1, fun v hv => by cases hv⟩
    | some b =>
      rw [lb] at lb0
      have b2 := (fstB_s lb).1
      obtain ⟨h1, e1, F1, L1⟩ := L.put (i := j) lt (v := b)
      have L1' : LD h1 a (l.1, (pre ++ [((gt l.2.1 j).1, (gt l.2.1 j).2.1, b)]) ++ l.2.1.drop (j + 1), l.2.2) := by
        have nx : (pre ++ [((gt l.2.1 j).1, (gt l.2.1 j).2.1, b)]) ++ l.2.1.drop (j + 1) = (pre ++ l.2.1.drop j).set j ((gt l.2.1 j).1, (gt l.2.1 j).2.1, b) := by
          rw [gt_dr hj', List.set_append_right _ _ (by omega), show j - pre.length = 0 by omega, List.append_assoc]
          rfl
        rw [nx]
        have := L1
        rw [show gt (l.1, pre ++ l.2.1.drop j, l.2.2).2.1 j = gt l.2.1 j from g0] at this
        exact this
      obtain ⟨h', e', F', B', L'⟩ := ih f (j + 1) h1 (pre ++ [((gt l.2.1 j).1, (gt l.2.1 j).2.1, b)]) (by omega) (by omega) (by rw [List.length_append]; simp; omega) L1'
      refine ⟨h', pre1 (cB lb0 (ifF (by show ¬ b < 0; omega) (cB e1 ?_))), F1.tr F', B', fun v hv => ?_⟩
      · rw [e']
        cases bsS l.1.1 (l.2.1.drop (j + 1)) <;> rfl
      · cases bs : bsS l.1.1 (l.2.1.drop (j + 1)) with
        | none => rw [bs] at hv; cases hv
        | some v' =>
          rw [bs] at hv
          cases hv
          have := L' v' bs
          rw [List.append_assoc] at this
          exact this
/-! ### pairs -/
def PK (a b j : Int) : Prop := b = a ∧ (j = 4 ∨ j = 5)
theorem LD.pq {h : AH} {a p q : Int} {l : LN} (L : LD h a l) : LD (hSet (hSet h a 4 p) a 5 q) a ((l.1.1, l.1.2.1, p, q), l.2.1, l.2.2) := by
  have F : Fr (PK a) h (hSet (hSet h a 4 p) a 5 q) := (Fr.set ⟨rfl, Or.inl rfl⟩).setT ⟨rfl, Or.inr rfl⟩
  refine ⟨L.1.fr F (by unfold PK; omega) (by unfold PK; omega) (by unfold PK; omega) (by unfold PK; omega), ⟨?_, ?_, ?_, cS _ _ _ _⟩, L.2.2.1.fr F (by unfold PK; omega) (by unfold PK; omega) (fun j => by unfold PK; omega), L.2.2.2.fr F (by unfold PK; omega) (by unfold PK; omega) (fun j => by unfold PK; omega)⟩
  · rw [cN (by omega), cN (by omega)]; exact L.2.1.1
  · rw [cN (by omega), cN (by omega)]; exact L.2.1.2.1
  · rw [cN (by omega)]; exact cS _ _ _ _
theorem pq_in {k2 : Int → Int → AH → Option (Int × AH)} {a : Int} {n s : Int} {D U : List RW} (hn : okN n) (hs : s = 3 ∨ s = 4) (hq : ∀ r ∈ U, 1 ≤ r.1) {p : Int} (hp : okP p) : ∀ (m f : Nat) (q : Int) (h : AH) (p0 q0 : Int), q + m = 100 → 1 ≤ q → m < f → LD h a ((n, s, p0, q0), D, U) → ∃ h', Fr (PK a) h h' ∧ (match fstB (fun q => decide (upS n p q U = 0)) m q with
    | some v => Finder_seekPQ_10 k2 f a p q h = some (1, h') ∧ LD h' a ((n, s, p, v), D, U)
    | none => Finder_seekPQ_10 k2 f a p q h = k2 a (p + 1) h' ∧ ∃ p1 q1, LD h' a ((n, s, p1, q1), D, U)) := by
  have p1 := hp.1
  have p2 := hp.2
  intro m
  induction m with
  | zero =>
    intro f q h p0 q0 hqm h1 hf L
    obtain ⟨f, rfl, -⟩ := fu_pos hf
    refine ⟨h, Fr.rf, ?_, p0, q0, L⟩
    unfold Finder_seekPQ_10
    refine ifT (by omega) ?_
    rw [w32_e (by omega)]
  | succ m ih =>
    intro f q h p0 q0 hqm h1 hf L
    obtain ⟨f, rfl, hf⟩ := fu_pos hf
    have L1 := L.pq (p := p) (q := q)
    have uf := s_upFault L1 hn hs hp (show okP q from ⟨h1, by omega⟩) hq
    have F1 : Fr (PK a) h (hSet (hSet h a 4 p) a 5 q) := (Fr.set ⟨rfl, Or.inl rfl⟩).setT ⟨rfl, Or.inr rfl⟩
    have run : Finder_seekPQ_10 k2 (f + 1) a p q h = if upS n p q U = 0 then some (1, hSet (hSet h a 4 p) a 5 q) else Finder_seekPQ_10 k2 f a p (q + 1) (hSet (hSet h a 4 p) a 5 q) := by
      conv => lhs; unfold Finder_seekPQ_10
      refine ifF (by omega) ?_
      refine gB L.1.t ?_
      refine gB L.1.t ?_
      refine cB uf ?_
      rw [w32_e (by omega)]
    unfold fstB
    by_cases z : upS n p q U = 0
    · rw [if_pos (decide_eq_true z)]
      exact ⟨_, F1, by rw [run, if_pos z], L1⟩
    · rw [if_neg (fun y => z (of_decide_eq_true y))]
      obtain ⟨h', F', r⟩ := ih f (q + 1) _ p q (by omega) (by omega) (by omega) L1
      refine ⟨h', F1.tr F', ?_⟩
      rw [run, if_neg z]
      exact r
theorem pq_out {a : Int} {n s : Int} {D U : List RW} (hn : okN n) (hs : s = 3 ∨ s = 4) (hq : ∀ r ∈ U, 1 ≤ r.1) : ∀ (m f : Nat) (p : Int) (h : AH) (p0 q0 : Int), p + m = 100 → 1 ≤ p → m < f → LD h a ((n, s, p0, q0), D, U) → ∃ h', Finder_seekPQ_2 f a p h = some (ob (pqS n U m p), h') ∧ Fr (PK a) h h' ∧ Blk h' a ∧ ∀ v, pqS n U m p = some v → LD h' a ((n, s, v.1, v.2), D, U) := by
  intro m
  induction m with
  | zero =>
    intro f p h p0 q0 hp h1 hf L
    obtain ⟨f, rfl, -⟩ := fu_pos hf
    refine ⟨h, ?_, Fr.rf, L.1, fun v hv => by cases hv⟩
    unfold Finder_seekPQ_2
    exact ifT (by omega) rfl
  | succ m ih =>
    intro f p h p0 q0 hp h1 hf L
    obtain ⟨f, rfl, hf⟩ := fu_pos hf
    obtain ⟨g, F, r⟩ := pq_in (k2 := fun a0 a1 h0 => Finder_seekPQ_2 f a0 a1 h0) hn hs hq (p := p) ⟨h1, by omega⟩ 99 FU 1 h p0 q0 (by omega) (by omega) (fu_big (by omega)) L
    have run : Finder_seekPQ_2 (f + 1) a p h = Finder_seekPQ_10 (fun a0 a1 h0 => Finder_seekPQ_2 f a0 a1 h0) FU a p 1 h := by
      conv => lhs; unfold Finder_seekPQ_2
      exact ifF (by omega) rfl
    unfold pqS
    cases fs : fstB (fun q => decide (upS n p q U = 0)) 99 1 with
    | some v =>
      rw [fs] at r
      exact ⟨g, run.trans r.1, F, r.2.1, fun w hw => by cases hw; exact r.2⟩
    | none =>
      rw [fs] at r
      obtain ⟨p1, q1, LG⟩ := r.2
      obtain ⟨h', e', F', B', L'⟩ := ih f (p + 1) g p1 q1 (by omega) (by omega) (by omega) LG
      exact ⟨h', run.trans (r.1.trans e'), F.tr F', B', L'⟩
/-- what seeking changes -/
def LQ (a b j : Int) : Prop := PK a b j ∨ SK (a + 1) b j
theorem LQ.lk {a b j : Int} (h : LQ a b j) : LK a b j := h.elim (fun z => Or.inl (by unfold PK at z; omega)) fun z => Or.inr (Or.inl z)
theorem s_seek {h : AH} {a n s : Int} {D U : List RW} (hn : okN n) (hs : 1 ≤ s ∧ s ≤ 4) (L : LD h a ((n, s, 0, 0), D, U)) (qD : ∀ r ∈ D, 1 ≤ r.1) (qU : ∀ r ∈ U, 1 ≤ r.1) : ∃ h', Finder_seek a h = some (ob (seS n s D U), h') ∧ Fr (LQ a) h h' ∧ Blk h' a ∧ ∀ l, seS n s D U = some l → LD h' a l := by
  have k1 : ∀ b j, SK (a + 1) b j → LQ a b j := fun b j z => Or.inr z
  have k2 : ∀ b j, PK a b j → LQ a b j := fun b j z => Or.inl z
  have d9 : D.length ≤ 9 := L.2.2.1.2.2.1
  unfold Finder_seek seS
  have c3 : hCe h a 3 = s := L.2.1.2.1
  by_cases s1 : s = 1
  · obtain ⟨h1, e1, F1, B1, L1⟩ := so_loop (a := a) (l := ((n, s, 0, 0), D, U)) hn qD 998 FU 2 h D (by omega) (by omega) (fu_big (by omega)) (fun _ => rfl) L
    rw [if_pos s1]
    have e1' : Finder_seekOneBase a h = some (ob (fbS n D), h1) := e1
    have pre : ∀ {r}, (gd (0 ≤ ob (fbS n D) ∧ ob (fbS n D) ≤ 1) 0).bind (fun _ => some (ob (fbS n D), h1)) = r → ((gd (hTy h a = 4) (hCe h a 3)).bind fun u1 =>
        if u1 = 1 then
          (Finder_seekOneBase a h).bind fun u2 =>
          (gd (0 ≤ u2.1 ∧ u2.1 ≤ 1) 0).bind fun _ => some (u2.1, u2.2)
        else if u1 = 2 then
          (Finder_seekBases a h).bind fun u3 =>
          (gd (0 ≤ u3.1 ∧ u3.1 ≤ 1) 0).bind fun _ => some (u3.1, u3.2)
        else if u1 = 3 then
          (Finder_seekPQ a h).bind fun u4 =>
          (gd (0 ≤ u4.1 ∧ u4.1 ≤ 1) 0).bind fun _ => some (u4.1, u4.2)
        else if u1 = 4 then
          (Finder_seekBases a h).bind fun u5 =>
          if u5.1 = 0 then
            some (0, u5.2)
          else
            (Finder_seekPQ a u5.2).bind fun u6 =>
            if u6.1 = 0 then
              some (0, u6.2)
            else
              some (1, u6.2)
        else 
          some (1, h)) = r := by
      rintro r rfl
      refine gB L.1.t ?_
      rw [c3]
      refine ifT s1 ?_
      exact cB e1' rfl
    have L1' : ∀ w, fbS n D = some w → LD h1 a ((n, s, 0, 0), D.map (sbR w), U) := L1
    cases fb : fbS n D with
    | none =>
      rw [fb] at pre
      exact ⟨h1, pre (gB ⟨Int.le_refl 0, by show (0 : Int) ≤ 1; omega⟩ rfl), F1.mo k1, B1, fun l hl => by cases hl⟩
    | some v =>
      rw [fb] at pre
      exact ⟨h1, pre (gB ⟨by show (0 : Int) ≤ 1; omega, Int.le_refl 1⟩ rfl), F1.mo k1, B1, fun l hl => by cases hl; exact L1' v fb⟩
  rw [if_neg s1]
  have bases := sb_loop (a := a) (l := ((n, s, 0, 0), D, U)) hn qD D.length FU 0 h [] (by show 0 + D.length = D.length; omega) (fu_big (by omega)) rfl L
  obtain ⟨h1, e1, F1, B1, L1⟩ := bases
  rw [List.drop_zero] at e1 L1
  have e1' : Finder_seekBases a h = some (ob (bsS n D), h1) := e1
  have L1' : ∀ v, bsS n D = some v → LD h1 a ((n, s, 0, 0), v, U) := L1
  by_cases s2 : s = 2
  · rw [if_pos s2]
    refine ⟨h1, ?_, F1.mo k1, B1, fun l hl => ?_⟩
    · refine gB L.1.t ?_
      rw [c3]
      refine ifF s1 (ifT s2 (cB e1' ?_))
      cases bsS n D with
      | none => exact gB ⟨Int.le_refl 0, by show (0 : Int) ≤ 1; omega⟩ rfl
      | some v => exact gB ⟨by show (0 : Int) ≤ 1; omega, Int.le_refl 1⟩ rfl
    · cases bs : bsS n D with
      | none => rw [bs] at hl; cases hl
      | some v => rw [bs] at hl; cases hl; exact L1' v bs
  rw [if_neg s2]
  by_cases s3 : s = 3
  · rw [if_pos s3]
    obtain ⟨h2, e2, F2, B2, L2⟩ := pq_out (a := a) (n := n) (s := s) (D := D) (U := U) hn (Or.inl s3) qU 99 FU 1 h 0 0 (by omega) (by omega) (fu_big (by omega)) L
    have e2' : Finder_seekPQ a h = some (ob (pqS n U 99 1), h2) := e2
    refine ⟨h2, ?_, F2.mo k2, B2, fun l hl => ?_⟩
    · refine gB L.1.t ?_
      rw [c3]
      refine ifF s1 (ifF s2 (ifT s3 (cB e2' ?_)))
      cases pqS n U 99 1 with
      | none => exact gB ⟨Int.le_refl 0, by show (0 : Int) ≤ 1; omega⟩ rfl
      | some v => exact gB ⟨by show (0 : Int) ≤ 1; omega, Int.le_refl 1⟩ rfl
    · cases pq : pqS n U 99 1 with
      | none => rw [pq] at hl; cases hl
      | some v => rw [pq] at hl; cases hl; exact L2 v pq
  rw [if_neg s3]
  have s4 : s = 4 := by omega
  cases bs : bsS n D with
  | none =>
    rw [bs] at e1'
    refine ⟨h1, ?_, F1.mo k1, B1, fun l hl => by cases hl⟩
    refine gB L.1.t ?_
    rw [c3]
    exact ifF s1 (ifF s2 (ifF s3 (ifT s4 (cB e1' (ifT rfl rfl)))))
  | some D' =>
    rw [bs] at e1'
    obtain ⟨h2, e2, F2, B2, L2⟩ := pq_out (a := a) (n := n) (s := s) (D := D') (U := U) hn (Or.inr s4) qU 99 FU 1 h1 0 0 (by omega) (by omega) (fu_big (by omega)) (L1' D' bs)
    have e2' : Finder_seekPQ a h1 = some (ob (pqS n U 99 1), h2) := e2
    cases pq : pqS n U 99 1 with
    | none =>
      rw [pq] at e2'
      refine ⟨h2, ?_, (F1.mo k1).tr (F2.mo k2), B2, fun l hl => by simp only [pq] at hl; cases hl⟩
      refine gB L.1.t ?_
      rw [c3]
      refine ifF s1 (ifF s2 (ifF s3 (ifT s4 (cB e1' (ifF one_ne (cB e2' (ifT rfl ?_)))))))
      simp only [pq]
      rfl
    | some v =>
      rw [pq] at e2'
      refine ⟨h2, ?_, (F1.mo k1).tr (F2.mo k2), B2, fun l hl => by simp only [pq] at hl; cases hl; exact L2 v pq⟩
      refine gB L.1.t ?_
      rw [c3]
      refine ifF s1 (ifF s2 (ifF s3 (ifT s4 (cB e1' (ifF one_ne (cB e2' (ifF one_ne ?_)))))))
      simp only [pq]
      rfl
