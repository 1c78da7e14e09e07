/-! the reference finds -/
def RKK (b j : Int) : Prop := (b = 27 ∧ (j = 6 ∨ j = 7)) ∨ (28 ≤ b ∧ b ≤ 47)
theorem RKK.mut {b j : Int} (h : RKK b j) : Mut b j := mutM (by unfold RKK at h; unfold MutM; omega)
theorem VK.rkk {b j : Int} (h : VK b j) : RKK b j := by have := h.far; unfold RKK; omega
theorem mi_0 {ls : List LN} : ∀ {qs : List Int}, (∀ q ∈ qs, av ls q) → mi1 ls qs = 0
  | [], _ => rfl
  | q :: qs, h => by
    unfold mi1
    have := h q List.mem_cons_self
    unfold av at this
    rw [if_neg (by omega)]
    exact mi_0 fun x hx => h x (List.mem_cons_of_mem _ hx)
theorem mi_q {ls : List LN} {q : Int} {qs : List Int} (hq : ¬ av ls q) : ∀ {ds : List Int}, (∀ x ∈ ds, av ls x) → mi1 ls (ds ++ q :: qs) = q
  | [], _ => by
    show (if ahS ls (rtS ls) ls.length q = -1 then q else mi1 ls qs) = q
    rw [if_pos]
    unfold av at hq
    rcases ahS_bd ls (rtS ls) q ls.length with z | z <;> omega
  | x :: ds, h => by
    show (if ahS ls (rtS ls) ls.length x = -1 then x else mi1 ls (ds ++ q :: qs)) = q
    have := h x List.mem_cons_self
    unfold av at this
    rw [if_neg (by omega)]
    exact mi_q hq fun y hy => h y (List.mem_cons_of_mem _ hy)
/-- what a search leaves when it is refused -/
def faR (h h' : AH) (ls0 : List LN) : Prop := Sh h' ∧ MD h' ls0 ∧ Fr RKK h h'
theorem s_f220 {h : AH} {ls0 ls suf : List LN} (M : RS h ls) (e : ls = ls0 ++ suf) : ∃ h', R_find_220 27 (ls0.length : Int) h = some ((if ls.length = 60 then -3 else -2), h') ∧ faR h h' ls0 := by
  have H := M.1
  have F : Fr RKK h (hSet h 27 7 (ls0.length : Int)) := Fr.set (Or.inl ⟨rfl, Or.inr rfl⟩)
  refine ⟨hSet h 27 7 (ls0.length : Int), ?_, H.fr F fun b j => RKK.mut, ⟨cS _ _ _ _, ?_, fun i hi => ?_⟩, F⟩
  · unfold R_find_220
    refine gB H.t27 ?_
    rw [M.2.1.1]
    by_cases q : ls.length = 60
    · refine ifT (by omega) ?_
      refine gB H.t27 ?_
      rw [if_neg (by omega), if_pos q]
    · refine ifF (by omega) ?_
      refine gB H.t27 ?_
      rw [if_pos rfl, if_neg q]
  · have := M.2.1.2.1
    rw [e, List.length_append] at this
    omega
  · have := M.2.1.2.2 i (by rw [e, List.length_append]; omega)
    rw [e, ← gl_apps hi] at this
    exact ⟨this.1.of fun b j z => cN (by unfold MK at z; omega), this.2⟩
/-- what a search gives: a refusal, or the lines with less fuel and one less waiting -/
def ruR (f w : Nat) (h : AH) (ls0 : List LN) (was : Int) (len : Nat) (r : Int × List LN) (x : Option (Int × AH)) : Prop := if r.1 < 0 then ∃ h', x = some (r.1, h') ∧ faR h h' ls0 else ∃ h' f', x = R_find_107 f' 27 was w h' ∧ RS h' r.2 ∧ f + 1 ≤ f' + 2 * (r.2.length - len) ∧ len < r.2.length ∧ (∀ j : Nat, j < w → hCe h' 46 j = hCe h 46 j ∧ hCe h' 47 j = hCe h 47 j) ∧ Fr RKK h h'
theorem ruR.mv {f f3 w : Nat} {h h3 : AH} {ls0 : List LN} {was : Int} {len len3 : Nat} {r : Int × List LN} {x : Option (Int × AH)} (R : ruR f3 w h3 ls0 was len3 r x) (F : Fr RKK h h3) (kp : ∀ j : Nat, j < w → hCe h3 46 j = hCe h 46 j ∧ hCe h3 47 j = hCe h 47 j) (c : f ≤ f3 + 2 * (len3 - len)) (c2 : len ≤ len3) : ruR f w h ls0 was len r x := by
  unfold ruR at *
  by_cases z : r.1 < 0
  · rw [if_pos z] at R ⊢
    obtain ⟨h', e, A⟩ := R
    exact ⟨h', e, A.1, A.2.1, F.tr A.2.2⟩
  · rw [if_neg z] at R ⊢
    obtain ⟨h', f', e, M, fu, ln, k2, F2⟩ := R
    exact ⟨h', f', e, M, by omega, by omega, fun j hj => ⟨(k2 j hj).1.trans (kp j hj).1, (k2 j hj).2.trans (kp j hj).2⟩, F.tr F2⟩
theorem brR_code (d : Nat) (ls : List LN) (n s : Int) (h : 0 ≤ (brR d ls n s).1) : (brR d ls n s).1 = ((brR d ls n s).2.length : Int) - 1 := by
  cases d with
  | zero => have h' : (0 : Int) ≤ -3 := h; omega
  | succ d =>
    rw [brR_u] at h ⊢
    generalize goB (brR d) (qsS n s) ls = G at h ⊢
    by_cases c : G.1 < 0
    · rw [if_pos c] at h; omega
    · rw [if_neg c] at h ⊢
      by_cases f : 60 ≤ G.2.length
      · rw [if_pos f] at h
        have h' : (0 : Int) ≤ -3 := h
        omega
      · rw [if_neg f] at h ⊢
        cases fd : fdS n s with
        | none =>
          rw [fd] at h
          have h' : (0 : Int) ≤ -2 := h
          omega
        | some l =>
          show (G.2.length : Int) = ((G.2 ++ [l]).length : Int) - 1
          rw [len_app]
          omega
def rcR (k : Nat) : Prop := ∀ (ls0 suf ls : List LN) (n s : Int) (w f : Nat) (h : AH), ls = ls0 ++ suf → CQ k n → s = sortQ n ∨ (0 ≤ s ∧ s ≤ 4 ∧ (s = 0 ∨ n ≠ 2)) → w + k ≤ 60 → 2 * (60 - ls.length) + 2 * k + 4 ≤ f → WT h w n s → RS h ls → ruR f w h ls0 (ls0.length : Int) ls.length (brR (k + 1) ls n s) (R_find_107 f 27 (ls0.length : Int) ((w : Int) + 1) h)
theorem rq_in {k : Nat} (IH : rcR k) {ls0 : List LN} {n s : Int} (hn : okN n) (ip : isP n) (two : s = 0 ∨ n ≠ 2) (hs : 0 ≤ s ∧ s ≤ 4) (cq : ∀ q ∈ qsS n s, CQ k q) {w : Nat} (hw : w + k ≤ 59) : ∀ (qs ds : List Int) (suf ls : List LN) (f : Nat) (h : AH), qsS n s = ds ++ qs → ls = ls0 ++ suf → 2 * (60 - ls.length) + 2 * k + 6 ≤ f → WT h w n s → RS h ls → (∀ q ∈ ds, av ls q) → ruR f w h ls0 (ls0.length : Int) ls.length (if (goB (brR (k + 1)) qs ls).1 < 0 then goB (brR (k + 1)) qs ls else if 60 ≤ (goB (brR (k + 1)) qs ls).2.length then (-3, (goB (brR (k + 1)) qs ls).2) else match fdS n s with
      | none => (-2, (goB (brR (k + 1)) qs ls).2)
      | some l => (((goB (brR (k + 1)) qs ls).2.length : Int), (goB (brR (k + 1)) qs ls).2 ++ [l])) (R_find_107 f 27 (ls0.length : Int) ((w : Int) + 1) h) := by
  intro qs
  have iter : ∀ (ls : List LN) (f : Nat) (h : AH), WT h w n s → RS h ls → ∃ h1, Fr VK h h1 ∧ LM h1 115 (lnS n s) ∧ R_find_107 (f + 1) 27 (ls0.length : Int) ((w : Int) + 1) h = R_find_155 (fun a0 a1 a2 h0 => R_find_107 f a0 a1 a2 h0) 27 (ls0.length : Int) ((w : Int) + 1) n s h1 := by
    intro ls f h W M
    have H := M.1
    obtain ⟨h1, F1, L1, e1⟩ := s_top M hn ip two hs (X := fun h6 => R_find_155 (fun a0 a1 a2 h0 => R_find_107 f a0 a1 a2 h0) 27 (ls0.length : Int) ((w : Int) + 1) n s h6)
    refine ⟨h1, F1, L1, ?_⟩
    conv => lhs; unfold R_find_107
    refine ifT (by omega) ?_
    refine gB H.t27 ?_
    rw [H.p27_21, w32_e (z := (w : Int) + 1 - 1) (by omega), show (w : Int) + 1 - 1 = (w : Int) by omega]
    refine gB ⟨H.t46, by omega, by rw [H.l46]; omega⟩ ?_
    refine gB H.t27 ?_
    rw [H.p27_22]
    refine gB ⟨H.t47, by omega, by rw [H.l47]; omega⟩ ?_
    refine gB H.t27 ?_
    rw [W.1, W.2]
    exact e1
  have miss : ∀ {ls : List LN} {h1 : AH}, RS h1 ls → LM h1 115 (lnS n s) → R_missing 27 h1 = some (mi1 ls (qsS n s)) := by
    intro ls h1 M1 L1
    have := s_missing M1 L1 (fun r hr => by
      by_cases s0 : s = 0
      · unfold lnS at hr
        rw [if_pos s0] at hr
        exact absurd hr List.not_mem_nil
      · have hq : r.1 ∈ qsS n s := by
          rw [← ln_q hs]
          exact List.mem_map.mpr ⟨r, List.mem_append.mpr (Or.inl hr), rfl⟩
        have := (cq _ hq).2.1.1
        omega)
    rw [ln_q hs] at this
    exact this
  induction qs with
  | nil =>
    intro ds suf ls f h e els hf W M avl
    obtain ⟨f, rfl⟩ : ∃ g, f = g + 1 := ⟨f - 1, by omega⟩
    rw [List.append_nil] at e
    have g0 : goB (brR (k + 1)) [] ls = (0, ls) := rfl
    rw [g0, if_neg (by show ¬ (0 : Int) < 0; omega)]
    obtain ⟨h1, F1, L1, e1⟩ := iter ls f h W M
    rw [e1]
    have M1 : RS h1 ls := M.vk F1 fun b j z => Or.inl z
    have H1 := M1.1
    have mi : R_missing 27 h1 = some 0 := by rw [miss M1 L1, e, mi_0 avl]
    have h60 := M.2.1.2.1
    have st : ∀ {r}, (if (ls.length : Int) = (60 : Int) then R_find_220 27 (ls0.length : Int) h1 else (R_works 27 n s h1).bind fun u8 =>
      if u8.1 = 0 then
        R_find_220 27 (ls0.length : Int) u8.2
      else
        (gd (hTy u8.2 27 = 10) (hCe u8.2 27 7)).bind fun u9 =>
        (gd (hTy u8.2 27 = 10) 0).bind fun _ =>
        (R_becomes 27 u9 115 u8.2).bind fun h11 =>
        (gd (hTy h11 27 = 10) (hCe h11 27 19)).bind fun u12 =>
        (gd (hTy h11 27 = 10) (hCe h11 27 7)).bind fun u13 =>
        (gd ((hTy h11 u12 = 23 ∧ -128 ≤ (1 : Int) ∧ (1 : Int) ≤ 127 ∨ hTy h11 u12 = 25 ∧ 0 ≤ (1 : Int) ∧ (1 : Int) ≤ 1) ∧ 0 ≤ u13 ∧ u13 < hLn h11 u12) (hSet h11 u12 u13 (1 : Int))).bind fun h14 =>
        (gd (hTy h14 27 = 10) (hCe h14 27 7)).bind fun u15 =>
        (gd (hTy h14 27 = 10) (hSet h14 27 7 (w32 (u15 + 1)))).bind fun h16 =>
        R_find_107 f 27 (ls0.length : Int) (w : Int) h16) = r → R_find_155 (fun a0 a1 a2 h0 => R_find_107 f a0 a1 a2 h0) 27 (ls0.length : Int) ((w : Int) + 1) n s h1 = r := by
      rintro r rfl
      unfold R_find_155
      refine gB H1.t27 ?_
      refine cB mi ?_
      refine ifF (by omega) ?_
      refine gB H1.t27 ?_
      rw [M1.2.1.1, w32_e (z := (w : Int) + 1 + -1) (by omega), show (w : Int) + 1 + -1 = (w : Int) by omega]
      congr 1
      exact gB H1.t27 rfl
    by_cases full : 60 ≤ ls.length
    · rw [if_pos full]
      obtain ⟨h2, e2, A2⟩ := s_f220 M1 els
      unfold ruR
      rw [if_pos (by show (-3 : Int) < 0; omega)]
      rw [if_pos (by omega)] at e2
      exact ⟨h2, st (ifT (by omega) e2), A2.1, A2.2.1, (F1.mo fun b j => VK.rkk).tr A2.2.2⟩
    · rw [if_neg full]
      obtain ⟨h2, e2, F2, L2⟩ := s_works H1 hn hs
      have M2 : RS h2 ls := M1.vk F2 fun b j z => Or.inl z
      have H2 := M2.1
      cases fd : fdS n s with
      | none =>
        rw [fd] at e2
        obtain ⟨h3, e3, A3⟩ := s_f220 M2 els
        unfold ruR
        rw [if_pos (by show (-2 : Int) < 0; omega)]
        rw [if_neg (by omega)] at e3
        exact ⟨h3, st (ifF (by omega) (cB e2 (ifT rfl e3))), A3.1, A3.2.1, (F1.mo fun b j => VK.rkk).tr ((F2.mo fun b j => VK.rkk).tr A3.2.2)⟩
      | some l =>
        rw [fd] at e2
        have ok := fd_ok hn hs fd
        have rt := fd_right (ls := ls) ok fun q hq => avl q (by rw [e] at hq; exact hq)
        obtain ⟨h3, e3, F3, L3⟩ := s_becomes H2 (k := ls.length) (k2 := 115) (by omega) (by omega) (by omega) (L2 l fd)
        have H3 := H2.fr F3 fun b j => MK.mut
        have e3' : R_becomes 27 (ls.length : Int) 115 h2 = some h3 := e3
        let h4 := hSet (hSet h3 44 ls.length 1) 27 7 ((ls.length : Int) + 1)
        have F4 : Fr (fun b j => (b = 44 ∧ j = (ls.length : Int)) ∨ (b = 27 ∧ j = 7)) h3 h4 := (Fr.set (Or.inl ⟨rfl, rfl⟩)).setT (Or.inr ⟨rfl, rfl⟩)
        have H4 := H3.fr F4 fun b j z => mutM (by unfold MutM; omega)
        have c7 : hCe h3 27 7 = (ls.length : Int) := (F3.2 _ _ (by unfold MK; omega)).trans M2.2.1.1
        have M4 : RS h4 (ls ++ [l]) := by
          refine ⟨H4, ⟨by rw [len_app]; exact cS _ _ _ _, by rw [len_app]; omega, fun i hi => ?_⟩, fun i hi => ?_⟩
          · rw [len_app] at hi
            by_cases z : i = ls.length
            · subst z
              rw [gl_new]
              exact ⟨L3.fr F4 fun b j x y => by unfold MK at x; omega, ok.1⟩
            · have := M2.2.1.2.2 i (by omega)
              rw [← gl_app (by omega)]
              exact ⟨(this.1.fr F3 fun b j x y => by unfold MK at x y; omega).fr F4 fun b j x y => by unfold MK at x; omega, this.2⟩
          · rw [len_app] at hi
            by_cases z : i = ls.length
            · subst z
              rw [rt_1.mpr rt]
              exact (cN (by omega)).trans (cS _ _ _ _)
            · rw [← rt_g ls.length (fun j hj => gl_app hj) i (by omega)]
              refine (F4.2 _ _ (by omega)).trans ((F3.2 _ _ (by unfold MK; omega)).trans (M2.2.2 i (by omega)))
        unfold ruR
        rw [if_neg (by show ¬ (ls.length : Int) < 0; omega)]
        refine ⟨h4, f, st (ifF (by omega) (cB e2 (ifF one_ne ?_))), M4, ?_, by show ls.length < (ls ++ [l]).length; rw [len_app]; omega, fun j hj => ?_, (F1.mo fun b j => VK.rkk).tr ((F2.mo fun b j => VK.rkk).tr ((F3.mo fun b j z => by unfold MK at z; unfold RKK; omega).tr (F4.mo fun b j z => by unfold RKK; omega)))⟩
        · refine gB H2.t27 ?_
          rw [M2.2.1.1]
          refine gB H2.t27 ?_
          refine cB e3' ?_
          refine gB H3.t27 ?_
          rw [H3.p27_19]
          refine gB H3.t27 ?_
          rw [c7]
          refine gB ⟨Or.inr ⟨H3.t44, by omega, by omega⟩, by omega, by rw [H3.l44]; omega⟩ ?_
          refine gB H3.t27 ?_
          rw [cN (b := 27) (j := 7) (by omega), c7, w32_e (z := (ls.length : Int) + 1) (by omega)]
          exact gB H3.t27 rfl
        · show f + 1 + 1 ≤ f + 2 * ((ls ++ [l]).length - ls.length)
          rw [len_app]
          omega
        · have v1 : ∀ b : Int, b = 46 ∨ b = 47 → ∀ i, ¬ VK b i := fun b hb i z => by have := z.far; omega
          have c : ∀ b : Int, b = 46 ∨ b = 47 → hCe h4 b j = hCe h b j := fun b hb => (F4.2 _ _ (by omega)).trans ((F3.2 _ _ (by unfold MK; omega)).trans ((F2.2 _ _ (v1 b hb _)).trans (F1.2 _ _ (v1 b hb _))))
          exact ⟨c 46 (Or.inl rfl), c 47 (Or.inr rfl)⟩
  | cons q qs ih =>
    intro ds suf ls f h e els hf W M avl
    have e' : qsS n s = (ds ++ [q]) ++ qs := by rw [e, List.append_assoc]; rfl
    unfold goB
    by_cases a : 0 ≤ ahS ls (rtS ls) ls.length q
    · rw [if_pos a]
      exact ih (ds ++ [q]) suf ls f h e' els hf W M fun x hx => by
        rcases List.mem_append.mp hx with hx | hx
        · exact avl x hx
        · rw [List.mem_singleton] at hx
          subst hx
          exact a
    · rw [if_neg a]
      have c := cq q (by rw [e]; exact List.mem_append.mpr (Or.inr List.mem_cons_self))
      obtain ⟨f, rfl⟩ : ∃ g, f = g + 1 := ⟨f - 1, by omega⟩
      obtain ⟨h1, F1, L1, e1⟩ := iter ls f h W M
      have M1 : RS h1 ls := M.vk F1 fun b j z => Or.inl z
      have H1 := M1.1
      have mi : R_missing 27 h1 = some q := by rw [miss M1 L1, e, mi_q a avl]
      have q0 := c.2.1.1
      let h2 := hSet (hSet h1 46 ((w : Int) + 1) q) 47 ((w : Int) + 1) (sortQ q)
      have F2 : Fr (fun b j => (b = 46 ∨ b = 47) ∧ j = (w : Int) + 1) h1 h2 := (Fr.set ⟨Or.inl rfl, rfl⟩).setT ⟨Or.inr rfl, rfl⟩
      have M2 : RS h2 ls := M1.vk F2 fun b j z => Or.inr z.1
      have push : R_find_107 (f + 1) 27 (ls0.length : Int) ((w : Int) + 1) h = R_find_107 f 27 (ls0.length : Int) (((w + 1 : Nat) : Int) + 1) h2 := by
        rw [e1]
        unfold R_find_155
        refine gB H1.t27 ?_
        refine cB mi ?_
        refine ifT (by omega) ?_
        refine gB H1.t27 ?_
        rw [H1.p27_21]
        refine gB ⟨H1.t46, by omega, by rw [H1.l46]; omega⟩ ?_
        refine gB H1.t27 ?_
        rw [cN (b := 27) (j := 22) (by omega), H1.p27_22, w32_e (z := (w : Int) + 1 + 1) (by omega)]
        have fin : ∀ sq, sq = sortQ q → ((gd (hTy (hSet h1 46 ((w : Int) + 1) q) 47 = 21 ∧ 0 ≤ (w : Int) + 1 ∧ (w : Int) + 1 < hLn (hSet h1 46 ((w : Int) + 1) q) 47) (hSet (hSet h1 46 ((w : Int) + 1) q) 47 ((w : Int) + 1) sq)).bind fun h5 => R_find_107 f 27 (ls0.length : Int) ((w : Int) + 1 + 1) h5) = R_find_107 f 27 (ls0.length : Int) (((w + 1 : Nat) : Int) + 1) h2 := by
          rintro sq rfl
          exact gB ⟨H1.t47, by omega, by show _ < hLn h1 47; rw [H1.l47]; omega⟩ rfl
        by_cases z : q < 100
        · exact ifT z (fin 0 (by unfold sortQ; rw [if_pos z]))
        · exact ifF z (fin 1 (by unfold sortQ; rw [if_neg z]))
      have v1 : ∀ b : Int, b = 46 ∨ b = 47 → ∀ i, ¬ VK b i := fun b hb i z => by have := z.far; omega
      have keep2 : ∀ b : Int, b = 46 ∨ b = 47 → ∀ j : Nat, j ≤ w → hCe h2 b j = hCe h b j := fun b hb j hj => (F2.2 _ _ (by omega)).trans (F1.2 _ _ (v1 b hb _))
      have child := IH ls0 suf ls q (sortQ q) (w + 1) f h2 els c (Or.inl rfl) (by omega) (by omega) ⟨(cN (by omega)).trans (cS _ _ _ _), cS _ _ _ _⟩ M2
      rw [push]
      have F12 : Fr RKK h h2 := (F1.mo fun b j => VK.rkk).tr (F2.mo fun b j z => by unfold RKK; omega)
      unfold ruR at child
      by_cases z : (brR (k + 1) ls q (sortQ q)).1 < 0
      · rw [if_pos z] at child
        obtain ⟨h3, e3, A3⟩ := child
        rw [if_pos z, if_pos z]
        unfold ruR
        rw [if_pos z]
        exact ⟨h3, e3, A3.1, A3.2.1, F12.tr A3.2.2⟩
      · rw [if_neg z] at child
        obtain ⟨h3, f3, e3, M3, fu, ln, kp, F3⟩ := child
        rw [if_neg z]
        obtain ⟨sx, ex, gx⟩ := brR_ok k ls q (sortQ q) c.2.1 c.1 c.nb (sq_ok q) c.2.2
        have l3 := M3.2.1.2.1
        have k46 := kp w (by omega)
        have W3 : WT h3 w n s := ⟨k46.1.trans ((keep2 46 (Or.inl rfl) w (Nat.le_refl _)).trans W.1), k46.2.trans ((keep2 47 (Or.inr rfl) w (Nat.le_refl _)).trans W.2)⟩
        have res := ih (ds ++ [q]) (suf ++ sx) (brR (k + 1) ls q (sortQ q)).2 f3 h3 e' (by rw [ex, els, List.append_assoc]) (by omega) W3 M3 fun x hx => by
          rcases List.mem_append.mp hx with hx | hx
          · rw [ex]; exact av_ext (avl x hx)
          · rw [List.mem_singleton] at hx
            subst hx
            exact gx (by omega)
        rw [show ((w + 1 : Nat) : Int) = (w : Int) + 1 by omega] at *
        rw [e3]
        exact res.mv (F12.tr F3) (fun j hj => by
          have a2 := kp j (by omega)
          exact ⟨a2.1.trans (keep2 46 (Or.inl rfl) j (by omega)), a2.2.trans (keep2 47 (Or.inr rfl) j (by omega))⟩) (by omega) (by omega)
theorem s_rc : ∀ k : Nat, rcR k
  | 0 => fun ls0 suf ls n s w f h e c => by have := c.2.1.1; have := c.2.2; rw [Int.pow_zero] at this; omega
  | k + 1 => fun ls0 suf ls n s w f h e c hs hw hf W M => by
    have two : s = 0 ∨ n ≠ 2 := by
      rcases hs with rfl | hs
      · exact c.nb
      · exact hs.2.2
    have hs4 : 0 ≤ s ∧ s ≤ 4 := by
      rcases hs with rfl | hs
      · exact sq_ok n
      · exact ⟨hs.1, hs.2.1⟩
    have cq := qs_CQ c.1 c.2.1 hs4 two c.2.2
    rw [brR_u]
    exact rq_in (s_rc k) c.2.1 c.1 two hs4 cq (by omega) (qsS n s) [] suf ls f h rfl e (by omega) W M fun q hq => absurd hq List.not_mem_nil
/-- what the reference's find answers -/
noncomputable def fiR (ls : List LN) (n s : Int) : Int × List LN := if ¬ (0 ≤ s ∧ s ≤ 4) ∨ ¬ (2 ≤ n ∧ n ≤ 1000000000) then (-1, ls) else if 0 ≤ loF ls (rtS ls) n s ls.length 0 then (loF ls (rtS ls) n s ls.length 0, ls) else match fdS n s with
  | none => (-2, ls)
  | some _ => if (brR 31 ls n s).1 < 0 then ((brR 31 ls n s).1, ls) else brR 31 ls n s
theorem fi_state (ls : List LN) (n s : Int) : (fiC ls n s).2 = (fiR ls n s).2 ∧ ((fiC ls n s).1 = (fiR ls n s).1 ∨ ((fiC ls n s).1 < 0 ∧ (fiR ls n s).1 < 0)) := by
  unfold fiC fiR
  split
  · exact ⟨rfl, Or.inl rfl⟩
  · split
    · exact ⟨rfl, Or.inl rfl⟩
    · cases fd : fdS n s with
      | none =>
        have e : brC 31 ls n s = (-2, ls) := by rw [brC_u, fd]
        rw [e, if_pos (by show (-2 : Int) < 0; omega)]
        exact ⟨rfl, Or.inl rfl⟩
      | some l =>
        show (if (brC 31 ls n s).1 < 0 then ((brC 31 ls n s).1, ls) else brC 31 ls n s).2 = (if (brR 31 ls n s).1 < 0 then ((brR 31 ls n s).1, ls) else brR 31 ls n s).2 ∧ _
        rcases br_alk 31 ls n s with ⟨x, y⟩ | ⟨x, y⟩
        · rw [← y]; exact ⟨rfl, Or.inl rfl⟩
        · rw [if_pos x, if_pos y]; exact ⟨rfl, Or.inr ⟨x, y⟩⟩
theorem fi_eq (hP : PRok) (ls : List LN) (n s : Int) : fiC ls n s = fiR ls n s := by
  unfold fiC fiR
  by_cases c : ¬ (0 ≤ s ∧ s ≤ 4) ∨ ¬ (2 ≤ n ∧ n ≤ 1000000000)
  · rw [if_pos c, if_pos c]
  · rw [if_neg c, if_neg c]
    have hs : 0 ≤ s ∧ s ≤ 4 := Classical.byContradiction fun z => c (Or.inl z)
    have hn : 2 ≤ n ∧ n ≤ 1000000000 := Classical.byContradiction fun z => c (Or.inr z)
    split
    · rfl
    · cases fd : fdS n s with
      | none =>
        have e : brC 31 ls n s = (-2, ls) := by rw [brC_u, fd]
        rw [e, if_pos (by show (-2 : Int) < 0; omega)]
      | some l =>
        have e := br_eq hP 30 ls n s hn hs (by omega) (by rw [fd]; exact fun z => by cases z)
        rw [show (30 : Nat) + 1 = 31 from rfl] at e
        rw [e]
theorem rf28 {h : AH} {ls : List LN} (M : RS h ls) {n s : Int} {X : Option (Int × AH)} (hX : ((gd (hTy h 27 = 10) 0).bind fun _ =>
      (R_works 27 n s h).bind fun u8 =>
      if u8.1 = 0 then
        some ((-2), u8.2)
      else
        (gd (hTy u8.2 27 = 10) (hCe u8.2 27 7)).bind fun u9 =>
        (gd (hTy u8.2 27 = 10) (hCe u8.2 27 21)).bind fun u10 =>
        (gd (hTy u8.2 u10 = 21 ∧ 0 ≤ (0 : Int) ∧ (0 : Int) < hLn u8.2 u10) (hSet u8.2 u10 (0 : Int) n)).bind fun h11 =>
        (gd (hTy h11 27 = 10) (hCe h11 27 22)).bind fun u12 =>
        (gd (hTy h11 u12 = 21 ∧ 0 ≤ (0 : Int) ∧ (0 : Int) < hLn h11 u12) (hSet h11 u12 (0 : Int) s)).bind fun h13 =>
        R_find_107 FU 27 u9 1 h13) = X) : ∀ (m f j : Nat), j + m = ls.length → m < f → R_find_28 f 27 n s j h = if 0 ≤ loF ls (rtS ls) n s m j then some (loF ls (rtS ls) n s m j, h) else X := by
  have H := M.1
  have h60 := M.2.1.2.1
  intro m
  induction m with
  | zero =>
    intro f j hj hf
    obtain ⟨f, rfl, -⟩ := fu_pos hf
    unfold R_find_28 loF
    refine gB H.t27 ?_
    rw [M.2.1.1]
    refine ifF (by omega) ?_
    rw [if_neg (by omega)]
    exact hX
  | succ m ih =>
    intro f j hj hf
    obtain ⟨f, rfl, hf⟩ := fu_pos hf
    have n1 : R_find_28 f 27 n s (w32 ((j : Int) + 1)) h = if 0 ≤ loF ls (rtS ls) n s m (j + 1) then some (loF ls (rtS ls) n s m (j + 1), h) else X := by
      rw [w32_e (by omega)]
      exact ih f (j + 1) (by omega) (by omega)
    have L := (M.2.1.2.2 j (by omega)).1
    unfold R_find_28 loF
    refine gB H.t27 ?_
    rw [M.2.1.1]
    refine ifT (by omega) ?_
    refine gB H.t27 ?_
    rw [H.p27_19]
    refine gB ⟨Or.inr H.t44, by omega, by rw [H.l44]; omega⟩ ?_
    rw [M.2.2 j (by omega)]
    cases t : rtS ls j
    · refine ifT rfl ?_
      rw [if_neg (fun z : false = true ∧ _ => by cases z.1)]
      exact n1
    · refine ifF one_ne ?_
      refine gB H.t27 ?_
      rw [H.p27_9]
      refine gB ⟨H.t34, by omega, by rw [H.l34]; omega⟩ ?_
      rw [L.1.2.1]
      by_cases b : (gl ls j).1.2.1 = s
      · refine ifT b ?_
        refine gB H.t27 ?_
        rw [H.p27_8]
        refine gB ⟨H.t33, by omega, by rw [H.l33]; omega⟩ ?_
        rw [L.1.1]
        by_cases a : (gl ls j).1.1 = n
        · refine ifT a ?_
          rw [if_pos (show true = true ∧ (gl ls j).1.1 = n ∧ (gl ls j).1.2.1 = s from ⟨rfl, a, b⟩), if_pos (by omega)]
        · refine ifF a ?_
          rw [if_neg (fun z : true = true ∧ (gl ls j).1.1 = n ∧ (gl ls j).1.2.1 = s => a z.2.1)]
          exact n1
      · refine ifF b ?_
        rw [if_neg (fun z : true = true ∧ (gl ls j).1.1 = n ∧ (gl ls j).1.2.1 = s => b z.2.2)]
        exact n1
theorem s_Rfind {h : AH} (H : Sh h) {ls : List LN} (M : MD h ls) (n s : Int) : ∃ h', R_find 27 n s h = some ((fiR ls n s).1, h') ∧ Sh h' ∧ MD h' (fiR ls n s).2 ∧ Fr RKK h h' := by
  have h60 := M.2.1
  unfold fiR
  by_cases c : ¬ (0 ≤ s ∧ s ≤ 4) ∨ ¬ (2 ≤ n ∧ n ≤ 1000000000)
  · rw [if_pos c]
    refine ⟨h, ?_, H, M, Fr.rf⟩
    unfold R_find
    refine cB s_Rin ?_
    by_cases a : 0 ≤ s ∧ s ≤ 4
    · rw [decide_eq_true a]
      refine ifF one_ne ?_
      refine cB s_RisNumber ?_
      rw [decide_eq_false (c.resolve_left fun z => z a)]
      exact ifT rfl rfl
    · rw [decide_eq_false a]
      exact ifT rfl rfl
  · rw [if_neg c]
    have hs : 0 ≤ s ∧ s ≤ 4 := Classical.byContradiction fun z => c (Or.inl z)
    have hn : okN n := Classical.byContradiction fun z => c (Or.inr z)
    obtain ⟨h1, e1, F1, R1⟩ := s_laysRight H M
    have H1 := H.fr F1 fun b j => WK.mut
    have M1 : RS h1 ls := ⟨H1, M.fr F1 (by unfold WK; omega) (fun b j x y => by unfold WK; omega), fun i hi => (R1 i hi).1⟩
    have F1' : Fr RKK h h1 := F1.mo fun b j z => by unfold WK at z; unfold RKK; omega
    have start : ∀ {X r}, ((gd (hTy h1 27 = 10) 0).bind fun _ =>
      (R_works 27 n s h1).bind fun u8 =>
      if u8.1 = 0 then
        some ((-2), u8.2)
      else
        (gd (hTy u8.2 27 = 10) (hCe u8.2 27 7)).bind fun u9 =>
        (gd (hTy u8.2 27 = 10) (hCe u8.2 27 21)).bind fun u10 =>
        (gd (hTy u8.2 u10 = 21 ∧ 0 ≤ (0 : Int) ∧ (0 : Int) < hLn u8.2 u10) (hSet u8.2 u10 (0 : Int) n)).bind fun h11 =>
        (gd (hTy h11 27 = 10) (hCe h11 27 22)).bind fun u12 =>
        (gd (hTy h11 u12 = 21 ∧ 0 ≤ (0 : Int) ∧ (0 : Int) < hLn h11 u12) (hSet h11 u12 (0 : Int) s)).bind fun h13 =>
        R_find_107 FU 27 u9 1 h13) = X → (if 0 ≤ loF ls (rtS ls) n s ls.length 0 then some (loF ls (rtS ls) n s ls.length 0, h1) else X) = r → R_find 27 n s h = r := by
      intro X r hX hr
      unfold R_find
      refine cB s_Rin ?_
      rw [decide_eq_true hs]
      refine ifF one_ne ?_
      refine cB s_RisNumber ?_
      rw [decide_eq_true (show 2 ≤ n ∧ n ≤ 1000000000 from hn)]
      refine ifF one_ne ?_
      refine gB H.t27 ?_
      refine cB e1 ?_
      have := rf28 M1 hX ls.length FU 0 (by omega) (fu_big (by omega))
      exact this.trans hr
    by_cases lo : 0 ≤ loF ls (rtS ls) n s ls.length 0
    · rw [if_pos lo]
      exact ⟨h1, start rfl (by rw [if_pos lo]), H1, M1.2.1, F1'⟩
    · rw [if_neg lo]
      obtain ⟨h2, e2, F2, L2⟩ := s_works H1 hn hs
      have M2 : RS h2 ls := M1.vk F2 fun b j z => Or.inl z
      have H2 := M2.1
      have F2' : Fr RKK h h2 := F1'.tr (F2.mo fun b j => VK.rkk)
      cases fd : fdS n s with
      | none =>
        rw [fd] at e2
        exact ⟨h2, start (gB H1.t27 (cB e2 (ifT rfl rfl))) (by rw [if_neg lo]), H2, M2.2.1, F2'⟩
      | some l =>
        rw [fd] at e2
        have P := fd_P fd
        let h3 := hSet (hSet h2 46 0 n) 47 0 s
        have F3 : Fr (fun b j => (b = 46 ∨ b = 47) ∧ j = 0) h2 h3 := (Fr.set ⟨Or.inl rfl, rfl⟩).setT ⟨Or.inr rfl, rfl⟩
        have M3 : RS h3 ls := M2.vk F3 fun b j z => Or.inr z.1
        have n30 : n ≤ 2 ^ 30 := by have := hn.2; omega
        have run := s_rc 30 ls [] ls n s 0 FU h3 (by rw [List.append_nil]) ⟨P.1, hn, n30⟩ (Or.inr ⟨hs.1, hs.2, P.2⟩) (by omega) (by unfold FU; omega) ⟨(cN (by omega)).trans (cS _ _ _ _), cS _ _ _ _⟩ M3
        have F3' : Fr RKK h h3 := F2'.tr (F3.mo fun b j z => by unfold RKK; omega)
        have st2 : ∀ {r}, R_find_107 FU 27 (ls.length : Int) 1 h3 = r → R_find 27 n s h = r := by
          rintro r rfl
          refine start (X := R_find_107 FU 27 (ls.length : Int) 1 h3) (gB H1.t27 (cB e2 (ifF one_ne ?_))) (by rw [if_neg lo])
          refine gB H2.t27 ?_
          rw [M2.2.1.1]
          refine gB H2.t27 ?_
          rw [H2.p27_21]
          refine gB ⟨H2.t46, by omega, by rw [H2.l46]; omega⟩ ?_
          refine gB H2.t27 ?_
          rw [cN (b := 27) (j := 22) (by omega), H2.p27_22]
          exact gB ⟨H2.t47, by omega, by show _ < hLn h2 47; rw [H2.l47]; omega⟩ rfl
        unfold ruR at run
        rw [show (30 : Nat) + 1 = 31 from rfl, show ((0 : Nat) : Int) + 1 = 1 from rfl] at run
        show ∃ h', R_find 27 n s h = some ((if (brR 31 ls n s).1 < 0 then ((brR 31 ls n s).1, ls) else brR 31 ls n s).1, h') ∧ Sh h' ∧ MD h' (if (brR 31 ls n s).1 < 0 then ((brR 31 ls n s).1, ls) else brR 31 ls n s).2 ∧ Fr RKK h h'
        by_cases z : (brR 31 ls n s).1 < 0
        · rw [if_pos z] at run ⊢
          obtain ⟨h4, e4, A4⟩ := run
          exact ⟨h4, st2 e4, A4.1, A4.2.1, F3'.tr A4.2.2⟩
        · rw [if_neg z] at run ⊢
          obtain ⟨h4, f4, e4, M4, fu, ln, -, F4⟩ := run
          obtain ⟨f4, rfl⟩ : ∃ g, f4 = g + 1 := ⟨f4 - 1, by have := M4.2.1.2.1; unfold FU at fu; omega⟩
          refine ⟨h4, st2 (e4.trans ?_), M4.1, M4.2.1, F3'.tr F4⟩
          have H4 := M4.1
          unfold R_find_107
          refine ifF (by omega) ?_
          refine gB H4.t27 ?_
          have l60 := M4.2.1.2.1
          rw [M4.2.1.1, w32_e (by omega), ← brR_code 31 ls n s (by omega)]
