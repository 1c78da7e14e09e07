/-! prune -/
def swI (a b i : Nat) : Nat := if i = a then b else if i = b then a else i
theorem swI_lt {a b i n : Nat} (ha : a < n) (hb : b < n) (hi : i < n) : swI a b i < n := by
  unfold swI
  split
  · exact hb
  · split
    · exact ha
    · exact hi
theorem swI_in {a b i : Nat} : swI a b (swI a b i) = i := by
  unfold swI
  by_cases q : i = a
  · rw [if_pos q]
    by_cases z : b = a
    · rw [if_pos z]; omega
    · rw [if_neg z, if_pos rfl]; exact q.symm
  · rw [if_neg q]
    by_cases z : i = b
    · rw [if_pos z, if_pos rfl]; exact z.symm
    · rw [if_neg z, if_neg q, if_neg z]
theorem swI_hi {a b i n : Nat} (ha : a < n) (hb : b < n) (hi : n ≤ i) : swI a b i = i := by
  unfold swI
  rw [if_neg (by omega), if_neg (by omega)]
def swL (ls : List LN) (a b : Nat) : List LN := (List.range ls.length).map fun i => gl ls (swI a b i)
theorem swL_len {ls : List LN} {a b : Nat} : (swL ls a b).length = ls.length := by unfold swL; rw [List.length_map, List.length_range]
theorem swL_gl {ls : List LN} {a b i : Nat} (hi : i < ls.length) : gl (swL ls a b) i = gl ls (swI a b i) := by
  conv => lhs; unfold gl swL
  rw [List.getD_eq_getElem?_getD, List.getElem?_map, List.getElem?_range hi]
  rfl
/-- two pointers changed places -/
theorem CL.swapped {h h' : AH} {hw dw : Nat} {ls : List LN} (C : CL h hw dw ls) {a b : Nat} (ha : a < ls.length) (hb : b < ls.length) (F : Fr (fun b _ => b = 2) h h') (v : ∀ q : Nat, hCe h' 2 q = hCe h 2 ((swI a b q : Nat) : Int)) : CL h' hw dw (swL ls a b) := by
  have le := C.2.2.1
  obtain ⟨o1, o2, o3, o4, o5, o6, o7, o8, o9, o10⟩ := id C.2.1
  have lt : ∀ {q : Nat}, q < hw → swI a b q < hw := fun {q} hq => swI_lt (by omega) (by omega) hq
  have inj : ∀ {i j : Nat}, swI a b i = swI a b j → i = j := fun {i j} z => by
    have := congrArg (swI a b) z
    rw [swI_in, swI_in] at this
    exact this
  have c13 : ∀ j, hCe h' 13 j = hCe h 13 j := fun j => F.2 _ _ (by omega)
  refine ⟨S2 C.1 F, ⟨o1, o2, F.1.nx.trans o3, fun i hi => by rw [v]; exact o4 _ (lt hi), fun i a1 a2 => ?_, fun i hi => by rw [c13]; exact o6 i hi, fun i a1 a2 => by rw [c13]; exact o7 i a1 a2, fun i j a1 a2 a3 => ?_, fun i j a1 a2 a3 => ?_, fun i j a1 a2 => ?_⟩, by rw [swL_len]; exact le, by rw [swL_len, F.2 _ _ (by omega)]; exact C.sz, fun i hi => ?_⟩
  · rw [v, swI_hi (show a < hw by omega) (show b < hw by omega) a1]; exact o5 i a1 a2
  · rw [v, v] at a3
    exact inj (o8 _ _ (lt a1) (lt a2) a3)
  · rw [c13, c13] at a3; exact o9 i j a1 a2 a3
  · rw [v, c13]; exact o10 _ j (lt a1) a2
  · rw [swL_len] at hi
    have mi : swI a b i < ls.length := swI_lt ha hb hi
    have p := C.pr mi
    rw [swL_gl hi, v]
    refine ⟨(C.ln mi).fr F fun b j x y _ => by omega, C.ok mi, ?_⟩
    unfold ltOK
    rw [F.2 _ _ (by omega)]
    exact C.lt mi

def kpL (w : Nat) (ls : List LN) : Nat → List LN
  | 0 => []
  | i + 1 => if w.testBit i = true then kpL w ls i ++ [gl ls i] else kpL w ls i
theorem kp_t {w : Nat} {ls : List LN} {i : Nat} (h : w.testBit i = true) : kpL w ls (i + 1) = kpL w ls i ++ [gl ls i] := if_pos h
theorem kp_f {w : Nat} {ls : List LN} {i : Nat} (h : ¬ w.testBit i = true) : kpL w ls (i + 1) = kpL w ls i := if_neg h
theorem kp_len (w : Nat) (ls : List LN) : ∀ i, (kpL w ls i).length ≤ i
  | 0 => Nat.le_refl _
  | i + 1 => by
    have := kp_len w ls i
    by_cases q : w.testBit i = true
    · rw [kp_t q, List.length_append]; exact Nat.succ_le_succ this
    · rw [kp_f q]; omega
theorem kp_len1 {w : Nat} {ls : List LN} {i : Nat} (h : w.testBit i = true) : (kpL w ls (i + 1)).length = (kpL w ls i).length + 1 := by rw [kp_t h, List.length_append]; rfl
theorem gl_appL {ls : List LN} {l : LN} {j : Nat} (hj : j < ls.length + 1) : gl (ls ++ [l]) j = if j = ls.length then l else gl ls j := by
  unfold gl
  rw [List.getD_eq_getElem?_getD, List.getD_eq_getElem?_getD]
  by_cases q : j = ls.length
  · subst q; rw [if_pos rfl, List.getElem?_append_right (Nat.le_refl _), Nat.sub_self]; rfl
  · rw [if_neg q, List.getElem?_append_left (by omega)]
theorem gl_ext {a b : List LN} (e : a.length = b.length) (c : ∀ i, i < a.length → gl a i = gl b i) : a = b := List.ext_getElem e fun i h1 h2 => by
  have := c i h1
  unfold gl at this
  rw [List.getD_eq_getElem?_getD, List.getD_eq_getElem?_getD, List.getElem?_eq_getElem h1, List.getElem?_eq_getElem h2] at this
  exact this
theorem kp_ok {P : LN → Prop} {w : Nat} {ls : List LN} : ∀ i, i ≤ ls.length → (∀ k, k < ls.length → P (gl ls k)) → ∀ k, k < (kpL w ls i).length → P (gl (kpL w ls i) k)
  | 0, _, _, k, hk => absurd hk (Nat.not_lt_zero k)
  | i + 1, hi, c, k, hk => by
    by_cases q : w.testBit i = true
    · rw [kp_t q]
      rw [kp_len1 q] at hk
      rw [gl_appL hk]
      by_cases z : k = (kpL w ls i).length
      · rw [if_pos z]; exact c i (by omega)
      · rw [if_neg z]; exact kp_ok i (by omega) c k (by omega)
    · rw [kp_f q] at hk ⊢; exact kp_ok i (by omega) c k hk
theorem ko_loop {hw dw : Nat} {ls : List LN} {w : Nat} (w63 : w < 9223372036854775808) : ∀ (n f i : Nat) (h : AH) (cur : List LN), i + n = ls.length → n < f → cur.length = ls.length → CL h hw dw cur → (∀ j, j < (kpL w ls i).length → gl cur j = gl (kpL w ls i) j) → (∀ j, i ≤ j → j < ls.length → gl cur j = gl ls j) → ∃ h' cur', Ledger_keepOnly_5 f 1 w (kpL w ls i).length i h = ((gd (hTy h' 1 = 3) 0).bind fun _ => (Ledger_shorten 1 (kpL w ls ls.length).length h').bind fun h12 => some h12) ∧ cur'.length = ls.length ∧ CL h' hw dw cur' ∧ (∀ j, j < (kpL w ls ls.length).length → gl cur' j = gl (kpL w ls ls.length) j) ∧ Fr (fun b _ => b = 2) h h' := by
  intro n
  induction n with
  | zero =>
    intro f i h cur hi hf cl C c1 c2
    obtain ⟨f, rfl, -⟩ := fu_pos hf
    have H := C.1
    have : i = ls.length := by omega
    subst this
    refine ⟨h, cur, ?_, cl, C, c1, Fr.rf⟩
    unfold Ledger_keepOnly_5
    refine gB H.t1 ?_
    rw [C.sz]
    exact ifF (by omega) rfl
  | succ n ih =>
    intro f i h cur hi hf cl C c1 c2
    obtain ⟨f, rfl, hf⟩ := fu_pos hf
    have H := C.1
    have l60 := C.len
    have kl := kp_len w ls i
    by_cases q : w.testBit i = true
    · have L1 := C.ln (show (kpL w ls i).length < cur.length by omega)
      have L2 := C.ln (show i < cur.length by omega)
      have F : Fr (fun b _ => b = 2) h (hSet (hSet h 2 ((kpL w ls i).length : Int) (hCe h 2 i)) 2 i (hCe h 2 ((kpL w ls i).length : Int))) := Fr.setT (P := fun b _ => b = 2) (Fr.set (P := fun b _ => b = 2) rfl) rfl
      have C' := C.swapped (a := (kpL w ls i).length) (b := i) (by omega) (by omega) F fun p => by
        unfold swI
        by_cases z : p = i
        · subst z
          rw [cS]
          by_cases y : p = (kpL w ls p).length
          · rw [if_pos y, ← y]
          · rw [if_neg y, if_pos rfl]
        · rw [cN (by omega)]
          by_cases y : p = (kpL w ls i).length
          · rw [if_pos y, y, cS]
          · rw [if_neg y, if_neg z, cN (by omega)]
      obtain ⟨h', cur', e', l', C2, g', F'⟩ := ih f (i + 1) _ (swL cur (kpL w ls i).length i) (by omega) (by omega) (swL_len.trans cl) C' (fun j hj => by
        rw [kp_len1 q] at hj
        rw [swL_gl (by omega), kp_t q, gl_appL hj]
        unfold swI
        by_cases y : j = (kpL w ls i).length
        · rw [if_pos y, if_pos y]; exact c2 i (Nat.le_refl _) (by omega)
        · rw [if_neg y, if_neg y, if_neg (by omega)]; exact c1 j (by omega)) (fun j a1 a2 => by
        rw [swL_gl (by omega)]
        unfold swI
        rw [if_neg (by omega), if_neg (by omega)]
        exact c2 j (by omega) a2)
      refine ⟨h', cur', ?_, l', C2, g', F.tr F'⟩
      rw [← e', kp_len1 q]
      conv => lhs; unfold Ledger_keepOnly_5
      refine gB H.t1 ?_
      rw [C.sz]
      refine ifT (by omega) ?_
      refine cB (isIn_n w63 (by omega)) ?_
      rw [q]
      refine ifF one_ne ?_
      refine gB H.t1 ?_
      rw [H.p1_0]
      refine gB ⟨H.t2, by omega, by rw [H.l2]; omega⟩ ?_
      refine gB H.t1 ?_
      refine gB H.t1 ?_
      refine gB ⟨H.t2, by omega, by rw [H.l2]; omega⟩ ?_
      refine gB ⟨⟨H.t2, by omega, by rw [H.l2]; omega⟩, Or.inr L2.1.1⟩ ?_
      refine gB H.t1 ?_
      rw [cN (a := 2) (b := 1) (by omega), H.p1_0]
      refine gB ⟨⟨H.t2, by omega, by show _ < hLn h 2; rw [H.l2]; omega⟩, Or.inr L1.1.1⟩ ?_
      rw [w32_e (z := ((kpL w ls i).length : Int) + 1) (by omega), w32_e (z := (i : Int) + 1) (by omega)]
      rfl
    · obtain ⟨h', cur', e', l', C2, g', F'⟩ := ih f (i + 1) h cur (by omega) (by omega) cl C (fun j hj => by rw [kp_f q] at hj ⊢; exact c1 j hj) fun j a1 a2 => c2 j (by omega) a2
      refine ⟨h', cur', ?_, l', C2, g', F'⟩
      rw [← e', kp_f q]
      conv => lhs; unfold Ledger_keepOnly_5
      refine gB H.t1 ?_
      rw [C.sz]
      refine ifT (by omega) ?_
      refine cB (isIn_n w63 (by omega)) ?_
      rw [Bool.eq_false_iff.mpr q]
      refine ifT rfl ?_
      rw [w32_e (z := (i : Int) + 1) (by omega)]
      rfl
theorem s_shortC {h : AH} {hw dw : Nat} {cur K : List LN} (C : CL h hw dw cur) {m : Nat} (m63 : m < 9223372036854775808) (e : hCe h 1 4 = (m : Int)) (ht : K.length ≤ cur.length) (g : ∀ j, j < K.length → gl cur j = gl K j) : ∃ h', Ledger_shorten 1 K.length h = some h' ∧ CL h' hw dw K ∧ RB h' K 0 (m &&& (2 ^ K.length - 1)) K.length ∧ Fr (fun b j => b = 1 ∧ (j = 4 ∨ j = 5)) h h' := by
  have H := C.1
  have h60 := C.len
  have t63 := p2_63 (i := K.length) (by omega)
  have p1 := Nat.two_pow_pos K.length
  have F : Fr (fun b j => b = 1 ∧ (j = 4 ∨ j = 5)) h (hSet (hSet h 1 5 K.length) 1 4 ((m &&& (2 ^ K.length - 1) : Nat) : Int)) := (Fr.set ⟨rfl, Or.inr rfl⟩).setT ⟨rfl, Or.inl rfl⟩
  refine ⟨_, ?_, ⟨H.fr F fun b j z => mutA (by unfold MutA; omega), C.2.1.fr F (fun j => by omega) (fun j => by omega), by have := C.2.2.1; omega, ?_, fun i hi => ?_⟩, ⟨cS _ _ _ _, Nat.and_lt_two_pow m (by omega), fun i hi => absurd hi (Nat.not_lt_zero i)⟩, F⟩
  · unfold Ledger_shorten
    refine gB H.t1 ?_
    rw [C.sz]
    refine cB s_min ?_
    rw [show (if (K.length : Int) < (cur.length : Int) then (K.length : Int) else (cur.length : Int)) = K.length by split <;> omega]
    refine cB s_max ?_
    rw [show (if (0 : Int) < (K.length : Int) then (K.length : Int) else 0) = K.length by split <;> omega]
    refine gB H.t1 ?_
    refine gB H.t1 ?_
    refine gB H.t1 ?_
    rw [cN (b := 1) (j := 4) (by omega), cS, e, shl_1 (by omega)]
    refine gB H.t1 ?_
    rw [w64_e (by omega), show ((2 ^ K.length : Nat) : Int) - 1 = ((2 ^ K.length - 1 : Nat) : Int) by omega, andL_n m63 (by omega)]
  · exact (cN (by omega)).trans (cS _ _ _ _)
  · have pr := C.pr (i := i) (by omega)
    have e2 := F.2 2 (i : Int) (by omega)
    rw [e2, ← g i hi]
    refine ⟨(C.ln (by omega)).fr F fun b j x y _ => by omega, C.ok (by omega), ?_⟩
    unfold ltOK
    rw [F.2 _ _ (by omega)]
    exact C.lt (by omega)
theorem x_prune (hM : MRok) {h : AH} {hw dw : Nat} {ls : List LN} (U : FUL h hw dw ls) {k : Nat} (hk : k < ls.length) (rt : rtS ls k = true) : ∃ h', X_prune 0 k h = some (((kpL (reS ls k) ls ls.length).length : Int), h') ∧ FUL h' hw dw (kpL (reS ls k) ls ls.length) ∧ Gr BP h h' := by
  have C := U.1
  have H := C.1
  have l60 := C.len
  obtain ⟨m, B⟩ := U.2.2
  have r63 := b63 (re_bd ls k) (by omega)
  have kl := kp_len (reS ls k) ls ls.length
  obtain ⟨h1, cur, e1, l1, C1, g1, F1⟩ := ko_loop (ls := ls) r63 ls.length FU 0 h ls (by omega) (fu_big (by omega)) rfl C (fun j hj => absurd hj (Nat.not_lt_zero j)) fun j _ _ => rfl
  have H1 := C1.1
  obtain ⟨h2, e2, C2, B2, F2⟩ := s_shortC C1 (U.1.m63 (k := 0) B.2.1) ((F1.2 _ _ (by omega)).trans B.1) (by omega) g1
  have H2 := C2.1
  obtain ⟨h3, e3, F3, U3⟩ := s_checkFrom hM C2 (i := 0) (by omega) (fun i hi => absurd hi (Nat.not_lt_zero i)) B2
  have H3 := U3.1.1
  have eK : Ledger_keepOnly 1 (reS ls k : Int) h = some h2 := by
    unfold Ledger_keepOnly
    refine e1.trans ?_
    refine gB H1.t1 ?_
    exact cB e2 rfl
  refine ⟨h3, ?_, U3, (F1.gr.mo fun b j z => by unfold BP; omega).tr ((F2.gr.mo fun b j z => by unfold BP; omega).tr (F3.gr.mo fun b j z => by unfold CK at z; unfold BP; omega))⟩
  unfold X_prune
  refine gB H.t0 ?_
  rw [H.p0_0]
  refine gB H.t1 ?_
  refine has_if C ?_
  rw [if_pos (by omega)]
  refine gB H.t0 ?_
  refine gB H.t1 ?_
  refine rt_if U hk ?_
  rw [if_pos rt]
  refine gB H.t0 ?_
  refine gB H.t0 ?_
  refine gB H.t1 ?_
  rw [H.p1_2]
  refine gB ⟨H.t4, by omega, by rw [H.l4]; omega⟩ ?_
  rw [(U.2.1 k hk).2.1]
  refine gB H.t1 ?_
  refine cB eK ?_
  refine gB H2.t0 ?_
  rw [H2.p0_0]
  refine gB H2.t1 ?_
  refine cB e3 ?_
  refine gB H3.t0 ?_
  rw [H3.p0_0]
  refine gB H3.t1 ?_
  rw [U3.1.sz]
/-! the reference -/
def PN5 (b j : Int) : Prop := Mut b j ∧ 33 ≤ b ∧ b ≤ 43
theorem rk_loop {ls : List LN} (l60 : ls.length ≤ 60) {w : Nat} (w63 : w < 9223372036854775808) : ∀ (n f i : Nat) (h : AH), i + n = ls.length → n < f → Sh h → hCe h 27 7 = (ls.length : Int) → (∀ j, j < (kpL w ls i).length → LM h j (gl (kpL w ls i) j)) → (∀ j, i ≤ j → j < ls.length → LM h j (gl ls j)) → ∃ h', R_prune_33 f 27 w (kpL w ls i).length i h = some (((kpL w ls ls.length).length : Int), hSet h' 27 7 ((kpL w ls ls.length).length : Int)) ∧ Fr PN5 h h' ∧ ∀ j, j < (kpL w ls ls.length).length → LM h' j (gl (kpL w ls ls.length) j) := by
  intro n
  induction n with
  | zero =>
    intro f i h hi hf H m7 c1 c2
    obtain ⟨f, rfl, -⟩ := fu_pos hf
    have : i = ls.length := by omega
    subst this
    refine ⟨h, ?_, Fr.rf, c1⟩
    unfold R_prune_33
    refine gB H.t27 ?_
    rw [m7]
    refine ifF (by omega) ?_
    refine gB H.t27 ?_
    refine gB H.t27 ?_
    rw [cS]
  | succ n ih =>
    intro f i h hi hf H m7 c1 c2
    obtain ⟨f, rfl, hf⟩ := fu_pos hf
    have kl := kp_len w ls i
    by_cases q : w.testBit i = true
    · have pre : ∀ {r}, (if (kpL w ls i).length = i then R_prune_33 f 27 w ((kpL w ls (i + 1)).length : Int) ((i + 1 : Nat) : Int) h else (R_becomes 27 (kpL w ls i).length i h).bind fun h4 => R_prune_33 f 27 w ((kpL w ls (i + 1)).length : Int) ((i + 1 : Nat) : Int) h4) = r → R_prune_33 (f + 1) 27 w (kpL w ls i).length i h = r := by
        rintro r rfl
        conv => lhs; unfold R_prune_33
        refine gB H.t27 ?_
        rw [m7]
        refine ifT (by omega) ?_
        refine cB (Rhas_n w63 (by omega)) ?_
        rw [q]
        refine ifF one_ne ?_
        rw [kp_len1 q, w32_e (z := ((kpL w ls i).length : Int) + 1) (by omega), w32_e (z := (i : Int) + 1) (by omega)]
        by_cases y : (kpL w ls i).length = i
        · rw [if_pos y, if_pos (by omega)]; rfl
        · rw [if_neg y, if_neg (by omega)]
          exact gB H.t27 rfl
      by_cases y : (kpL w ls i).length = i
      · obtain ⟨h', e', F', g'⟩ := ih f (i + 1) h (by omega) (by omega) H m7 (fun j hj => by
          rw [kp_len1 q] at hj
          rw [kp_t q, gl_appL hj]
          by_cases z : j = (kpL w ls i).length
          · rw [if_pos z, z, y]; exact c2 i (Nat.le_refl _) (by omega)
          · rw [if_neg z]; exact c1 j (by omega)) fun j a1 a2 => c2 j (by omega) a2
        exact ⟨h', pre ((if_pos y).trans e'), F', g'⟩
      · obtain ⟨h1, e1, F1, M1⟩ := s_becomes H (k := (kpL w ls i).length) (k2 := i) (by omega) (by omega) y (c2 i (Nat.le_refl _) (by omega))
        obtain ⟨h', e', F', g'⟩ := ih f (i + 1) h1 (by omega) (by omega) (H.fr F1 fun b j => MK.mut) ((F1.2 _ _ (by unfold MK; omega)).trans m7) (fun j hj => by
          rw [kp_len1 q] at hj
          rw [kp_t q, gl_appL hj]
          by_cases z : j = (kpL w ls i).length
          · rw [if_pos z, z]; exact M1
          · rw [if_neg z]; exact (c1 j (by omega)).fr F1 fun b x y1 y2 => by unfold MK at y1 y2; omega) fun j a1 a2 => (c2 j (by omega) a2).fr F1 fun b x y1 y2 => by unfold MK at y1 y2; omega
        exact ⟨h', pre ((if_neg y).trans (cB e1 e')), (F1.mo fun b j z => ⟨z.mut, by unfold MK at z; omega⟩).tr F', g'⟩
    · obtain ⟨h', e', F', g'⟩ := ih f (i + 1) h (by omega) (by omega) H m7 (fun j hj => by rw [kp_f q] at hj ⊢; exact c1 j hj) fun j a1 a2 => c2 j (by omega) a2
      refine ⟨h', ?_, F', g'⟩
      rw [← e', kp_f q]
      conv => lhs; unfold R_prune_33
      refine gB H.t27 ?_
      rw [m7]
      refine ifT (by omega) ?_
      refine cB (Rhas_n w63 (by omega)) ?_
      rw [Bool.eq_false_iff.mpr q]
      refine ifT rfl ?_
      rw [w32_e (z := (i : Int) + 1) (by omega)]
      rfl
theorem r_prune {h : AH} {ls : List LN} {tp : List Int} (m : MS h ls tp) {k : Nat} (hk : k < ls.length) (rt : rtS ls k = true) : ∃ h', R_prune 27 k h = some (((kpL (reS ls k) ls ls.length).length : Int), h') ∧ MS h' (kpL (reS ls k) ls ls.length) tp ∧ Fr MZ h h' := by
  have l60 := m.2.1.2.1
  have r63 := b63 (re_bd ls k) (by omega)
  have kl := kp_len (reS ls k) ls ls.length
  obtain ⟨h1, e1, F1, L1⟩ := s_laysRight m.1 m.2.1
  have m1 := m.frQ F1 fun b j => WK.q
  obtain ⟨h2, e2, F2, g2⟩ := rk_loop l60 r63 ls.length FU 0 h1 (by omega) (fu_big (by omega)) m1.1 m1.2.1.1 (fun j hj => absurd hj (Nat.not_lt_zero j)) fun j _ hj => (m1.2.1.2.2 j hj).1
  have F3 : Fr (fun b j => b = 27 ∧ j = 7) h2 (hSet h2 27 7 ((kpL (reS ls k) ls ls.length).length : Int)) := Fr.set ⟨rfl, rfl⟩
  have q3 : ∀ b j : Int, b = 27 ∧ j = 7 → Mut b j := fun b j z => mutM (by unfold MutM; omega)
  have H2 := m1.1.fr F2 fun b j z => z.1
  have out : ∀ x j : Int, ¬ (33 ≤ x ∧ x ≤ 43) → ¬ (x = 27 ∧ j = 7) → hCe (hSet h2 27 7 ((kpL (reS ls k) ls ls.length).length : Int)) x j = hCe h1 x j := fun x j y z => (F3.2 _ _ z).trans (F2.2 _ _ fun w => y ⟨w.2.1, w.2.2⟩)
  refine ⟨_, ?_, ⟨H2.fr F3 q3, ⟨cS _ _ _ _, by omega, fun i hi => ⟨(g2 i hi).fr F3 fun b j z1 z2 => by unfold MK at z1; omega, kp_ok (P := okL) ls.length (Nat.le_refl _) (fun k hk => (m.2.1.2.2 k hk).2) i hi⟩⟩, (out _ _ (by omega) (by omega)).trans m1.2.2.1, m1.2.2.2.1, m1.2.2.2.2.1, fun i hi => (out _ _ (by omega) (by omega)).trans (m1.2.2.2.2.2 i hi)⟩, (F1.mo fun b j => WK.mz).tr ((F2.mo fun b j z => ⟨z.1, by have := z.2; omega⟩).tr (F3.mo fun b j z => ⟨q3 b j z, by omega⟩))⟩
  unfold R_prune
  refine gB m.1.t27 ?_
  refine rhas_if m ?_
  rw [if_pos (by omega)]
  refine gB m.1.t27 ?_
  refine rrt_if (A := fun h => some (-2, h)) (B := fun h => (gd (hTy h 27 = 10) 0).bind fun _ => (R_restsOf 27 k h).bind fun u3 => R_prune_33 FU 27 u3 0 0 h) m e1 m1 L1 hk ?_
  rw [if_pos rt]
  refine gB m1.1.t27 ?_
  refine cB (s_restsOf m1 L1 hk rt) ?_
  exact e2
theorem q_prune (hM : MRok) (i : Int) : sim (fun h => X_prune 0 i h) (fun h => R_prune 27 i h) := mk_sim fun ls tp ok => by
  by_cases q : 0 ≤ i ∧ i < ls.length
  · obtain ⟨k, rfl⟩ := Int.eq_ofNat_of_zero_le q.1
    have hk : k < ls.length := by omega
    by_cases rt : rtS ls k = true
    · refine ⟨((kpL (reS ls k) ls ls.length).length : Int), kpL (reS ls k) ls ls.length, tp, xC.bp fun h hw dw U => ?_, fun h m => r_prune m hk rt⟩
      obtain ⟨h', e, U', G⟩ := x_prune hM U hk rt
      exact ⟨h', hw, dw, e, U', G⟩
    · refine ⟨-2, ls, tp, xC.keep fun h hw dw U t => ?_, rC.lay fun h h' m e m' L => ?_⟩
      · have H := U.1.1
        show X_prune 0 k h = _
        unfold X_prune
        refine gB H.t0 ?_
        rw [H.p0_0]
        refine gB H.t1 ?_
        refine has_if U.1 ?_
        rw [if_pos q]
        refine gB H.t0 ?_
        refine gB H.t1 ?_
        refine rt_if U hk ?_
        rw [if_neg rt]
      · show R_prune 27 k h = _
        unfold R_prune
        refine gB m.1.t27 ?_
        refine rhas_if m ?_
        rw [if_pos q]
        refine gB m.1.t27 ?_
        refine rrt_if (A := fun h => some (-2, h)) (B := fun h => (gd (hTy h 27 = 10) 0).bind fun _ => (R_restsOf 27 k h).bind fun u3 => R_prune_33 FU 27 u3 0 0 h) m e m' L hk ?_
        rw [if_neg rt]
  · refine ⟨-1, ls, tp, xC.keep fun h hw dw U t => ?_, rC.keep fun h m => ?_⟩
    · have H := U.1.1
      show X_prune 0 i h = _
      unfold X_prune
      refine gB H.t0 ?_
      rw [H.p0_0]
      refine gB H.t1 ?_
      refine has_if U.1 ?_
      rw [if_neg q]
    · show R_prune 27 i h = _
      unfold R_prune
      refine gB m.1.t27 ?_
      refine rhas_if m ?_
      rw [if_neg q]
