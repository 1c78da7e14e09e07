/-! the machine follows: arrays, what is made, what is copied -/
section SIM3
variable {p : Program} {l : Launch} {e : Env} {R : Room} {s : State} {m : MethodId} {args : Array Value} {below : List Frame} {meth : Method} {c : Code} {Q : State → Prop} {Z : EZ} {sc : AS} {n0 w0 : Int} {M : aM}
theorem arr_at {h : AH} (w : WFh h) {a : Int} {t : Nat} (ht : hTy h a = t) (h1 : 21 ≤ t) : 0 ≤ a ∧ a < hNx h ∧ (cW Z h)[a.toNat]? = some (zB Z + a.toNat, .inl (zA Z t, cAr Z h a)) ∧ 0 ≤ hLn h a ∧ hLn h a ≤ 2000 := by
  obtain ⟨h0, h2⟩ := w.lt (a := a) (by omega)
  have h3 := w.2.2.1 a h0 h2
  refine ⟨h0, h2, ?_, by omega, by omega⟩
  rw [cW_get h0 h2]
  unfold cE
  rw [if_neg (by omega), ht]
theorem cAr_i {h : AH} {a : Int} (h22 : hTy h a ≠ 22) (h26 : hTy h a ≠ 26) : cAr Z h a = ((hLn h a).toNat, .inl fun j => Int32.ofInt (hCe h a j)) := by
  unfold cAr; rw [if_neg h22, if_neg h26]
theorem cAr_l {h : AH} {a : Int} (h22 : hTy h a = 22) : cAr Z h a = ((hLn h a).toNat, .inr (.inl fun j => Int64.ofInt (hCe h a j))) := by
  unfold cAr; rw [if_pos h22]
theorem cAr_q {h : AH} {a : Int} (h26 : hTy h a = 26) : cAr Z h a = ((hLn h a).toNat, .inr (.inr (.inr (.inr fun j => cR (zB Z) (hCe h a j))))) := by
  unfold cAr; rw [if_neg (by omega), if_pos h26]
theorem cE_arr {h : AH} {a : Int} {t : Nat} (ht : hTy h a = t) (h1 : 21 ≤ t) : cE Z h a = .inl (zA Z t, cAr Z h a) := by
  unfold cE; rw [if_neg (by omega), ht]
theorem toI {i : Int} (h0 : 0 ≤ i) (h : in32 i) : (((Int32.ofInt i).toNatClampNeg : Nat) : Int) = i := by rw [n32_clamp h0 h]; omega
theorem inv_i {h : AH} {a i : Int} (w : WFh h) (hi : WFv (0, i)) (g0 : 0 ≤ i) (g1 : i < hLn h a) : vp_in (Int32.ofInt i) (hLn h a).toNat := n32_vin g0 (wf_ti hi) (by omega)
theorem aStr_lt : aStr.all (fun l => l.all (fun x => decide (x < 65536))) = true := by decide
theorem aStr_ln : aStr.all (fun l => decide (l.length ≤ 10)) = true := by decide
theorem stCh_in (k i : Int) : in32 (stCh k i) := by
  unfold stCh
  have key : ((aStr[k.toNat]?).getD []).getD i.toNat 0 < 65536 := by
    cases hk : aStr[k.toNat]? with
    | none => simp
    | some l0 =>
      have h1 := List.all_eq_true.mp aStr_lt l0 (List.mem_of_getElem? hk)
      simp only [Option.getD_some]
      rw [List.getD_eq_getElem?_getD]
      cases hi : l0[i.toNat]? with
      | none => simp
      | some x =>
        have h2 := List.all_eq_true.mp h1 x (List.mem_of_getElem? hi)
        simpa using h2
  unfold in32
  omega
theorem sim_ald {i0 : AI} {pc len : Nat} (C : Cx p R s m args meth c Z sc M) (hd : decode M.1 pc = .ok (i0, len)) (hlen : lenI i0 = len) {i : AI} (hr : resI M i0 = some i)
    (hi : i0 ∈ ([.iaload, .laload, .baload, .caload, .aaload] : List AI))
    {L S L' S' : List AV} {h h' : AH} {G : Option Prop} (hn : nc sc i L S h = some (L', S', h', G)) (hG : okG G) (kk : Wst p l e R s m args below meth c Q Z n0 w0 (pc + len) L' S' h') : Wst p l e R s m args below meth c Q Z n0 w0 pc L S h := by
  obtain ⟨hx, hb, -, hown, hts, -, hE, hcp, -⟩ := C
  have hK := hE.2.2.2.2.2.2.2.2.2.2.1
  subst hlen
  simp only [List.mem_cons, List.not_mem_nil, or_false] at hi
  rcases hi with rfl | rfl | rfl | rfl | rfl <;> cases hr <;> simp only [nc] at hn <;> split at hn <;> (try (cases hn; done)) <;> simp only [Option.some.injEq, Prod.mk.injEq] at hn <;> obtain ⟨rfl, rfl, rfl, rfl⟩ := hn <;> intro H locs ls hL hS hH hva
  · rename_i i a r
    obtain ⟨g1, g2, g3⟩ := (hG : inA h 21 a i)
    have hw := hS (0, i) (by simp)
    obtain ⟨h0, h1, hat, -⟩ := arr_at (Z := Z) hH.1 g1 (Nat.le_refl _)
    rw [cAr_i (by omega) (by omega)] at hat
    simp only [List.map_cons]
    rw [cV2_some h0]
    refine va_iald hx hb hK hH.2 a.toNat 0 hat rfl (inv_i hH.1 hw g2 g3) hd ?_
    rw [toI g2 (wf_ti hw)]
    exact kk H locs ls hL (wf_c (wf_i ((hH.1.2.2.2 a i).2.1 g1)) fun w hw => hS w (by simp [hw])) hH hva
  · rename_i i r
    have hG : 0 ≤ i ∧ i < 4 := hG
    have hw := hS (0, i) (by simp)
    refine va_ti hx hb hE.2.1 hva (n32_vin hG.1 (wf_ti hw) (by omega)) (v := .int (Int32.ofInt (witA i))) (by rw [toI hG.1 (wf_ti hw)]) hd ?_
    exact kk H locs ls hL (wf_c (wf_i (by unfold witA in32; split <;> (try split) <;> (try split) <;> (try split) <;> omega)) fun w hw => hS w (by simp [hw])) hH hva
  · rename_i i r
    have hG : 0 ≤ i ∧ i < sc.1 := hG
    have hw := hS (0, i) (by simp)
    obtain ⟨xs, hX, hxs⟩ := hE.2.2.2.2.2.2.2.2.1
    have hb1 := hE.2.2.2.2.2.2.2.2.2.1
    have hsz := hE.2.2.2.2.2.2.2.2.2.2.2.2
    have e1 := hxs i hG.1 hG.2
    refine va_sld hx hb hX (by omega) (by unfold zF; omega) hva (n32_vin hG.1 (wf_ti hw) (by omega)) hd ?_
    rw [n32_clamp hG.1 (wf_ti hw)]
    have e2 : xs i.toNat = Int32.ofInt (sc.2 i) := by rw [e1, n32_i]
    rw [e2]
    exact kk H locs ls hL (wf_c (wf_i (by rw [e1]; exact i32_in _)) fun w hw => hS w (by simp [hw])) hH hva
  · rename_i i a r
    obtain ⟨g1, g2, g3⟩ := (hG : inA h 22 a i)
    have hw := hS (0, i) (by simp)
    obtain ⟨h0, h1, hat, -⟩ := arr_at (Z := Z) hH.1 g1 (Nat.le_of_ble_eq_true rfl)
    rw [cAr_l g1] at hat
    simp only [List.map_cons]
    rw [cV2_some h0]
    refine va_lald hx hb hK hH.2 a.toNat 1 hat rfl (inv_i hH.1 hw g2 g3) hd ?_
    rw [toI g2 (wf_ti hw)]
    exact kk H locs ls hL (wf_c (wf_l ((hH.1.2.2.2 a i).2.2.1 g1)) fun w hw => hS w (by simp [hw])) hH hva
  · rename_i i a r
    obtain ⟨g1, g2, g3⟩ := (hG : (hTy h a = 23 ∨ hTy h a = 25) ∧ 0 ≤ i ∧ i < hLn h a)
    have hw := hS (0, i) (by simp)
    rcases g1 with g1 | g1
    · obtain ⟨h0, h1, hat, -⟩ := arr_at (Z := Z) hH.1 g1 (Nat.le_of_ble_eq_true rfl)
      rw [cAr_i (by omega) (by omega)] at hat
      simp only [List.map_cons]
      rw [cV2_some h0]
      refine va_bald hx hb hK hH.2 a.toNat 2 hat rfl (inv_i hH.1 hw g2 g3) hd ?_
      rw [toI g2 (wf_ti hw)]
      have := (hH.1.2.2.2 a i).2.2.2.1 g1
      exact kk H locs ls hL (wf_c (wf_i (by unfold in32; omega)) fun w hw => hS w (by simp [hw])) hH hva
    · obtain ⟨h0, h1, hat, -⟩ := arr_at (Z := Z) hH.1 g1 (Nat.le_of_ble_eq_true rfl)
      rw [cAr_i (by omega) (by omega)] at hat
      simp only [List.map_cons]
      rw [cV2_some h0]
      refine va_zald hx hb hK hH.2 a.toNat 4 hat rfl (inv_i hH.1 hw g2 g3) hd ?_
      rw [toI g2 (wf_ti hw)]
      have := (hH.1.2.2.2 a i).2.2.2.2.2 g1
      exact kk H locs ls hL (wf_c (wf_i (by unfold in32; omega)) fun w hw => hS w (by simp [hw])) hH hva
  · rename_i i k r
    have hG : 0 ≤ i ∧ i < stLn k := hG
    have hw := hS (0, i) (by simp)
    have hk := (hS (5, k) (by simp)).2.2.2.2 rfl
    have hT := (hE.2.2.2.2.1.1 k.toNat (by omega)).2.2.2
    have e1 : (lenS.getD k.toNat 0 : Nat) = (stLn k).toNat := by
      unfold lenS stLn
      rw [List.getD_eq_getElem?_getD, List.getElem?_map, Int.toNat_natCast]
      cases aStr[k.toNat]? <;> rfl
    have e2 : (bytS.getD k.toNat []).getD i.toNat 0 = Int32.ofInt (stCh k i) := by
      unfold bytS stCh
      rw [List.getD_eq_getElem?_getD, List.getD_eq_getElem?_getD, List.getElem?_map]
      cases aStr[k.toNat]? with
      | none => rfl
      | some l0 =>
        simp only [Option.map_some, Option.getD_some]
        rw [List.getElem?_map, List.getD_eq_getElem?_getD, Int32.ofInt_eq_ofNat]
        cases l0[i.toNat]? <;> rfl
    refine va_tb hx hb hT hva (n32_vin hG.1 (wf_ti hw) (by omega)) (v := .int (Int32.ofInt (stCh k i))) (by rw [n32_clamp hG.1 (wf_ti hw), e2]) hd ?_
    exact kk H locs ls hL (wf_c (wf_i (stCh_in k i)) fun w hw => hS w (by simp [hw])) hH hva
  · rename_i i a r
    obtain ⟨g1, g2, g3⟩ := (hG : inA h 24 a i)
    have hw := hS (0, i) (by simp)
    obtain ⟨h0, h1, hat, -⟩ := arr_at (Z := Z) hH.1 g1 (Nat.le_of_ble_eq_true rfl)
    rw [cAr_i (by omega) (by omega)] at hat
    simp only [List.map_cons]
    rw [cV2_some h0]
    refine va_cald hx hb hK hH.2 a.toNat 3 hat rfl (inv_i hH.1 hw g2 g3) hd ?_
    rw [toI g2 (wf_ti hw)]
    have := (hH.1.2.2.2 a i).2.2.2.2.1 g1
    exact kk H locs ls hL (wf_c (wf_i (by unfold in32; omega)) fun w hw => hS w (by simp [hw])) hH hva
  · rename_i i a r
    obtain ⟨g1, g2, g3⟩ := (hG : inA h 26 a i)
    have hw := hS (0, i) (by simp)
    obtain ⟨h0, h1, hat, -⟩ := arr_at (Z := Z) hH.1 g1 (Nat.le_of_ble_eq_true rfl)
    rw [cAr_q g1] at hat
    simp only [List.map_cons]
    rw [cV2_some h0]
    refine va_aldq hx hb hK hH.2 a.toNat 5 hat rfl (inv_i hH.1 hw g2 g3) hd ?_
    rw [toI g2 (wf_ti hw)]
    exact kk H locs ls hL (wf_c wf_r fun w hw => hS w (by simp [hw])) hH hva
theorem upd_i {h : AH} {a i v : Int} (g0 : 0 ≤ i) (hi : in32 i) : upd (fun j => Int32.ofInt (hCe h a j)) (Int32.ofInt i).toNatClampNeg (Int32.ofInt v) = fun j : Nat => Int32.ofInt (hCe (hSet h a i v) a j) := by
  funext j
  unfold upd
  rw [hCe_set, n32_clamp g0 hi]
  by_cases hj : j = i.toNat
  · rw [if_pos hj, if_pos ⟨rfl, by omega⟩]
  · rw [if_neg hj, if_neg (fun q => hj (by omega))]
theorem upd_l {h : AH} {a i v : Int} (g0 : 0 ≤ i) (hi : in32 i) : vp_updL (fun j => Int64.ofInt (hCe h a j)) (Int32.ofInt i).toNatClampNeg (Int64.ofInt v) = fun j : Nat => Int64.ofInt (hCe (hSet h a i v) a j) := by
  funext j
  unfold vp_updL
  rw [hCe_set, n32_clamp g0 hi]
  by_cases hj : j = i.toNat
  · rw [if_pos hj, if_pos ⟨rfl, by omega⟩]
  · rw [if_neg hj, if_neg (fun q => hj (by omega))]
theorem upd_q {h : AH} {a i v : Int} (g0 : 0 ≤ i) (hi : in32 i) {B : Nat} {o : Option Nat} (ho : cR B v = o) : va_up (fun j : Nat => cR B (hCe h a j)) (Int32.ofInt i).toNatClampNeg o = fun j : Nat => cR B (hCe (hSet h a i v) a j) := by
  funext j
  unfold va_up
  rw [hCe_set, n32_clamp g0 hi]
  by_cases hj : j = i.toNat
  · rw [if_pos hj, if_pos ⟨rfl, by omega⟩, ho]
  · rw [if_neg hj, if_neg (fun q => hj (by omega))]
theorem set_arr {h : AH} {a i v : Int} {t : Nat} (w : WFh h) (ht : hTy h a = t) (h1 : 21 ≤ t) {x : vp_A} (hx : cAr Z (hSet h a i v) a = x) : (cW Z h).set a.toNat (zB Z + a.toNat, .inl (zA Z t, x)) = cW Z (hSet h a i v) := by
  obtain ⟨h0, h2, -⟩ := arr_at (Z := Z) w ht h1
  refine cW_set h0 h2 (hNx_set ..) (fun b hb => cE_set_ne Z h hb) ?_
  rw [cE_arr (by rw [hTy_set]; exact ht) h1, hx]
theorem inC_arr {t : Nat} {j x : Int} (h1 : 21 ≤ t) (ha : t = 21 → in32 x) (hb : t = 22 → in64 x) (hc : t = 23 → -128 ≤ x ∧ x ≤ 127) (hd : t = 24 → 0 ≤ x ∧ x < 65536) (he : t = 25 → 0 ≤ x ∧ x ≤ 1) : inC t j x := ⟨fun _ q => by omega, ha, hb, hc, hd, he⟩
theorem nar_b {v : Int} (h : -128 ≤ v ∧ v ≤ 127) : vp_nar .byte (Int32.ofInt v) = Int32.ofInt v := by
  rw [vp_nar_byte, ← Int32.toInt_inj, n32_toInt (by unfold in32; omega), Int8.toInt_toInt32, Int32.toInt_toInt8, n32_toInt (by unfold in32; omega)]
  unfold Int.bmod
  simp only [Nat.reducePow, Int.reducePow]
  omega
theorem nar_z {v : Int} (h : 0 ≤ v ∧ v ≤ 1) : vp_nar .boolean (Int32.ofInt v) = Int32.ofInt v := by
  rcases (show v = 0 ∨ v = 1 by omega) with rfl | rfl <;> rfl
theorem nar_c {v : Int} (h : 0 ≤ v ∧ v < 65536) : vp_nar .char (Int32.ofInt v) = Int32.ofInt v := by
  have e : Int32.ofInt v = nI v.toNat := by
    unfold nI
    rw [← Int32.ofInt_eq_ofNat, Int.toNat_of_nonneg h.1]
  rw [e]
  have h1 := (pk_charN (q := v.toNat) (by omega)).1
  unfold vp_nar
  rw [h1]
theorem sim_ast {i0 : AI} {pc len : Nat} (C : Cx p R s m args meth c Z sc M) (hd : decode M.1 pc = .ok (i0, len)) (hlen : lenI i0 = len) {i : AI} (hr : resI M i0 = some i)
    (hi : i0 ∈ ([.iastore, .lastore, .bastore, .castore] : List AI))
    {L S L' S' : List AV} {h h' : AH} {G : Option Prop} (hn : nc sc i L S h = some (L', S', h', G)) (hG : okG G) (kk : Wst p l e R s m args below meth c Q Z n0 w0 (pc + len) L' S' h') : Wst p l e R s m args below meth c Q Z n0 w0 pc L S h := by
  obtain ⟨hx, hb, -, hown, hts, -, hE, hcp, -⟩ := C
  have hK := hE.2.2.2.2.2.2.2.2.2.2.1
  subst hlen
  simp only [List.mem_cons, List.not_mem_nil, or_false] at hi
  rcases hi with rfl | rfl | rfl | rfl <;> cases hr <;> simp only [nc] at hn <;> split at hn <;> (try (cases hn; done)) <;> simp only [Option.some.injEq, Prod.mk.injEq] at hn <;> obtain ⟨rfl, rfl, rfl, rfl⟩ := hn <;> intro H locs ls hL hS hH hva
  · rename_i v i a r
    obtain ⟨g1, g2, g3⟩ := (hG : inA h 21 a i)
    have hw := hS (0, i) (by simp)
    have hv := hS (0, v) (by simp)
    obtain ⟨h0, h1, hat, -⟩ := arr_at (Z := Z) hH.1 g1 (Nat.le_refl _)
    rw [cAr_i (by omega) (by omega)] at hat
    simp only [List.map_cons]
    rw [cV2_some h0]
    refine va_iast hx hb hK hH.2 (cW_D Z h) hva a.toNat 0 hat rfl (inv_i hH.1 hw g2 g3) hd fun H1 locs1 hP1 _ hS1 => ?_
    rw [upd_i g2 (wf_ti hw), set_arr hH.1 g1 (Nat.le_refl _) (i := i) (v := v) (by rw [cAr_i (by rw [hTy_set]; omega) (by rw [hTy_set]; omega)]; rfl)] at hP1
    exact kk H1 locs1 ls hL (fun w hw => hS w (by simp [hw])) ⟨hH.1.set (inC_arr (by omega) (fun _ => wf_ti hv) (by omega) (by omega) (by omega) (by omega)), hP1⟩ hS1
  · rename_i v i a r
    obtain ⟨g1, g2, g3⟩ := (hG : inA h 22 a i)
    have hw := hS (0, i) (by simp)
    have hv := hS (1, v) (by simp)
    obtain ⟨h0, h1, hat, -⟩ := arr_at (Z := Z) hH.1 g1 (Nat.le_of_ble_eq_true rfl)
    rw [cAr_l g1] at hat
    simp only [List.map_cons]
    rw [cV2_some h0]
    refine va_last hx hb hK hH.2 (cW_D Z h) hva a.toNat 1 hat rfl (inv_i hH.1 hw g2 g3) hd fun H1 locs1 hP1 _ hS1 => ?_
    rw [upd_l g2 (wf_ti hw), set_arr hH.1 g1 (Nat.le_of_ble_eq_true rfl) (i := i) (v := v) (by rw [cAr_l (by rw [hTy_set]; omega)]; rfl)] at hP1
    exact kk H1 locs1 ls hL (fun w hw => hS w (by simp [hw])) ⟨hH.1.set (inC_arr (by omega) (by omega) (fun _ => wf_tl hv) (by omega) (by omega) (by omega)), hP1⟩ hS1
  · rename_i v i a r
    obtain ⟨g1, g2, g3⟩ := (hG : (hTy h a = 23 ∧ -128 ≤ v ∧ v ≤ 127 ∨ hTy h a = 25 ∧ 0 ≤ v ∧ v ≤ 1) ∧ 0 ≤ i ∧ i < hLn h a)
    have hw := hS (0, i) (by simp)
    have hv := hS (0, v) (by simp)
    rcases g1 with ⟨g1, g4⟩ | ⟨g1, g4⟩
    · obtain ⟨h0, h1, hat, -⟩ := arr_at (Z := Z) hH.1 g1 (Nat.le_of_ble_eq_true rfl)
      rw [cAr_i (by omega) (by omega)] at hat
      simp only [List.map_cons]
      rw [cV2_some h0]
      refine va_bast hx hb hK hH.2 (cW_D Z h) hva a.toNat 2 hat rfl (inv_i hH.1 hw g2 g3) hd fun H1 locs1 hP1 _ hS1 => ?_
      rw [nar_b g4, upd_i g2 (wf_ti hw), set_arr hH.1 g1 (Nat.le_of_ble_eq_true rfl) (i := i) (v := v) (by rw [cAr_i (by rw [hTy_set]; omega) (by rw [hTy_set]; omega)]; rfl)] at hP1
      exact kk H1 locs1 ls hL (fun w hw => hS w (by simp [hw])) ⟨hH.1.set (inC_arr (by omega) (by omega) (by omega) (fun _ => g4) (by omega) (by omega)), hP1⟩ hS1
    · obtain ⟨h0, h1, hat, -⟩ := arr_at (Z := Z) hH.1 g1 (Nat.le_of_ble_eq_true rfl)
      rw [cAr_i (by omega) (by omega)] at hat
      simp only [List.map_cons]
      rw [cV2_some h0]
      refine va_zast hx hb hK hH.2 (cW_D Z h) hva a.toNat 4 hat rfl (inv_i hH.1 hw g2 g3) hd fun H1 locs1 hP1 _ hS1 => ?_
      rw [nar_z g4, upd_i g2 (wf_ti hw), set_arr hH.1 g1 (Nat.le_of_ble_eq_true rfl) (i := i) (v := v) (by rw [cAr_i (by rw [hTy_set]; omega) (by rw [hTy_set]; omega)]; rfl)] at hP1
      exact kk H1 locs1 ls hL (fun w hw => hS w (by simp [hw])) ⟨hH.1.set (inC_arr (by omega) (by omega) (by omega) (by omega) (by omega) (fun _ => g4)), hP1⟩ hS1
  · rename_i v i a r
    obtain ⟨⟨g1, g2, g3⟩, g4⟩ := (hG : inA h 24 a i ∧ 0 ≤ v ∧ v < 65536)
    have hw := hS (0, i) (by simp)
    have hv := hS (0, v) (by simp)
    obtain ⟨h0, h1, hat, -⟩ := arr_at (Z := Z) hH.1 g1 (Nat.le_of_ble_eq_true rfl)
    rw [cAr_i (by omega) (by omega)] at hat
    simp only [List.map_cons]
    rw [cV2_some h0]
    refine va_cast hx hb hK hH.2 (cW_D Z h) hva a.toNat 3 hat rfl (inv_i hH.1 hw g2 g3) hd fun H1 locs1 hP1 _ hS1 => ?_
    rw [nar_c g4, upd_i g2 (wf_ti hw), set_arr hH.1 g1 (Nat.le_of_ble_eq_true rfl) (i := i) (v := v) (by rw [cAr_i (by rw [hTy_set]; omega) (by rw [hTy_set]; omega)]; rfl)] at hP1
    exact kk H1 locs1 ls hL (fun w hw => hS w (by simp [hw])) ⟨hH.1.set (inC_arr (by omega) (by omega) (by omega) (by omega) (fun _ => g4) (by omega)), hP1⟩ hS1
theorem aCl3 : ∃ q, aCl[3]? = some q ∧ q.1 = "PrimeProofs$Line" := ⟨_, rfl, rfl⟩
theorem sim_aast {pc len : Nat} (C : Cx p R s m args meth c Z sc M) (hd : decode M.1 pc = .ok (.aastore, len)) (hlen : 1 = len) {i : AI} (hr : resI M .aastore = some i)
    {L S L' S' : List AV} {h h' : AH} {G : Option Prop} (hn : nc sc i L S h = some (L', S', h', G)) (hG : okG G) (kk : Wst p l e R s m args below meth c Q Z n0 w0 (pc + len) L' S' h') : Wst p l e R s m args below meth c Q Z n0 w0 pc L S h := by
  obtain ⟨hx, hb, -, hown, hts, -, hE, hcp, -⟩ := C
  have hK := hE.2.2.2.2.2.2.2.2.2.2.1
  subst hlen
  cases hr
  simp only [nc] at hn
  split at hn
  · simp only [Option.some.injEq, Prod.mk.injEq] at hn
    obtain ⟨rfl, rfl, rfl, rfl⟩ := hn
    intro H locs ls hL hS hH hva
    rename_i v i a r
    obtain ⟨⟨g1, g2, g3⟩, g4⟩ := (hG : inA h 26 a i ∧ (v < 0 ∨ hTy h v = 4))
    have hw := hS (0, i) (by simp)
    obtain ⟨h0, h1, hat, -⟩ := arr_at (Z := Z) hH.1 g1 (Nat.le_of_ble_eq_true rfl)
    rw [cAr_q g1] at hat
    simp only [List.map_cons]
    rw [cV2_some h0]
    have hic : inC (hTy h a) i v := by rw [g1]; exact inC_arr (by omega) (by omega) (by omega) (by omega) (by omega) (by omega)
    rcases g4 with g4 | g4
    · rw [cV2_none g4]
      refine va_astqN hx hb hK hH.2 (cW_D Z h) hva a.toNat 5 hat rfl (inv_i hH.1 hw g2 g3) hd fun H1 locs1 hP1 _ hS1 => ?_
      rw [upd_q g2 (wf_ti hw) (cR_none g4), set_arr hH.1 g1 (Nat.le_of_ble_eq_true rfl) (i := i) (v := v) (by rw [cAr_q (by rw [hTy_set]; omega)]; rfl)] at hP1
      exact kk H1 locs1 ls hL (fun w hw => hS w (by simp [hw])) ⟨hH.1.set hic, hP1⟩ hS1
    · obtain ⟨v0, v1, vat⟩ := obj_at (Z := Z) hH.1 g4 (by omega)
      obtain ⟨q, hq, hq1⟩ := aCl3
      rw [cV2_some v0]
      have ht5 : (aTs Z)[5]? = some (zA Z 26, .object q.1) := by rw [hq1]; rfl
      refine va_astq hx hb hK hH.2 (cW_D Z h) hva a.toNat 5 v.toNat 3 hat ht5 vat hq (inv_i hH.1 hw g2 g3) hd fun H1 locs1 hP1 _ hS1 => ?_
      rw [upd_q g2 (wf_ti hw) (cR_some v0), set_arr hH.1 g1 (Nat.le_of_ble_eq_true rfl) (i := i) (v := v) (by rw [cAr_q (by rw [hTy_set]; omega)]; rfl)] at hP1
      exact kk H1 locs1 ls hL (fun w hw => hS w (by simp [hw])) ⟨hH.1.set hic, hP1⟩ hS1
  · cases hn
theorem sim_alen {pc len : Nat} (C : Cx p R s m args meth c Z sc M) (hd : decode M.1 pc = .ok (.arraylength, len)) (hlen : 1 = len) {i : AI} (hr : resI M .arraylength = some i)
    {L S L' S' : List AV} {h h' : AH} {G : Option Prop} (hn : nc sc i L S h = some (L', S', h', G)) (hG : okG G) (kk : Wst p l e R s m args below meth c Q Z n0 w0 (pc + len) L' S' h') : Wst p l e R s m args below meth c Q Z n0 w0 pc L S h := by
  obtain ⟨hx, hb, -, hown, hts, -, hE, hcp, -⟩ := C
  have hK := hE.2.2.2.2.2.2.2.2.2.2.1
  subst hlen
  cases hr
  simp only [nc] at hn
  split at hn <;> (try (cases hn; done)) <;> simp only [Option.some.injEq, Prod.mk.injEq] at hn <;> obtain ⟨rfl, rfl, rfl, rfl⟩ := hn <;> intro H locs ls hL hS hH hva
  · rename_i a r
    have hG : 21 ≤ hTy h a := hG
    obtain ⟨h0, h1, hat, l0, l1⟩ := arr_at (Z := Z) hH.1 (a := a) rfl hG
    have h26 : hTy h a ≤ 26 := by have := hH.1.2.2.1 a h0 h1; omega
    simp only [List.map_cons]
    rw [cV2_some h0]
    have hlen : (cAr Z h a).1 = (hLn h a).toNat := rfl
    have htt : (aTs Z)[hTy h a - 21]? = some (zA Z (hTy h a), aTy (hTy h a)) := by
      rcases (show hTy h a = 21 ∨ hTy h a = 22 ∨ hTy h a = 23 ∨ hTy h a = 24 ∨ hTy h a = 25 ∨ hTy h a = 26 by omega) with q | q | q | q | q | q <;> rw [q] <;> rfl
    refine va_alen hx hb hK hH.2 a.toNat (hTy h a - 21) hat htt (v := Int32.ofInt (hLn h a)) ?_ hd ?_
    · rw [hlen, ← Int32.ofInt_eq_ofNat, Int.toNat_of_nonneg l0]
    · exact kk H locs ls hL (wf_c (wf_i (by unfold in32; omega)) fun w hw => hS w (by simp [hw])) hH hva
  · rename_i r
    exact va_tlen hx hb hE.2.1 hva rfl hd (kk H locs ls hL (wf_c (wf_i (by unfold in32; omega)) fun w hw => hS w (by simp [hw])) hH hva)
  · rename_i r
    obtain ⟨xs, hX, hxs⟩ := hE.2.2.2.2.2.2.2.2.1
    have hb1 := hE.2.2.2.2.2.2.2.2.2.1
    have hsz := hE.2.2.2.2.2.2.2.2.2.2.2.2
    refine va_slen (b := zS Z) hx hb hX (by omega) (by unfold zF; omega) hva hd ?_
    rw [← Int32.ofInt_eq_ofNat, Int.toNat_of_nonneg hb1.2.1]
    exact kk H locs ls hL (wf_c (wf_i hb1.2.2) fun w hw => hS w (by simp [hw])) hH hva
  · rename_i k r
    have hk := (hS (5, k) (by simp)).2.2.2.2 rfl
    have hT := (hE.2.2.2.2.1.1 k.toNat (by omega)).2.2.2
    have e1 : (lenS.getD k.toNat 0 : Nat) = (stLn k).toNat := by
      unfold lenS stLn
      rw [List.getD_eq_getElem?_getD, List.getElem?_map, Int.toNat_natCast]
      cases aStr[k.toNat]? <;> rfl
    have e2 : stLn k ≤ 10 ∧ 0 ≤ stLn k := by
      unfold stLn
      have key : ((aStr[k.toNat]?).getD []).length ≤ 10 := by
        cases hk : aStr[k.toNat]? with
        | none => simp
        | some l0 =>
          have h1 := List.all_eq_true.mp aStr_ln l0 (List.mem_of_getElem? hk)
          simpa using h1
      omega
    refine va_tlen hx hb hT hva (v := Int32.ofInt (stLn k)) ?_ hd ?_
    · rw [e1, ← Int32.ofInt_eq_ofNat, Int.toNat_of_nonneg e2.2]
    · exact kk H locs ls hL (wf_c (wf_i (by unfold in32; omega)) fun w hw => hS w (by simp [hw])) hH hva
end SIM3
