/-! the machine follows: what is made, copied; then every instruction that goes on behind itself -/
section SIM4
variable {p : Program} {l : Launch} {e : Env} {R : Room} {s : State} {m : MethodId} {args : Array Value} {below : List Frame} {meth : Method} {c : Code} {Q : State → Prop} {Z : EZ} {sc : AS} {n0 w0 : Int} {M : aM}
theorem nneg {z : Int} (hz : 0 ≤ z) (hi : in32 z) : ¬ Int32.ofInt z < 0 := by
  rw [show (0 : Int32) = Int32.ofInt 0 from rfl, n32_lt hi (by unfold in32; omega)]
  omega
/-- the new cell's place -/
theorem new_at {h : AH} {H1 : Heap} {q : Nat} {x : va_E} (w : WFh h) (hsz : (H1.size : Int) ≤ zB Z + hNx h + 1) (hD : va_D (zF Z) (cW Z h ++ [(q, x)])) (hP : va_P (zD Z) aCl (cW Z h ++ [(q, x)]) H1) : q = zB Z + (hNx h).toNat := by
  have h0 := w.1
  have hlast : (cW Z h ++ [(q, x)])[(hNx h).toNat]? = some (q, x) := by
    rw [List.getElem?_append_right (by rw [cW_len]; omega), cW_len, Nat.sub_self]
    rfl
  have h1 : zB Z ≤ q := hD.2 _ _ hlast
  have h2 : q < H1.size := (hP _ _ hlast).lt
  rcases Nat.lt_trichotomy q (zB Z + (hNx h).toNat) with h3 | h3 | h3
  · exfalso
    have h4 := cW_get (Z := Z) (h := h) (a := ((q - zB Z : Nat) : Int)) (by omega) (by omega)
    have h5 : (cW Z h ++ [(q, x)])[q - zB Z]? = some (q, cE Z h ((q - zB Z : Nat) : Int)) := by
      rw [List.getElem?_append_left (by rw [cW_len]; omega)]
      rw [Int.toNat_natCast] at h4
      rw [h4, show zB Z + (q - zB Z) = q by omega]
    have h6 := hD.1 _ _ _ _ h5 hlast rfl
    omega
  · exact h3
  · omega
theorem bnd_new {h : AH} {H H1 : Heap} {k : Nat} (hs0 : (s.heap.size : Int) = zB Z + n0) (hn0 : n0 ≤ hNx h) (hb : H1.size ≤ s.heap.size + k) (hk : (k : Int) = hNx h - n0 + 1) : (H1.size : Int) ≤ zB Z + hNx h + 1 := by omega
theorem dfA_C {t : Nat} (h1 : 21 ≤ t) (h2 : t ≤ 26) : ∀ j, inC t j (dfA t j) := fun j => by
  unfold dfA
  refine inC_arr h1 (fun q => ?_) (fun q => ?_) (fun q => ?_) (fun q => ?_) (fun q => ?_) <;> rw [if_neg (by omega)] <;> (first | (unfold in32; omega) | (unfold in64; omega) | omega)
theorem new_cells {h : AH} {n : Int} {t : Nat} {d : Int → Int} (hn0 : n0 ≤ hNx h) (hw0 : w0 ≤ hWd h) (hn : 0 ≤ n) : (hNx h - n0).toNat + 1 = (hNx (hNew h t n d) - n0).toNat ∧ (hWd h - w0).toNat + n.toNat = (hWd (hNew h t n d) - w0).toNat := by
  rw [hNx_new, hWd_new]; omega
theorem sim_newarray {t0 : Jvm.ClassFile.ArrayType} {pc len : Nat} (C : Cx p R s m args meth c Z sc M) (hwA : ∀ ty, Cond.arrayClass ty ∈ [Cond.arrayClass .int, .arrayClass .long, .arrayClass .char, .arrayClass .byte, .arrayClass .boolean] → (Cond.arrayClass ty).before args s = true) (hd : decode M.1 pc = .ok (.newarray t0, len)) (hlen : 2 = len) {i : AI} (hr : resI M (.newarray t0) = some i)
    (hs0 : (s.heap.size : Int) = zB Z + n0) {L S L' S' : List AV} {h h' : AH} {G : Option Prop} (hn : nc sc i L S h = some (L', S', h', G)) (hG : okG G) (hn0 : n0 ≤ hNx h) (hw0 : w0 ≤ hWd h) (hm1 : (hNx h' - n0).toNat ≤ R.cells) (hm2 : (hWd h' - w0).toNat ≤ R.slots) (kk : Wst p l e R s m args below meth c Q Z n0 w0 (pc + len) L' S' h') : Wst p l e R s m args below meth c Q Z n0 w0 pc L S h := by
  obtain ⟨hx, hb, -, hown, hts, -, hE, hcp, -⟩ := C
  have hK := hE.2.2.2.2.2.2.2.2.2.2.1
  have hBs := hE.2.2.2.2.2.2.2.2.2.2.2.2
  subst hlen
  cases hr
  simp only [nc] at hn
  have key : ∃ (t k : Nat) (ty : FieldType) (n : Int) (r : List AV) (a0 : vp_A), newarray.typeOf t0 = ty ∧ (aTs Z)[k]? = some (zA Z t, ty) ∧ 21 ≤ t ∧ t ≤ 25 ∧ S = (0, n) :: r ∧ L' = L ∧ S' = (2, hNx h) :: r ∧ h' = hNew h t n (dfA t) ∧ G = some (0 ≤ n ∧ n ≤ 2000) ∧ (∀ cA : ClassId, vp_cell cA a0 = arrV cA n.toNat (fun _ => defaultValue ty)) ∧ cAr Z (hNew h t n (dfA t)) (hNx h) = a0 ∧ Cond.arrayClass ty ∈ [Cond.arrayClass .int, .arrayClass .long, .arrayClass .char, .arrayClass .byte, .arrayClass .boolean] ∧ (0 ≤ n → n ≤ 2000 → n.toNat * componentBytes ty ≤ 536870912) ∧ (∀ u : State, va_RA u (zA Z t) ty → u.vm.findClass ("[" ++ ty.toString) = some (zA Z t)) ∧ (∀ (u : State) (cA : ClassId), va_RA u cA ty → u.vm.findClass ("[" ++ ty.toString) = some cA) := by
    split at hn <;> (try (cases hn; done)) <;> simp only [Option.some.injEq, Prod.mk.injEq] at hn <;> obtain ⟨rfl, rfl, rfl, rfl⟩ := hn
    · rename_i n r
      refine ⟨21, 0, .int, n, r, (n.toNat, .inl fun _ => Int32.ofInt 0), rfl, rfl, by omega, by omega, rfl, rfl, rfl, rfl, rfl, fun _ => rfl, ?_, by simp, fun h1 h2 => by show n.toNat * 4 ≤ _; omega, fun _ h => h, fun _ _ h => h⟩
      rw [cAr_i (by rw [hTy_new, if_pos rfl]; omega) (by rw [hTy_new, if_pos rfl]; omega), hLn_new, if_pos rfl]
      simp only [hCe_new, if_pos]
      rfl
    · rename_i n r
      refine ⟨22, 1, .long, n, r, (n.toNat, .inr (.inl fun _ => Int64.ofInt 0)), rfl, rfl, by omega, by omega, rfl, rfl, rfl, rfl, rfl, fun _ => rfl, ?_, by simp, fun h1 h2 => by show n.toNat * 8 ≤ _; omega, fun _ h => h, fun _ _ h => h⟩
      rw [cAr_l (by rw [hTy_new, if_pos rfl]), hLn_new, if_pos rfl]
      simp only [hCe_new, if_pos]
      rfl
    · rename_i n r
      refine ⟨23, 2, .byte, n, r, (n.toNat, .inl fun _ => Int32.ofInt 0), rfl, rfl, by omega, by omega, rfl, rfl, rfl, rfl, rfl, fun _ => rfl, ?_, by simp, fun h1 h2 => by show n.toNat * 1 ≤ _; omega, fun _ h => h, fun _ _ h => h⟩
      rw [cAr_i (by rw [hTy_new, if_pos rfl]; omega) (by rw [hTy_new, if_pos rfl]; omega), hLn_new, if_pos rfl]
      simp only [hCe_new, if_pos]
      rfl
    · rename_i n r
      refine ⟨24, 3, .char, n, r, (n.toNat, .inl fun _ => Int32.ofInt 0), rfl, rfl, by omega, by omega, rfl, rfl, rfl, rfl, rfl, fun _ => rfl, ?_, by simp, fun h1 h2 => by show n.toNat * 2 ≤ _; omega, fun _ h => h, fun _ _ h => h⟩
      rw [cAr_i (by rw [hTy_new, if_pos rfl]; omega) (by rw [hTy_new, if_pos rfl]; omega), hLn_new, if_pos rfl]
      simp only [hCe_new, if_pos]
      rfl
    · rename_i n r
      refine ⟨25, 4, .boolean, n, r, (n.toNat, .inl fun _ => Int32.ofInt 0), rfl, rfl, by omega, by omega, rfl, rfl, rfl, rfl, rfl, fun _ => rfl, ?_, by simp, fun h1 h2 => by show n.toNat * 1 ≤ _; omega, fun _ h => h, fun _ _ h => h⟩
      rw [cAr_i (by rw [hTy_new, if_pos rfl]; omega) (by rw [hTy_new, if_pos rfl]; omega), hLn_new, if_pos rfl]
      simp only [hCe_new, if_pos]
      rfl
  obtain ⟨t, k, ty, n, r, a0, hty, htk, t1, t2, rfl, rfl, rfl, rfl, rfl, ha0, hca, hmem, hby, hfc, hfc2⟩ := key
  have hG : 0 ≤ n ∧ n ≤ 2000 := hG
  intro H locs ls hL hS hH hva
  obtain ⟨c1, c2⟩ := new_cells (h := h) (n := n) (t := t) (d := dfA t) hn0 hw0 hG.1
  have hw := hS (0, n) (by simp)
  have harr : (Cond.arrayClass (newarray.typeOf t0)).before args s = true := by rw [hty]; exact hwA ty hmem
  refine va_newa hx hb harr hty hK hH.2 (cW_D Z h) hva (fun q hq => by unfold zF; omega) ha0 (nneg hG.1 (wf_ti hw)) (n32_clamp hG.1 (wf_ti hw)) (hby hG.1 hG.2) (by rw [c1]; exact hm1) (by rw [c2]; exact hm2) hd fun q cA H1 hK1 hP1 hD1 hS1 => ?_
  · refine W.bound fun hbd => ?_
    have hq := new_at hH.1 (H1 := H1) (bnd_new (Z := Z) (H := H) hs0 hn0 hbd (by omega)) hD1 hP1
    subst hq
    have hcA : cA = zA Z t := by
      have f1 := hfc2 s cA (hK1.2 (aTs Z).length (cA, ty) (by rw [List.getElem?_append_right (Nat.le_refl _), Nat.sub_self]; rfl)).2
      have f2 := hfc s (hK.2 k _ htk).2
      exact Option.some.inj (f1.symm.trans f2)
    subst hcA
    have hcw : cW Z (hNew h t n (dfA t)) = cW Z h ++ [(zB Z + (hNx h).toNat, .inl (zA Z t, a0))] := by
      rw [cW_new hH.1.1 (hNx_new ..) (fun b hb => cE_new_ne Z h hb), cE_arr (by rw [hTy_new, if_pos rfl]) t1, hca]
    rw [← hcw] at hP1
    rw [c1, c2]
    have := kk H1 locs ls hL (wf_c wf_r fun w hw => hS w (by simp [hw])) ⟨hH.1.new (Or.inr ⟨t1, by omega, hG.1, hG.2⟩) (dfA_C t1 (by omega)), hP1⟩ hS1
    simp only [List.map_cons] at this
    rw [cV2_some hH.1.1] at this
    exact this
theorem lnkC {c0 x : Nat} {v : Nat × Nat × Nat × Nat} (hk : lkC aLC c0 x = some v) : chkN c0 (x, v) = true := lkC_at chkN_all hk
theorem sim_anewarray {x : Nat} {pc len : Nat} (C : Cx p R s m args meth c Z sc M) (hd : decode M.1 pc = .ok (.anewarray x, len)) (hlen : 3 = len) {i : AI} (hr : resI M (.anewarray x) = some i)
    (hs0 : (s.heap.size : Int) = zB Z + n0) {L S L' S' : List AV} {h h' : AH} {G : Option Prop} (hn : nc sc i L S h = some (L', S', h', G)) (hG : okG G) (hn0 : n0 ≤ hNx h) (hw0 : w0 ≤ hWd h) (hm1 : (hNx h' - n0).toNat ≤ R.cells) (hm2 : (hWd h' - w0).toNat ≤ R.slots) (kk : Wst p l e R s m args below meth c Q Z n0 w0 (pc + len) L' S' h') : Wst p l e R s m args below meth c Q Z n0 w0 pc L S h := by
  obtain ⟨hx, hb, -, hown, hts, -, hE, hcp, -⟩ := C
  have hK := hE.2.2.2.2.2.2.2.2.2.2.1
  have hAO := hE.2.2.2.2.2.2.2.1
  have hBs := hE.2.2.2.2.2.2.2.2.2.2.2.2
  subst hlen
  simp only [resI] at hr
  split at hr
  · rename_i pl hk
    cases hr
    have h1 := lnkC hk
    obtain ⟨q3, hq3, hq31⟩ := aCl3
    simp only [chkN, hq3, hq31, Bool.and_eq_true, hcp] at h1
    have hlk := hts _ (inG_mem h1.1.1)
    simp only [nc] at hn
    split at hn
    · simp only [Option.some.injEq, Prod.mk.injEq] at hn
      obtain ⟨rfl, rfl, rfl, rfl⟩ := hn
      rename_i n r
      have hG : 0 ≤ n ∧ n ≤ 2000 := hG
      intro H locs ls hL hS hH hva
      obtain ⟨c1, c2⟩ := new_cells (h := h) (n := n) (t := 26) (d := dfA 26) hn0 hw0 hG.1
      have hw := hS (0, n) (by simp)
      refine va_newq hx hb hown hlk hAO hK hH.2 (cW_D Z h) hva (fun q hq => by unfold zF; omega) (nneg hG.1 (wf_ti hw)) (n32_clamp hG.1 (wf_ti hw)) (by omega) (by rw [c1]; exact hm1) (by rw [c2]; exact hm2) hd fun q cA H1 hK1 hP1 hD1 hS1 => ?_
      · refine W.bound fun hbd => ?_
        have hq := new_at hH.1 (H1 := H1) (bnd_new (Z := Z) (H := H) hs0 hn0 hbd (by omega)) hD1 hP1
        subst hq
        have hcA : cA = zA Z 26 := by
          obtain ⟨_, _, -, -, -, f1⟩ := (hK1.2 (aTs Z).length (cA, .object "PrimeProofs$Line") (by rw [List.getElem?_append_right (Nat.le_refl _), Nat.sub_self]; rfl)).2
          obtain ⟨_, _, -, -, -, f2⟩ := (hK.2 5 (zA Z 26, .object "PrimeProofs$Line") rfl).2
          exact Option.some.inj (f1.symm.trans f2)
        subst hcA
        have hcw : cW Z (hNew h 26 n (dfA 26)) = cW Z h ++ [(zB Z + (hNx h).toNat, .inl (zA Z 26, (n.toNat, .inr (.inr (.inr (.inr fun _ => none))))))] := by
          rw [cW_new hH.1.1 (hNx_new ..) (fun b hb => cE_new_ne Z h hb), cE_arr (by rw [hTy_new, if_pos rfl]) (by omega), cAr_q (by rw [hTy_new, if_pos rfl]), hLn_new, if_pos rfl]
          simp only [hCe_new, if_pos]
          rfl
        rw [← hcw] at hP1
        rw [c1, c2]
        have := kk H1 locs ls hL (wf_c wf_r fun w hw => hS w (by simp [hw])) ⟨hH.1.new (Or.inr ⟨by omega, by omega, hG.1, hG.2⟩) (dfA_C (by omega) (by omega)), hP1⟩ hS1
        simp only [List.map_cons] at this
        rw [cV2_some hH.1.1] at this
        exact this
    · cases hn
  · cases hr
theorem nF_eq {ci : Nat} {q : vw_C} (hc : aCl[ci]? = some q) : nF ci = q.2.2 := by
  obtain ⟨ty, hy, -⟩ := aO_at hc
  exact (chkC_at hc hy).1
theorem dfO_C {ci : Nat} (hci : ci < 10) : ∀ j, inC (ci + 1) j (dfO ci j) := fun j => by
  refine ⟨fun _ _ => ?_, fun q => by omega, fun q => by omega, fun q => by omega, fun q => by omega, fun q => by omega⟩
  simp only [Nat.add_sub_cancel]
  unfold dfO
  refine ⟨fun q => ?_, fun q => ?_⟩ <;> rw [if_neg (by omega)]
  · unfold in32; omega
  · unfold in64; omega
theorem sim_new {x : Nat} {pc len : Nat} (C : Cx p R s m args meth c Z sc M) (hd : decode M.1 pc = .ok (.new x, len)) (hlen : 3 = len) {i : AI} (hr : resI M (.new x) = some i)
    (hs0 : (s.heap.size : Int) = zB Z + n0) {L S L' S' : List AV} {h h' : AH} {G : Option Prop} (hn : nc sc i L S h = some (L', S', h', G)) (hn0 : n0 ≤ hNx h) (hw0 : w0 ≤ hWd h) (hm1 : (hNx h' - n0).toNat ≤ R.cells) (hm2 : (hWd h' - w0).toNat ≤ R.slots) (kk : Wst p l e R s m args below meth c Q Z n0 w0 (pc + len) L' S' h') : Wst p l e R s m args below meth c Q Z n0 w0 pc L S h := by
  obtain ⟨hx, hb, -, hown, hts, -, hE, hcp, -⟩ := C
  have hK := hE.2.2.2.2.2.2.2.2.2.2.1
  have hBs := hE.2.2.2.2.2.2.2.2.2.2.2.2
  subst hlen
  simp only [resI] at hr
  split at hr
  · rename_i ci v hk
    cases hr
    have h1 := lnkC hk
    simp only [chkN] at h1
    split at h1
    · rename_i q3 hq3
      simp only [Bool.and_eq_true, hcp] at h1
      have k1 := hts _ (inG_mem h1.1.1)
      have k2 := hts _ (inG_mem h1.1.2)
      have k3 := hts _ (inG_mem h1.2)
      simp only [nc, Option.some.injEq, Prod.mk.injEq] at hn
      obtain ⟨rfl, rfl, rfl, rfl⟩ := hn
      have hci := aCl_lt hq3
      obtain ⟨ty, hy, hty, hnm⟩ := aO_at hq3
      obtain ⟨hnf, hn40, htg⟩ := chkC_at hq3 hy
      have hNF : ((aGs[ci]?).getD []).length = nF ci := rfl
      rw [hNF] at kk hm1 hm2
      intro H locs ls hL hS hH hva
      obtain ⟨c1, c2⟩ := new_cells (h := h) (n := (nF ci : Int)) (t := ci + 1) (d := dfO ci) hn0 hw0 (by omega)
      rw [Int.toNat_natCast] at c2
      have hfs : ∀ j, j < q3.2.2 → defaultValue (ty j) = vp_V (cFs Z (hNew h (ci + 1) (nF ci) (dfO ci)) (hNx h) ci) j := by
        intro j hj
        have h2 := htg j hj
        unfold vp_V
        rw [List.getD_eq_getElem?_getD, cFs_get (by rw [hnf]; exact hj), Option.getD_some, hCe_new, if_pos rfl]
        unfold dfO
        rw [Int.toNat_natCast]
        generalize ty j = t0 at h2
        generalize tgF ci j = t1 at h2 ⊢
        unfold tgT at h2
        split at h2 <;> first | rfl | cases h2
      refine va_new hx hb (Ts := wG) hts (aI_hts hq3) ty hty hown k1 k2 k3 hK hH.2 (cW_D Z h) hva (fun q hq => by unfold zF; omega) hq3 hfs (by rw [c1]; exact hm1) (by rw [← hnf, c2]; exact hm2) hd fun q H1 hP1 hD1 hS1 => ?_
      refine W.bound fun hbd => ?_
      have hq := new_at hH.1 (H1 := H1) (bnd_new (Z := Z) (H := H) hs0 hn0 hbd (by omega)) hD1 hP1
      subst hq
      have hcw : cW Z (hNew h (ci + 1) (nF ci) (dfO ci)) = cW Z h ++ [(zB Z + (hNx h).toNat, .inr (ci, cFs Z (hNew h (ci + 1) (nF ci) (dfO ci)) (hNx h) ci))] := by
        rw [cW_new hH.1.1 (hNx_new ..) (fun b hb => cE_new_ne Z h hb)]
        unfold cE
        rw [hTy_new, if_pos rfl, if_pos (by omega)]
        rfl
      rw [← hcw] at hP1
      rw [← hnf, c1, c2]
      have := kk H1 locs ls hL (wf_c wf_r hS) ⟨hH.1.new (Or.inl ⟨by omega, by omega⟩) (dfO_C hci), hP1⟩ hS1
      simp only [List.map_cons] at this
      rw [cV2_some hH.1.1] at this
      exact this
    · cases h1
  · cases hr
theorem lnkM {c0 x : Nat} {v : Nat × Nat × Nat × Nat × Nat × Nat × Nat} (hk : lkC aLM c0 x = some v) : PL c0 (x, v) := lkPL pL_all hk
theorem sim_swap {x : Nat} {pc len : Nat} (C : Cx p R s m args meth c Z sc M) (hml : c.maxLocals = M.2.2.1) (hd : decode M.1 pc = .ok (.invokestatic x, len)) (hlen : 3 = len) (hr : resI M (.invokestatic x) = some .swap)
    {L S L' S' : List AV} {h h' : AH} {G : Option Prop} (hLl : L.length = M.2.2.1) (hn : nc sc .swap L S h = some (L', S', h', G)) (hG : okG G) (kk : Wst p l e R s m args below meth c Q Z n0 w0 (pc + len) L' S' h') : Wst p l e R s m args below meth c Q Z n0 w0 pc L S h := by
  obtain ⟨hx, hb, -, hown, hts, -, hE, hcp, hfr, hlo⟩ := C
  have hK := hE.2.2.2.2.2.2.2.2.2.2.1
  subst hlen
  simp only [resI] at hr
  split at hr
  · cases hr
  · rename_i y v hk
    have h1 := lnkM hk
    simp only [PL, hcp] at h1
    obtain ⟨k1, k2, k3, k4⟩ := h1
    simp only [nc] at hn
    split at hn
    · simp only [Option.some.injEq, Prod.mk.injEq] at hn
      obtain ⟨rfl, rfl, rfl, rfl⟩ := hn
      rename_i n dp b sp a
      obtain ⟨ga, gb, g1, g2, g3, g4, g5⟩ := (hG : hTy h a = 21 ∧ hTy h b = 21 ∧ 0 ≤ sp ∧ 0 ≤ dp ∧ 0 ≤ n ∧ sp + n ≤ hLn h a ∧ dp + n ≤ hLn h b)
      intro H locs ls hL hS hH hva
      have wn := wf_ti (hS (0, n) (by simp))
      have wd := wf_ti (hS (0, dp) (by simp))
      have ws := wf_ti (hS (0, sp) (by simp))
      obtain ⟨a0, a1, aat, -⟩ := arr_at (Z := Z) hH.1 ga (Nat.le_refl _)
      obtain ⟨b0, b1, bat, -⟩ := arr_at (Z := Z) hH.1 gb (Nat.le_refl _)
      rw [cAr_i (by omega) (by omega)] at aat bat
      simp only [List.map_cons, List.map_nil]
      rw [cV2_some a0, cV2_some b0]
      refine va_copyi hx hb (by rw [hml, hL.1, hLl]) hown (hts _ k1) (hts _ k3) (hts _ k2) (hts _ k4) hK hH.2 (cW_D Z h) hva a.toNat b.toNat 0 0 aat bat rfl rfl rfl (nneg g1 ws) (nneg g2 wd) (nneg g3 wn) (by rw [n32_clamp g1 ws, n32_clamp g3 wn]; omega) (by rw [n32_clamp g2 wd, n32_clamp g3 wn]; omega) (fun _ _ => rfl) hfr (Nat.le_trans (Nat.le_of_ble_eq_true rfl) hlo) hd fun H1 locs1 hP1 _ hS1 => ?_
      have he : cAr Z (hCpy h a sp b dp n) b = ((hLn h b).toNat, .inl (va_cpy (fun j : Nat => Int32.ofInt (hCe h a j)) (fun j : Nat => Int32.ofInt (hCe h b j)) sp.toNat dp.toNat n.toNat)) := by
        rw [cAr_i (by rw [hTy_cpy]; omega) (by rw [hTy_cpy]; omega), hLn_cpy]
        congr 2
        funext j
        unfold va_cpy
        rw [hCe_cpy]
        by_cases hj : dp.toNat ≤ j ∧ j < dp.toNat + n.toNat
        · rw [if_pos hj, if_pos ⟨rfl, by omega, by omega⟩]
          congr 2
          omega
        · rw [if_neg hj, if_neg (fun q => hj (by omega))]
      rw [n32_clamp g1 ws, n32_clamp g2 wd, n32_clamp g3 wn, cW_set b0 b1 (h' := hCpy h a sp b dp n) (hNx_cpy ..) (fun q hq => cE_cpy_ne Z h hq) (by rw [cE_arr (by rw [hTy_cpy]; exact gb) (Nat.le_refl _), he])] at hP1
      exact kk H1 locs1 ls hL (fun w hw => by simp at hw) ⟨hH.1.cpy ga gb, hP1⟩ hS1
    · cases hn
  · cases hr
theorem sim_pop2 {x : Nat} {pc len : Nat} (C : Cx p R s m args meth c Z sc M) (hml : c.maxLocals = M.2.2.1) (hd : decode M.1 pc = .ok (.invokespecial x, len)) (hlen : 3 = len) (hr : resI M (.invokespecial x) = some .pop2) (hoi : (Cond.code Lib.objectInit ⟨#[0xb1]⟩ 1 none).before args s = true)
    {L S L' S' : List AV} {h h' : AH} {G : Option Prop} (hLl : L.length = M.2.2.1) (hn : nc sc .pop2 L S h = some (L', S', h', G)) (hG : okG G) (kk : Wst p l e R s m args below meth c Q Z n0 w0 (pc + len) L' S' h') : Wst p l e R s m args below meth c Q Z n0 w0 pc L S h := by
  obtain ⟨hx, hb, -, hown, hts, -, hE, hcp, hfr, hlo⟩ := C
  subst hlen
  simp only [resI] at hr
  split at hr
  · cases hr
  · cases hr
  · rename_i y v hk
    have h1 := lnkM hk
    simp only [PL, hcp] at h1
    obtain ⟨k1, k2⟩ := h1
    simp only [nc] at hn
    split at hn
    · simp only [Option.some.injEq, Prod.mk.injEq] at hn
      obtain ⟨rfl, rfl, rfl, rfl⟩ := hn
      rename_i a
      have hG : 0 ≤ a := hG
      intro H locs ls hL hS hH hva
      simp only [List.map_cons, List.map_nil]
      rw [cV2_some hG]
      refine W.objInit hx hb hown (hts _ k1) (hts _ k2) hoi rfl (by rw [hml, ← hLl]; exact hL.1) rfl hd hfr (Nat.le_trans (Nat.le_of_ble_eq_true rfl) hlo) ?_
      exact kk H locs ls hL (fun w hw => by simp at hw) hH hva
    · cases hn
  · cases hr
end SIM4
