/-! the machine follows: locals that grow, conversions, fields, arrays, what is made -/
section SIM2
variable {p : Program} {l : Launch} {e : Env} {R : Room} {s : State} {m : MethodId} {args : Array Value} {below : List Frame} {meth : Method} {c : Code} {Q : State → Prop} {Z : EZ} {sc : AS} {n0 w0 : Int} {M : aM}
theorem sim_iinc {k : Nat} {n : Int} {pc len : Nat} (C : Cx p R s m args meth c Z sc M) (hd : decode M.1 pc = .ok (.iinc k n, len)) (hlen : 3 = len) {i : AI} (hr : resI M (.iinc k n) = some i)
    {L S L' S' : List AV} {h h' : AH} {G : Option Prop} (hn : nc sc i L S h = some (L', S', h', G)) (kk : Wst p l e R s m args below meth c Q Z n0 w0 (pc + len) L' S' h') : Wst p l e R s m args below meth c Q Z n0 w0 pc L S h := by
  obtain ⟨hx, hb, -, -, -, -, hE, -⟩ := C
  have hO := hE.2.2.2.2.2.2.2.2.2.2.2.1
  subst hlen
  simp only [resI] at hr
  split at hr
  · rename_i hq
    cases hr
    simp only [nc] at hn
    split at hn
    · rename_i x hx2 hk
      have hk : k < L.length := by simpa using hk
      cases hn
      intro H locs ls hL hS hH hva
      have hw := hL.wf hx2
      obtain ⟨j, hj⟩ := List.getElem?_of_mem (enL_in (Z := Z) (L := L) (j := k) (by rw [hx2]; exact Nat.zero_le _))
      rw [hx2] at hj
      refine lv_iinc hx hb hd hL.has hj (v := Int32.ofInt (w32 (x + n))) ?_ hk rfl fun ls' h' => kk H locs ls' (hL.sto1 (zO_cat hO) (wf_i (w32_in _)) hk h') hS hH hva
      rw [n32_add]
    · cases hn
  · cases hr
theorem sim_conv {i0 : AI} {pc len : Nat} (C : Cx p R s m args meth c Z sc M) (hd : decode M.1 pc = .ok (i0, len)) (hlen : lenI i0 = len) {i : AI} (hr : resI M i0 = some i)
    (hi : i0 ∈ ([.ineg, .lneg, .i2l, .l2i, .i2c, .lcmp] : List AI))
    {L S L' S' : List AV} {h h' : AH} {G : Option Prop} (hn : nc sc i L S h = some (L', S', h', G)) (kk : Wst p l e R s m args below meth c Q Z n0 w0 (pc + len) L' S' h') : Wst p l e R s m args below meth c Q Z n0 w0 pc L S h := by
  obtain ⟨hx, hb, -⟩ := C
  subst hlen
  simp only [List.mem_cons, List.not_mem_nil, or_false] at hi
  rcases hi with rfl | rfl | rfl | rfl | rfl | rfl <;> cases hr <;> simp only [nc] at hn <;> split at hn <;> (try (cases hn; done)) <;> cases hn <;> intro H locs ls hL hS hH hva
  · exact lv_ineg hx hb hd (by rw [n32_neg]; exact kk H locs ls hL (wf_c (wf_i (w32_in _)) fun w hw => hS w (by simp [hw])) hH hva)
  · exact lv_lneg hx hb hd (by rw [n64_neg]; exact kk H locs ls hL (wf_c (wf_l (w64_in _)) fun w hw => hS w (by simp [hw])) hH hva)
  · rename_i a r
    have ha := wf_ti (hS (0, a) (by simp))
    exact lv_i2l hx hb hd (n32_i2l ha) (kk H locs ls hL (wf_c (wf_l (by unfold in32 at ha; unfold in64; omega)) fun w hw => hS w (by simp [hw])) hH hva)
  · rename_i a r
    have ha := wf_tl (hS (1, a) (by simp))
    exact lv_l2i hx hb hd (n64_l2i ha) (kk H locs ls hL (wf_c (wf_i (w32_in _)) fun w hw => hS w (by simp [hw])) hH hva)
  · rename_i a r
    have ha := wf_ti (hS (0, a) (by simp))
    exact lv_i2c hx hb hd (n32_i2c ha) (kk H locs ls hL (wf_c (wf_i (by unfold in32; omega)) fun w hw => hS w (by simp [hw])) hH hva)
  · rename_i b a r
    have ha := wf_tl (hS (1, a) (by simp))
    have hb2 := wf_tl (hS (1, b) (by simp))
    refine W.lcmp hx hb hd ?_
    rw [lg_cmpI ha hb2]
    exact kk H locs ls hL (wf_c (wf_i (cmpL_in _ _)) fun w hw => hS w (by simp [hw])) hH hva
theorem cat2 (x : Int) : (cV Z (2, x)).category = 1 := by
  rcases Int.lt_or_le x 0 with h | h
  · rw [cV2_none h]; rfl
  · rw [cV2_some h]; rfl
theorem sim_dup {i0 : AI} {pc len : Nat} (C : Cx p R s m args meth c Z sc M) (hd : decode M.1 pc = .ok (i0, len)) (hlen : lenI i0 = len) {i : AI} (hr : resI M i0 = some i)
    (hi : i0 ∈ ([.dup, .dup2, .pop] : List AI))
    {L S L' S' : List AV} {h h' : AH} {G : Option Prop} (hn : nc sc i L S h = some (L', S', h', G)) (kk : Wst p l e R s m args below meth c Q Z n0 w0 (pc + len) L' S' h') : Wst p l e R s m args below meth c Q Z n0 w0 pc L S h := by
  obtain ⟨hx, hb, -⟩ := C
  subst hlen
  simp only [List.mem_cons, List.not_mem_nil, or_false] at hi
  rcases hi with rfl | rfl | rfl <;> cases hr <;> simp only [nc] at hn <;> split at hn <;> (try (cases hn; done)) <;> cases hn <;> intro H locs ls hL hS hH hva
  · rename_i x r
    have hw := hS (0, x) (by simp)
    exact lv_dup hx hb hd rfl (kk H locs ls hL (wf_c hw (wf_c hw fun w hw => hS w (by simp [hw]))) hH hva)
  · rename_i x r
    have hw := hS (2, x) (by simp)
    exact lv_dup hx hb hd (cat2 x) (kk H locs ls hL (wf_c hw (wf_c hw fun w hw => hS w (by simp [hw]))) hH hva)
  · rename_i y x r
    have hw := hS (0, y) (by simp)
    have hw2 := hS (2, x) (by simp)
    exact lv_dup2_11 hx hb hd rfl (cat2 x) (kk H locs ls hL (wf_c hw (wf_c hw2 (wf_c hw (wf_c hw2 fun w hw => hS w (by simp [hw]))))) hH hva)
  · exact lv_pop hx hb hd rfl (kk H locs ls hL (fun w hw => hS w (by simp [hw])) hH hva)
  · exact lv_pop hx hb hd (cat2 _) (kk H locs ls hL (fun w hw => hS w (by simp [hw])) hH hva)
/-- an object of the abstract heap -/
theorem obj_at {h : AH} (w : WFh h) {a : Int} {ci : Nat} (ht : hTy h a = ci + 1) (hci : ci < 10) : 0 ≤ a ∧ a < hNx h ∧ (cW Z h)[a.toNat]? = some (zB Z + a.toNat, .inr (ci, cFs Z h a ci)) := by
  obtain ⟨h0, h1⟩ := w.lt (a := a) (by omega)
  refine ⟨h0, h1, ?_⟩
  rw [cW_get h0 h1]
  unfold cE
  rw [if_pos (by omega), ht]
  rfl
theorem cFs_get {h : AH} {a : Int} {ci k : Nat} (hk : k < nF ci) : (cFs Z h a ci)[k]? = some (cV Z (tgF ci k, hCe h a k)) := by
  unfold cFs
  rw [List.getElem?_map, List.getElem?_range hk]
  rfl
theorem cFs_set {h : AH} {a v : Int} {ci k : Nat} (hk : k < nF ci) : (cFs Z h a ci).set k (cV Z (tgF ci k, v)) = cFs Z (hSet h a k v) a ci := by
  apply List.ext_getElem?
  intro j
  have hl : ∀ h' : AH, (cFs Z h' a ci).length = nF ci := fun h' => by simp [cFs]
  by_cases hj : j = k
  · subst hj
    rw [List.getElem?_set_self (by rw [hl]; exact hk), cFs_get hk, hCe_set, if_pos ⟨rfl, rfl⟩]
  · rw [List.getElem?_set_ne (Ne.symm hj)]
    by_cases hjl : j < nF ci
    · rw [cFs_get hjl, cFs_get hjl, hCe_set, if_neg (fun q => hj (by omega))]
    · rw [List.getElem?_eq_none (by rw [hl]; omega), List.getElem?_eq_none (by rw [hl]; omega)]
theorem tg_lt {ci k : Nat} {q : vw_C} (hc : aCl[ci]? = some q) (hk : k < q.2.2) : tgF ci k = 0 ∨ tgF ci k = 1 ∨ tgF ci k = 2 := by
  obtain ⟨ty, hy, -⟩ := aO_at hc
  have h1 := (chkC_at hc hy).2.2 k hk
  unfold tgT at h1
  split at h1 <;> first | omega | cases h1
theorem enc_1 {ci k t : Nat} (hk : k < 100) (ht : t < 10) : (1000 * ci + 100 * t + k) / 1000 = ci ∧ (1000 * ci + 100 * t + k) / 100 % 10 = t ∧ (1000 * ci + 100 * t + k) % 100 = k := by omega
theorem lnkF {c0 x : Nat} {ci k t f pl : Nat} (hk : lkC aLF c0 x = some (ci, k, t, f, pl)) : ∃ q, aCl[ci]? = some q ∧ k < q.2.2 ∧ Cond.fieldLink (cpN c0) x (q.2.1 k).1 (q.2.1 k).2.1 (q.2.1 k).2.2.1 ∈ wG ∧ tgF ci k = t ∧ (f = 0 ↔ (q.2.1 k).2.2.2 = false) ∧ k < 100 ∧ t < 10 ∧ q.1 = (q.2.1 k).1 := by
  have h1 := lkC_at chkF_all hk
  simp only [chkF] at h1
  split at h1
  · rename_i q hq
    simp only [Bool.and_eq_true, decide_eq_true_eq, beq_iff_eq] at h1
    obtain ⟨⟨⟨⟨⟨⟨a1, a2⟩, a3⟩, a4⟩, a5⟩, a6⟩, a7⟩ := h1
    refine ⟨q, hq, a1, inG_mem a2, a3, ?_, a5, a6, a7⟩
    cases hb : (q.2.1 k).2.2.2 with
    | false =>
      rw [hb] at a4
      simpa using a4
    | true =>
      rw [hb] at a4
      simp at a4
      simp [a4]
  · cases h1
theorem aI_hts {ci : Nat} {q : vw_C} (hc : aCl[ci]? = some q) : ∀ w ∈ u_ws q.1 q.2.1 q.2.2, w ∈ wG := aI_good (aI_in hc)
theorem inC_cls {h : AH} (w : WFh h) {a : Int} {ci k : Nat} (ht : hTy h a = ci + 1) (hci : ci < 10) : WFv (tgF ci k, hCe h a k) ∨ tgF ci k = 3 ∨ tgF ci k = 4 ∨ tgF ci k = 5 := by
  have h1 := (w.2.2.2 a k).1 (by omega) (by omega)
  rw [ht] at h1
  simp only [Nat.add_sub_cancel, Int.toNat_natCast] at h1
  by_cases h3 : tgF ci k = 3
  · exact Or.inr (Or.inl h3)
  by_cases h4 : tgF ci k = 4
  · exact Or.inr (Or.inr (Or.inl h4))
  by_cases h5 : tgF ci k = 5
  · exact Or.inr (Or.inr (Or.inr h5))
  exact Or.inl ⟨h1.1, h1.2, fun q => absurd q h3, fun q => absurd q h4, fun q => absurd q h5⟩
theorem sim_getfield {x : Nat} {pc len : Nat} (C : Cx p R s m args meth c Z sc M) (hd : decode M.1 pc = .ok (.getfield x, len)) (hlen : 3 = len) {i : AI} (hr : resI M (.getfield x) = some i)
    {L S L' S' : List AV} {h h' : AH} {G : Option Prop} (hn : nc sc i L S h = some (L', S', h', G)) (hG : okG G) (kk : Wst p l e R s m args below meth c Q Z n0 w0 (pc + len) L' S' h') : Wst p l e R s m args below meth c Q Z n0 w0 pc L S h := by
  obtain ⟨hx, hb, -, hown, hts, -, hE, hcp, -⟩ := C
  have hO := hE.2.2.2.2.2.2.2.2.2.2.2.1
  have hK := hE.2.2.2.2.2.2.2.2.2.2.1
  subst hlen
  simp only [resI] at hr
  split at hr
  · rename_i ci k t f pl hk
    cases hr
    obtain ⟨q, hc, hkq, hlk, htg, hfin, hk100, ht10, hq1⟩ := lnkF hk
    subst htg
    obtain ⟨e1, e2, e3⟩ := enc_1 (ci := ci) hk100 ht10
    simp only [nc, e1, e2, e3] at hn
    split at hn
    · rename_i a r
      cases hn
      have hT : hTy h a = ci + 1 := hG
      intro H locs ls hL hS hH hva
      have hci := aCl_lt hc
      obtain ⟨ty, hy, hty, hnm⟩ := aO_at hc
      have hnf := (chkC_at hc hy).1
      obtain ⟨h0, h1, hat⟩ := obj_at (Z := Z) hH.1 hT hci
      simp only [List.map_cons]
      rw [cV2_some h0]
      rw [hcp] at hlk
      have hwf : WFv (tgF ci k, hCe h a k) := by
        have htl := tg_lt hc hkq
        rcases inC_cls (k := k) hH.1 hT hci with w | w | w | w
        · exact w
        all_goals omega
      exact va_get hx hb (Ts := wG) (fun w hw => hts w hw) (aI_hts hc) hown hK hH.2 a.toNat hat hc k hkq (hts _ hlk) (fun _ h9 => h9) (cFs_get (by rw [hnf]; exact hkq)) hd (kk H locs ls hL (wf_c hwf fun w hw => hS w (by simp [hw])) hH hva)
    · cases hn
  · rename_i hk
    split at hr
    · rename_i pl hk2
      cases hr
      simp only [nc] at hn
      split at hn
      · rename_i h3 r
        cases hn
        have h1 := lkC_at chkS_all hk2
        simp only [chkS] at h1
        have h2 := inG_mem h1
        rw [hcp] at h2
        intro H locs ls hL hS hH hva
        have hw := hS (3, h3) (by simp)
        have hb3 := hw.2.2.1 rfl
        have hE5 := hE.2.2.2.2.1.1 h3.toNat (by omega)
        exact vk_getf hx hb hE5.2.2.1 hva hown (hts _ h2) (fun _ h9 => h9) hd (kk H locs ls hL (wf_c (wf_5 hb3) fun w hw => hS w (by simp [hw])) hH hva)
      · cases hn
    · rename_i pl hk2
      cases hr
      simp only [nc] at hn
      split at hn
      · rename_i h3 r
        cases hn
        have h1 := lkC_at chkS_all hk2
        simp only [chkS] at h1
        have h2 := inG_mem h1
        rw [hcp] at h2
        intro H locs ls hL hS hH hva
        have hw := hS (3, h3) (by simp)
        have hb3 := hw.2.2.1 rfl
        have hE5 := hE.2.2.2.2.1.1 h3.toNat (by omega)
        exact vk_getf hx hb hE5.2.1 hva hown (hts _ h2) (fun _ h9 => h9) hd (kk H locs ls hL (wf_c (wf_i (by unfold in32; omega)) fun w hw => hS w (by simp [hw])) hH hva)
      · cases hn
    · cases hr
theorem sim_getstatic {x : Nat} {pc len : Nat} (C : Cx p R s m args meth c Z sc M) (hd : decode M.1 pc = .ok (.getstatic x, len)) (hlen : 3 = len) {i : AI} (hr : resI M (.getstatic x) = some i)
    {L S L' S' : List AV} {h h' : AH} {G : Option Prop} (hn : nc sc i L S h = some (L', S', h', G)) (kk : Wst p l e R s m args below meth c Q Z n0 w0 (pc + len) L' S' h') : Wst p l e R s m args below meth c Q Z n0 w0 pc L S h := by
  obtain ⟨hx, hb, -, hown, hts, -, hE, hcp, -⟩ := C
  subst hlen
  simp only [resI] at hr
  split at hr
  · rename_i k pl hk
    split at hr
    · cases hr
      have h1 := lkC_at chkS_all hk
      have h3 := lkC_at chkS_all hk
      simp only [nc] at hn
      split at hn
      · cases hn
        simp only [chkS] at h1
        have h2 := inG_mem h1
        rw [hcp] at h2
        exact sim_push (wf_4 (Or.inl rfl)) (fun H locs cells slots ls rest _ hva k => va_gets hx hb hE.1 hva hown (hts _ h2) (fun _ h9 => h9) hd k) kk
      · cases hn
        simp only [chkS] at h1
        have h2 := inG_mem h1
        rw [hcp] at h2
        exact sim_push (wf_i (by unfold in32; omega)) (fun H locs cells slots ls rest _ hva k => va_gets hx hb hE.2.2.1 hva hown (hts _ h2) (fun _ h9 => h9) hd k) kk
      · cases hn
        simp only [chkS] at h1
        have h2 := inG_mem h1
        rw [hcp] at h2
        exact sim_push wf_6 (fun H locs cells slots ls rest _ hva k => va_gets hx hb hE.2.2.2.1 hva hown (hts _ h2) (fun _ h9 => h9) hd k) kk
      · cases hn
    · cases hr
  · cases hr
theorem inC_put {ci k : Nat} (hci : ci < 10) {t : Nat} {v : Int} (ht : tgF ci k = t) (hv : WFv (t, v)) : inC (ci + 1) (k : Int) v := by
  refine ⟨fun _ _ => ?_, fun q => by omega, fun q => by omega, fun q => by omega, fun q => by omega, fun q => by omega⟩
  simp only [Nat.add_sub_cancel, Int.toNat_natCast, ht]
  exact ⟨hv.1, hv.2.1⟩
theorem narrow_fit {ci k : Nat} {q : vw_C} (hc : aCl[ci]? = some q) (hk : k < q.2.2) {v : Int} : ∃ ty, parseFieldDescriptor (q.2.1 k).2.2.1 = some ty ∧ narrow ty (cV Z (tgF ci k, v)) = cV Z (tgF ci k, v) ∧ fits ty (cV Z (tgF ci k, v)) = true := by
  obtain ⟨ty, hy, hty, hnm⟩ := aO_at hc
  have h1 := (chkC_at hc hy).2.2 k hk
  refine ⟨ty k, hty k hk, ?_⟩
  generalize ty k = t0 at h1
  generalize tgF ci k = t1 at h1 ⊢
  unfold tgT at h1
  split at h1
  · exact ⟨rfl, rfl⟩
  · exact ⟨rfl, rfl⟩
  · rcases Int.lt_or_le v 0 with hv | hv
    · rw [cV2_none hv]; exact ⟨rfl, rfl⟩
    · rw [cV2_some hv]; exact ⟨rfl, rfl⟩
  · rcases Int.lt_or_le v 0 with hv | hv
    · rw [cV2_none hv]; exact ⟨rfl, rfl⟩
    · rw [cV2_some hv]; exact ⟨rfl, rfl⟩
  · cases h1
theorem sim_putfield {x : Nat} {pc len : Nat} (C : Cx p R s m args meth c Z sc M) (hd : decode M.1 pc = .ok (.putfield x, len)) (hlen : 3 = len) {i : AI} (hr : resI M (.putfield x) = some i)
    {L S L' S' : List AV} {h h' : AH} {G : Option Prop} (hn : nc sc i L S h = some (L', S', h', G)) (hG : okG G) (kk : Wst p l e R s m args below meth c Q Z n0 w0 (pc + len) L' S' h') : Wst p l e R s m args below meth c Q Z n0 w0 pc L S h := by
  obtain ⟨hx, hb, -, hown, hts, hnm0, hE, hcp, -⟩ := C
  have hK := hE.2.2.2.2.2.2.2.2.2.2.1
  subst hlen
  simp only [resI] at hr
  split at hr
  · rename_i ci k t f pl hk
    split at hr
    · rename_i hcond
      cases hr
      obtain ⟨q, hc, hkq, hlk, htg, hfin, hk100, ht10, hq1⟩ := lnkF hk
      subst htg
      obtain ⟨e1, e2, e3⟩ := enc_1 (ci := ci) hk100 ht10
      simp only [nc, e1, e2, e3] at hn
      split at hn
      · rename_i t v a r
        split at hn
        · rename_i hte
          have hte : t = tgF ci k := by simpa using hte
          subst hte
          obtain ⟨L9, hL9⟩ : ∃ L9, L9 = r := ⟨_, rfl⟩
          simp only [Option.some.injEq, Prod.mk.injEq] at hn
          obtain ⟨rfl, hn2, rfl, rfl⟩ := hn
          subst hn2
          have hT : hTy h a = ci + 1 := hG
          intro H locs ls hL hS hH hva
          have hci := aCl_lt hc
          obtain ⟨ty, hy, hty, hnm⟩ := aO_at hc
          have hnf := (chkC_at hc hy).1
          obtain ⟨h0, h1, hat⟩ := obj_at (Z := Z) hH.1 hT hci
          have hw := hS (tgF ci k, v) (by simp)
          obtain ⟨ty1, g1, g2, g3⟩ := narrow_fit (Z := Z) hc hkq (v := v)
          simp only [List.map_cons]
          rw [cV2_some h0]
          rw [hcp] at hlk
          have hset : (cW Z h).set a.toNat (zB Z + a.toNat, .inr (ci, (cFs Z h a ci).set k (cV Z (tgF ci k, v)))) = cW Z (hSet h a k v) := by
            refine cW_set h0 h1 (hNx_set ..) (fun b hb => cE_set_ne Z h hb) ?_
            rw [cFs_set (by rw [hnf]; exact hkq)]
            unfold cE
            rw [hTy_set, if_pos (by omega), hT]
            rfl
          have goOn : ∀ (H1 : Heap) (locs1 : List Loc), va_P (zD Z) aCl ((cW Z h).set a.toNat (zB Z + a.toNat, .inr (ci, (cFs Z h a ci).set k (cV Z (tgF ci k, v))))) H1 → va_D (zF Z) ((cW Z h).set a.toNat (zB Z + a.toNat, .inr (ci, (cFs Z h a ci).set k (cV Z (tgF ci k, v))))) → va_S (zF Z) s.heap H1 locs1 → W p l e R s m args below meth c H1 locs1 (hNx h - n0).toNat (hWd h - w0).toNat Q (F0 m (pc + 3) ls (List.map (cV Z) L9)) := by
            intro H1 locs1 hP1 _ hS1
            rw [hset] at hP1
            rw [hL9]
            exact kk H1 locs1 ls hL (fun w hw => hS w (by simp [hw])) ⟨hH.1.set (by rw [hT]; exact inC_put hci rfl hw), hP1⟩ hS1
          have hlen1 : k < (cFs Z h a ci).length := by simp [cFs]; omega
          have hdd := cW_D Z h
          by_cases hf : f = 0
          · rw [hL9] at goOn; exact va_put hx hb (Ts := wG) hts (aI_hts hc) ty hty hnm hown hK hH.2 hdd hva a.toNat hat hc k hkq (hts _ hlk) (fun _ h9 => h9) (hfin.mp hf) g1 g2 g3 hlen1 hd goOn
          · have hfin2 : (q.2.1 k).2.2.2 = true := by
              cases hb2 : (q.2.1 k).2.2.2 with
              | true => rfl
              | false => exact absurd (hfin.mpr hb2) hf
            have hc2 : (M.2.1.name == "<init>" && ((aCl[ci]?).map (fun q => (q.2.1 k).1) == some M.2.1.cls)) = true := by
              simp only [Bool.or_eq_true, beq_iff_eq] at hcond
              rcases hcond with q | q
              · exact absurd q hf
              · exact q
            simp only [hc, Option.map_some, Bool.and_eq_true, beq_iff_eq, Option.some.injEq] at hc2
            rw [hL9] at goOn; exact va_putF hx hb (Ts := wG) hts (aI_hts hc) ty hty hnm hown hK hH.2 hdd hva a.toNat hat hc k hkq (hts _ hlk) (fun _ h9 => h9) hfin2 (hnm0.trans hc2.1) hc2.2 g1 g2 g3 hlen1 hd goOn
        · cases hn
      · cases hn
    · cases hr
  · cases hr
end SIM2
