/-! jumps, calls, ends; then whole runs -/
section SIM5
variable {p : Program} {l : Launch} {e : Env} {R : Room} {s : State} {m : MethodId} {args : Array Value} {below : List Frame} {meth : Method} {c : Code} {Q : State → Prop} {Z : EZ} {sc : AS} {n0 w0 : Int} {M : aM}
theorem n32_0 {x : Int} (hx : in32 x) : (Int32.ofInt x = 0 ↔ x = 0) ∧ (Int32.ofInt x < 0 ↔ x < 0) ∧ (0 ≤ Int32.ofInt x ↔ ¬ x < 0) ∧ (0 < Int32.ofInt x ↔ 0 < x) ∧ (Int32.ofInt x ≤ 0 ↔ ¬ 0 < x) := by
  have h0 : in32 0 := by unfold in32; omega
  rw [show (0 : Int32) = Int32.ofInt 0 from rfl, n32_eq hx h0, n32_lt hx h0, n32_le h0 hx, n32_lt h0 hx, n32_le hx h0]
  exact ⟨Iff.rfl, Iff.rfl, by omega, Iff.rfl, by omega⟩
theorem cond_split {P : Prop} [Decidable P] {a b : Nat} {K : Nat → Prop} (h : K (if P then a else b)) : (P → K a) ∧ (¬ P → K b) := ⟨fun q => by rwa [if_pos q] at h, fun q => by rwa [if_neg q] at h⟩
theorem res_jmp {M : aM} {i0 i : AI} {pc len : Nat} {S : List AV} {q : Nat × List AV} (h : resI M i0 = some i) (hj : jmp i pc len S = some q) : i0 = i := by
  cases i0 <;> simp only [resI, Option.some.injEq, reduceCtorEq] at h <;> first
    | exact h
    | (exfalso
       (repeat' split at h) <;> first
        | (cases h; done)
        | (simp only [Option.some.injEq] at h; subst h; simp [jmp] at hj; done))
theorem sim_jmp {i0 i : AI} {pc len : Nat} (C : Cx p R s m args meth c Z sc M) (hd : decode M.1 pc = .ok (i0, len)) (hlen : lenI i0 = 0 ∨ lenI i0 = len) (hr : resI M i0 = some i) (hok : okJ pc i = true)
    {L S S' : List AV} {h : AH} {pc' : Nat} (hj : jmp i pc len S = some (pc', S')) (kk : Wst p l e R s m args below meth c Q Z n0 w0 pc' L S' h) : Wst p l e R s m args below meth c Q Z n0 w0 pc L S h := by
  obtain ⟨hx, hb, -⟩ := C
  have hi : i0 = i := res_jmp hr hj
  subst hi
  cases i0 <;> simp only [jmp] at hj <;> try (cases hj; done)
  · rename_i o
    simp only [lenI] at hlen
    have hlen : len = 3 := by omega
    subst hlen
    cases hj
    simp only [okJ, decide_eq_true_eq] at hok
    intro H locs ls hL hS hH hva
    exact lv_goto hx hb hd (by omega) (kk H locs ls hL hS hH hva)
  · rename_i cnd o
    simp only [lenI] at hlen
    have hlen : len = 3 := by omega
    subst hlen
    simp only [okJ, decide_eq_true_eq] at hok
    have ht : (pc : Int) + o = (((pc : Int) + o).toNat : Int) := by omega
    split at hj
    · rename_i y x r
      have go : ∀ a b : Nat, (cnd = .eq ∨ cnd = .ne ∨ cnd = .lt ∨ cnd = .ge ∨ cnd = .gt ∨ cnd = .le) → True := fun _ _ _ => trivial
      intro H locs ls hL hS hH hva
      have wx := wf_ti (hS (0, x) (by simp))
      have wy := wf_ti (hS (0, y) (by simp))
      cases cnd <;> simp only [Option.some.injEq, Prod.mk.injEq] at hj <;> obtain ⟨rfl, rfl⟩ := hj <;> have k2 := cond_split (K := fun q => W p l e R s m args below meth c H locs (hNx h - n0).toNat (hWd h - w0).toNat Q (F0 m q ls (r.map (cV Z)))) (kk H locs ls hL (fun w hw => hS w (by simp [hw])) hH hva)
      · exact lv_icmp_eq hx hb hd ht (fun q => k2.1 ((n32_eq wx wy).mp q)) (fun q => k2.2 (fun z => q ((n32_eq wx wy).mpr z)))
      · exact lv_icmp_ne hx hb hd ht (fun q => k2.2 (fun z => q ((n32_eq wx wy).mpr z))) (fun q => k2.1 ((n32_eq wx wy).mp q))
      · exact lv_icmp_lt hx hb hd ht (fun q => k2.1 ((n32_lt wx wy).mp q)) (fun q => k2.2 (fun z => q ((n32_lt wx wy).mpr z)))
      · exact lv_icmp_ge hx hb hd ht (fun q => k2.2 (by have := (n32_le wy wx).mp q; omega)) (fun q => k2.1 (by have : ¬ y ≤ x := fun z => q ((n32_le wy wx).mpr z); omega))
      · exact lv_icmp_gt hx hb hd ht (fun q => k2.1 ((n32_lt wy wx).mp q)) (fun q => k2.2 (fun z => q ((n32_lt wy wx).mpr z)))
      · exact lv_icmp_le hx hb hd ht (fun q => k2.2 (by have := (n32_le wx wy).mp q; omega)) (fun q => k2.1 (by have : ¬ x ≤ y := fun z => q ((n32_le wx wy).mpr z); omega))
    · cases hj
  · rename_i cnd o
    simp only [lenI] at hlen
    have hlen : len = 3 := by omega
    subst hlen
    simp only [okJ, decide_eq_true_eq] at hok
    have ht : (pc : Int) + o = (((pc : Int) + o).toNat : Int) := by omega
    split at hj
    · rename_i x r
      intro H locs ls hL hS hH hva
      have wx := wf_ti (hS (0, x) (by simp))
      obtain ⟨z1, z2, z3, z4, z5⟩ := n32_0 wx
      cases cnd <;> simp only [Option.some.injEq, Prod.mk.injEq] at hj <;> obtain ⟨rfl, rfl⟩ := hj <;> have k2 := cond_split (K := fun q => W p l e R s m args below meth c H locs (hNx h - n0).toNat (hWd h - w0).toNat Q (F0 m q ls (r.map (cV Z)))) (kk H locs ls hL (fun w hw => hS w (by simp [hw])) hH hva)
      · exact lv_if_eq hx hb hd ht (fun q => k2.1 (z1.mp q)) (fun q => k2.2 (fun z => q (z1.mpr z)))
      · exact lv_if_ne hx hb hd ht (fun q => k2.2 (fun z => q (z1.mpr z))) (fun q => k2.1 (z1.mp q))
      · exact lv_if_lt hx hb hd ht (fun q => k2.1 (z2.mp q)) (fun q => k2.2 (fun z => q (z2.mpr z)))
      · exact lv_if_ge hx hb hd ht (fun q => k2.2 (z3.mp q)) (fun q => k2.1 (Decidable.byContradiction fun z => q (z3.mpr z)))
      · exact lv_if_gt hx hb hd ht (fun q => k2.1 (z4.mp q)) (fun q => k2.2 (fun z => q (z4.mpr z)))
      · exact lv_if_le hx hb hd ht (fun q => k2.2 (z5.mp q)) (fun q => k2.1 (Decidable.byContradiction fun z => q (z5.mpr z)))
    · cases hj
  · rename_i o
    simp only [lenI] at hlen
    have hlen : len = 3 := by omega
    subst hlen
    simp only [okJ, decide_eq_true_eq] at hok
    have ht : (pc : Int) + o = (((pc : Int) + o).toNat : Int) := by omega
    split at hj
    · rename_i x r
      simp only [Option.some.injEq, Prod.mk.injEq] at hj
      obtain ⟨rfl, rfl⟩ := hj
      intro H locs ls hL hS hH hva
      have k2 := cond_split (K := fun q => W p l e R s m args below meth c H locs (hNx h - n0).toNat (hWd h - w0).toNat Q (F0 m q ls (r.map (cV Z)))) (kk H locs ls hL (fun w hw => hS w (by simp [hw])) hH hva)
      simp only [List.map_cons]
      rcases Int.lt_or_le x 0 with hx0 | hx0
      · rw [cV2_none hx0]
        exact lv_ifnonnullN hx hb hd (k2.1 hx0)
      · rw [cV2_some hx0]
        exact lv_ifnonnull hx hb hd ht (k2.2 (by omega))
    · cases hj
  · rename_i o
    simp only [lenI] at hlen
    have hlen : len = 3 := by omega
    subst hlen
    simp only [okJ, decide_eq_true_eq] at hok
    have ht : (pc : Int) + o = (((pc : Int) + o).toNat : Int) := by omega
    split at hj
    · rename_i x r
      simp only [Option.some.injEq, Prod.mk.injEq] at hj
      obtain ⟨rfl, rfl⟩ := hj
      intro H locs ls hL hS hH hva
      have k2 := cond_split (K := fun q => W p l e R s m args below meth c H locs (hNx h - n0).toNat (hWd h - w0).toNat Q (F0 m q ls (r.map (cV Z)))) (kk H locs ls hL (fun w hw => hS w (by simp [hw])) hH hva)
      simp only [List.map_cons]
      rcases Int.lt_or_le x 0 with hx0 | hx0
      · rw [cV2_none hx0]
        exact lv_ifnullN hx hb hd ht (k2.1 hx0)
      · rw [cV2_some hx0]
        exact lv_ifnull hx hb hd (k2.2 (by omega))
    · cases hj
  · rename_i d lo hi offs
    split at hj
    · rename_i x r
      simp only [Option.some.injEq, Prod.mk.injEq] at hj
      obtain ⟨rfl, rfl⟩ := hj
      simp only [okJ, Bool.and_eq_true, decide_eq_true_eq] at hok
      obtain ⟨⟨o1, o2⟩, o3⟩ := hok
      intro H locs ls hL hS hH hva
      have wx := wf_ti (hS (0, x) (by simp))
      have k2 := cond_split (K := fun q => W p l e R s m args below meth c H locs (hNx h - n0).toNat (hWd h - w0).toNat Q (F0 m q ls (r.map (cV Z)))) (kk H locs ls hL (fun w hw => hS w (by simp [hw])) hH hva)
      simp only [List.map_cons]
      by_cases hq : x < lo ∨ hi < x
      · exact lv_tableOut hx hb hd (by rw [n32_toInt wx]; exact hq) (by omega) (k2.1 hq)
      · have hlt : (x - lo).toNat < offs.toList.length := by omega
        have hget : offs[(x - lo).toNat]? = some (offs.toList.getD (x - lo).toNat 0) := by
          rw [← Array.getElem?_toList, List.getD_eq_getElem?_getD]
          rw [List.getElem?_eq_getElem hlt]
          rfl
        have o4 := List.all_eq_true.mp o2 _ (List.mem_of_getElem? (by rw [← Array.getElem?_toList] at hget; exact hget))
        simp only [decide_eq_true_eq] at o4
        exact lv_tableIn hx hb hd (by rw [n32_toInt wx]; omega) (by rw [n32_toInt wx]; omega) (by rw [n32_toInt wx]; exact hget) (by omega) (k2.2 hq)
    · cases hj
/-! ### calls -/
def rmD (d mc ms : Nat) : Room := { frames := d, cells := mc, slots := ms, locals := 64 * d }
def PcA (Z : EZ) (sc : AS) (h : AH) (as : List AV) : Array Value → State → Prop := va_Pc (as.map (cV Z)) (fun U => EnvOK Z sc U U.heap ∧ HeapOK Z h U.heap ∧ (U.heap.size : Int) = zB Z + hNx h)
def QcA (Z : EZ) (r : Option AV) (h' : AH) : Array Value → State → Outcome → State → Prop := fun _ st o t => o = .returned (r.map (cV Z)) ∧ HeapOK Z h' t.heap ∧ (∀ v, r = some v → WFv v) ∧ va_F (zF Z) st t
def dN (h h' : AH) : Nat := (hNx h' - hNx h).toNat
def dW (h h' : AH) : Nat := (hWd h' - hWd h).toNat
def MetA (l : Launch) (Z : EZ) (sc : AS) (d : Nat) (M : aM) (as : List AV) (h : AH) (r : Option AV) (h' : AH) : Prop :=
  (∀ v ∈ as, WFv v) → Met l M.2.1 (Cond.code M.2.1 M.1 M.2.2.1 M.2.2.2.1 :: wG) (rmD d (dN h h') (dW h h')) (PcA Z sc h as) (QcA Z r h') (dN h h') (dW h h') (zF Z)
theorem PcA.blind {h : AH} {as : List AV} : FrameBlind (PcA Z sc h as) := by
  intro a U g mk ⟨e1, e2, e3, e4⟩
  exact ⟨e1, e2.move (State.WarmedH.refl U) (Nat.le_refl _) (fun _ _ _ => rfl), e3, e4⟩
theorem am_call {H : Heap} {locs : List Loc} {cells slots mc ms pc : Nat} {ls : Array Slot} {st0 rest : List Value} {h' : AH} {r : Option AV} {a : Array Value}
    (hr : va_Run p l e R s m args below meth c H locs cells slots mc ms (F0 m pc ls st0) rest (QcA Z r h' a) (zF Z)) (hS : va_S (zF Z) s.heap H locs)
    (kk : ∀ (H1 : Heap) (locs1 : List Loc), HeapOK Z h' H1 → (∀ v, r = some v → WFv v) → va_S (zF Z) s.heap H1 locs1 → W p l e R s m args below meth c H1 locs1 (cells + mc) (slots + ms) Q (F0 m (pc + 3) ls ((r.map (cV Z)).toList ++ rest))) : W p l e R s m args below meth c H locs cells slots Q (F0 m pc ls st0) := by
  intro T hT X
  obtain ⟨v, st₀, t, T', L, e0, X', hL, e1, -, ⟨q1, q2, q3, q4⟩, st⟩ := hr T hT X
  cases q1
  have hS1 : va_S (zF Z) s.heap t.heap (locs ++ L) := by
    refine ⟨Nat.le_trans hS.1 (by rw [← e0]; exact q4.1), fun q h1 h2 => ?_, fun q hq => ?_⟩
    · rw [q4.2 q (by rw [e0]; exact Nat.lt_of_lt_of_le h1 hS.1) h2, e0]
      exact hS.2.1 q h1 h2
    · rcases List.mem_append.mp hq with h | h
      · exact hS.2.2 q h
      · exact hL q h
  obtain ⟨t2, a1, b1⟩ := kk t.heap (locs ++ L) q2 q3 hS1 T' e1 X'
  exact ⟨t2, st t2 a1, b1⟩
theorem cat_sum (S : List AV) : ((S.map (cV Z)).map fun v => v.category).sum ≤ 2 * S.length := by
  induction S with
  | nil => simp
  | cons a S ih =>
    simp only [List.map_cons, List.sum_cons, List.length_cons]
    have : (cV Z a).category ≤ 2 := by rcases lv_cat (cV Z a) with q | q <;> omega
    omega
theorem wG_hts (hts : ∀ w ∈ wG, w.before args s = true) {M' : aM} (hc : FC M') : GoodIn wG (Cond.code M'.2.1 M'.1 M'.2.2.1 M'.2.2.2.1 :: wG) := by
  intro w hw
  rcases List.mem_cons.mp hw with e | e
  · subst e
    exact ⟨hc.1, Or.inl (by have := (List.mem_filter.mp hc.1).2; exact this)⟩
  · exact ⟨e, good_of_word (List.mem_filter.mp e).2⟩
theorem sim_call {i0 i : AI} {pc len d y : Nat} (C : Cx p R s m args meth c Z sc M) (hml : c.maxLocals = M.2.2.1) (hd : decode M.1 pc = .ok (i0, len)) (hlen : lenI i0 = 0 ∨ lenI i0 = len) (hr : resI M i0 = some i) (hdR : d + 1 ≤ R.frames ∧ 64 * (d + 1) ≤ R.locals)
    (hs0 : (s.heap.size : Int) = zB Z + n0) {L S' as : List AV} {h h' : AH} {r : Option AV} (hLl : L.length = M.2.2.1) (hnp : as.length = mNp y) (hS4 : S'.length ≤ 4) (hcg : callG i y h as)
    (hM : ∀ M', aMt[y]? = some M' → MetA l Z sc d M' as h r h') (hn0 : n0 ≤ hNx h) (hw0 : w0 ≤ hWd h) (hn1 : hNx h ≤ hNx h') (hw1 : hWd h ≤ hWd h') (hm1 : (hNx h' - n0).toNat ≤ R.cells) (hm2 : (hWd h' - w0).toNat ≤ R.slots)
    (kk : Wst p l e R s m args below meth c Q Z n0 w0 (pc + 3) L (r.toList ++ S') h') : Wst p l e R s m args below meth c Q Z n0 w0 pc L (as.reverse ++ S') h := by
  intro H locs ls hL hS hH hva
  obtain ⟨hx, hb, -, hown, hts, -, hE, hcp, hfr, hlo⟩ := C
  have hK := hE.2.2.2.2.2.2.2.2.2.2.1
  have hBs := hE.2.2.2.2.2.2.2.2.2.2.2.2
  refine W.bound fun hbd => ?_
  have hsize : ls.size = M.2.2.1 := hL.1.trans hLl
  have hHs : (H.size : Int) = zB Z + hNx h := by
    have h0 := hH.1.1
    have h1 : (H.size : Int) ≤ zB Z + hNx h := by omega
    by_cases hz : 0 < hNx h
    · have := hH.low hz; omega
    · have := hva.1; omega
  have hroom : 2 * (F0 m pc ls ((as.reverse ++ S').map (cV Z))).monitorRoom + ((S'.map (cV Z)).map fun v => v.category).sum ≤ 8 := lv_room (Nat.le_trans (cat_sum S') (by omega))
  have hcells : (hNx h - n0).toNat + dN h h' ≤ R.cells ∧ (hWd h - w0).toNat + dW h h' ≤ R.slots := by unfold dN dW; omega
  have hEU : ∀ U : State, U.heap = H → s.WarmedH U.vm → EnvOK Z sc U U.heap := fun U hU hW => by rw [hU]; exact hE.move hW hva.1 (fun a h1 h2 => hva.2.1 a h1 h2)
  have hPre : ∀ U : State, U.heap = H → s.WarmedH U.vm → PcA Z sc h as (as.map (cV Z)).toArray U := fun U hU hW => ⟨rfl, hEU U hU hW, by rw [hU]; exact hH, by rw [hU]; exact hHs⟩
  have goOn : va_Run p l e R s m args below meth c H locs (hNx h - n0).toNat (hWd h - w0).toNat (dN h h') (dW h h') (F0 m pc ls ((as.reverse ++ S').map (cV Z))) (S'.map (cV Z)) (QcA Z r h' (as.map (cV Z)).toArray) (zF Z) → W p l e R s m args below meth c H locs (hNx h - n0).toNat (hWd h - w0).toNat Q (F0 m pc ls ((as.reverse ++ S').map (cV Z))) := by
    intro hrun
    refine am_call hrun hva fun H1 locs1 hH1 hwf hS1 => ?_
    have e1 : (hNx h - n0).toNat + dN h h' = (hNx h' - n0).toNat := by unfold dN; omega
    have e2 : (hWd h - w0).toNat + dW h h' = (hWd h' - w0).toNat := by unfold dW; omega
    rw [e1, e2]
    have := kk H1 locs1 ls hL (fun w hw => by
      rcases List.mem_append.mp hw with q | q
      · cases r with
        | none => simp at q
        | some v => simp at q; subst q; exact hwf _ rfl
      · exact hS w (List.mem_append_right _ q)) hH1 hS1
    rw [List.map_append] at this
    cases r <;> exact this
  have hstk : (as.reverse ++ S').map (cV Z) = (as.map (cV Z)).reverse ++ S'.map (cV Z) := by rw [List.map_append, List.map_reverse]
  rcases hcg with rfl | ⟨rfl, hrc⟩ | ⟨rfl, a0, rs, rfl, ha0⟩
  · -- static
    cases i0 <;> simp only [resI] at hr <;> (try (revert hr; (repeat' split) <;> simp (config := { contextual := true }); done))
    rename_i x
    have hlen : len = 3 := by simp only [lenI] at hlen; omega
    subst hlen
    split at hr
    · rename_i y' v hk
      cases hr
      have h1 := lnkM hk
      simp only [PL, hcp] at h1
      obtain ⟨M', hM', hfm, hfc, hfs, hlk⟩ := h1
      have hmet := hM M' hM' (fun v hv => hS v (List.mem_append_left _ (List.mem_reverse.mpr hv)))
      have hnp' : mNp y = M'.2.2.2.2.1 := by unfold mNp; rw [hM']; rfl
      refine goOn (va_runS (As := as.map (cV Z)) ⟨hx, hb, hml, hown, hts⟩ hmet ⟨callB_of as.length hts (wG_hts hts hfc) rfl rfl rfl (hts _ hfc.2) (hts _ hlk) ⟨hfm.2.2.2.1, hfm.2.2.2.2.1, ?_⟩ ⟨by show d + 1 ≤ _; omega, by show 8 + (M'.2.2.1 + 11) + 64 * d ≤ _; have := hfm.2.1; omega⟩, hts _ hfs.1⟩ ⟨PcA.blind, hPre⟩ rfl (by simp) hsize hstk hroom hd hcells)
      have h2 := hfm.2.2.2.2.2
      rw [hfs.2] at h2
      rw [hnp, hnp']
      exact h2
    · cases hr
    · cases hr
  · -- virtual
    cases i0 <;> simp only [resI] at hr <;> (try (revert hr; (repeat' split) <;> simp (config := { contextual := true }); done))
    rename_i x
    have hlen : len = 3 := by simp only [lenI] at hlen; omega
    subst hlen
    split at hr
    · rename_i y' v hk
      cases hr
      have h1 := lnkM hk
      simp only [PL, hcp] at h1
      obtain ⟨M', hM', hfm, hfc, hfv, hlk⟩ := h1
      have hmet := hM M' hM' (fun v hv => hS v (List.mem_append_left _ (List.mem_reverse.mpr hv)))
      have hnp' : mNp y = M'.2.2.2.2.1 := by unfold mNp; rw [hM']; rfl
      have key : ∃ (b : Addr) (rs : List AV), as.map (cV Z) = .ref b :: rs.map (cV Z) ∧ as.length = rs.length + 1 ∧ ∃ cellB : Cell, H[b]? = some cellB ∧ cellB.vm.isStatics = false ∧ s.vm.findClass M'.2.1.cls = some cellB.cls := by
        unfold rcv at hrc
        split at hrc
        · rename_i a rs
          rcases hfv.2.2.2 with ⟨q, hq, hqc, hne⟩ | ⟨hz, -⟩
          · have hci := aCl_lt hq
            obtain ⟨g0, g1, g2⟩ := obj_at (Z := Z) (ci := mCl y - 1) hH.1 (a := a) (by omega) hci
            refine ⟨_, rs, by rw [List.map_cons, cV2_some g0], rfl, ?_⟩
            have := va_recv hK hH.2 hq g2
            rw [hqc] at this
            exact this
          · exact absurd hz hrc.2
        · rename_i k rs
          rcases hfv.2.2.2 with ⟨q, hq, hqc, hne⟩ | ⟨hz, hstr⟩
          · exact absurd hrc.2.2 hne
          · refine ⟨zK Z k.toNat, rs, rfl, rfl, ?_⟩
            rw [hstr]
            exact vk_recv hE.2.2.2.2.1 (by omega) hva
        · exact hrc.elim
      obtain ⟨b, rs, hmap, hln, hrecv⟩ := key
      rw [hmap] at goOn hstk
      rw [hmap] at hPre
      refine goOn (va_runV (As := rs.map (cV Z)) (b := b) ⟨hx, hb, hml, hown, hts⟩ hmet ⟨callB_of rs.length hts (wG_hts hts hfc) rfl rfl rfl (hts _ hfc.2) (hts _ hlk) ⟨hfm.2.2.2.1, hfm.2.2.2.2.1, ?_⟩ ⟨by show d + 1 ≤ _; omega, by show 8 + (M'.2.2.1 + 11) + 64 * d ≤ _; have := hfm.2.1; omega⟩, hts _ hfv.1, hts _ hfv.2.1⟩ ⟨PcA.blind, hrecv, hPre⟩ rfl (by simp) hsize (by show List.map _ _ = _; rw [hstk, List.reverse_cons, List.append_assoc]; rfl) hroom hd hcells)
      have h2 := hfm.2.2.2.2.2
      rw [hfv.2.2.1] at h2
      cases hp : parseMethodDescriptor M'.2.1.desc with
      | none => rw [hp] at h2; simp at h2
      | some sg =>
        rw [hp] at h2
        simp only [Option.map_some, Option.some.injEq] at h2 ⊢
        omega
    · cases hr
  · -- special
    cases i0 <;> simp only [resI] at hr <;> (try (revert hr; (repeat' split) <;> simp (config := { contextual := true }); done))
    rename_i x
    have hlen : len = 3 := by simp only [lenI] at hlen; omega
    subst hlen
    have hmap : ((2, a0) :: rs).map (cV Z) = .ref (zB Z + a0.toNat) :: rs.map (cV Z) := by rw [List.map_cons, cV2_some ha0]
    rw [hmap] at goOn hstk
    rw [hmap] at hPre
    split at hr
    · rename_i y' v hk
      cases hr
      have h1 := lnkM hk
      simp only [PL, hcp] at h1
      obtain ⟨M', hM', hfm, hfc, hfi, hlk⟩ := h1
      have hmet := hM M' hM' (fun v hv => hS v (List.mem_append_left _ (List.mem_reverse.mpr hv)))
      have hnp' : mNp y = M'.2.2.2.2.1 := by unfold mNp; rw [hM']; rfl
      rw [hfi.2.2.2] at hmet
      have hgi := wG_hts hts hfc
      rw [hfi.2.2.2] at hgi
      refine goOn (va_runI (As := rs.map (cV Z)) (b := zB Z + a0.toNat) ⟨hx, hb, hml, hown, hts⟩ hmet ⟨callB_of rs.length hts hgi rfl rfl rfl (hts _ hfc.2) (hts _ hlk) ⟨hfm.2.2.2.1, hfm.2.2.2.2.1, ?_⟩ ⟨by show d + 1 ≤ _; omega, by show 8 + (M'.2.2.1 + 11) + 64 * d ≤ _; have := hfm.2.1; omega⟩, hfi.2.2.1, hts _ hfi.1⟩ ⟨PcA.blind, hPre⟩ rfl (by simp) hsize (by show List.map _ _ = _; rw [hstk, List.reverse_cons, List.append_assoc]; rfl) hroom hd hcells)
      have h2 := hfm.2.2.2.2.2
      rw [hfi.2.1] at h2
      cases hp : parseMethodDescriptor M'.2.1.desc with
      | none => rw [hp] at h2; simp at h2
      | some sg =>
        rw [hp] at h2
        simp only [Option.map_some, Option.some.injEq, List.length_cons] at h2 hnp ⊢
        omega
    · rename_i y' v hk
      cases hr
      have h1 := lnkM hk
      simp only [PL, hcp] at h1
      obtain ⟨M', hM', hfm, hfc, hfi, -⟩ := h1
      obtain ⟨lt, hlt, hem⟩ := lk_src hk
      have hnw := hE.2.2.2.2.2.2.1 _ lt hlt _ hem rfl M' hM'
      simp only [hcp] at hnw
      have hmet := hM M' hM' (fun v hv => hS v (List.mem_append_left _ (List.mem_reverse.mpr hv)))
      have hnp' : mNp y = M'.2.2.2.2.1 := by unfold mNp; rw [hM']; rfl
      rw [hfi.2.2.2] at hmet
      have hgi := wG_hts hts hfc
      rw [hfi.2.2.2] at hgi
      refine goOn (va_runIN (As := rs.map (cV Z)) (b := zB Z + a0.toNat) ⟨hx, hb, hml, hown, hts⟩ hmet ⟨va_cnB rs.length hts hgi rfl rfl rfl hnw (hts _ hfc.2) ⟨hfm.2.2.2.1, hfm.2.2.2.2.1, ?_⟩ ⟨by show d + 1 ≤ _; omega, by show 8 + (M'.2.2.1 + 11) + 64 * d ≤ _; have := hfm.2.1; omega⟩, hfi.2.2.1, hts _ hfi.1⟩ ⟨PcA.blind, hPre⟩ rfl (by simp) hsize (by show List.map _ _ = _; rw [hstk, List.reverse_cons, List.append_assoc]; rfl) hroom hd hcells)
      have h2 := hfm.2.2.2.2.2
      rw [hfi.2.1] at h2
      cases hp : parseMethodDescriptor M'.2.1.desc with
      | none => rw [hp] at h2; simp at h2
      | some sg =>
        rw [hp] at h2
        simp only [Option.map_some, Option.some.injEq, List.length_cons] at h2 hnp ⊢
        omega
    · cases hr
    · cases hr
end SIM5
