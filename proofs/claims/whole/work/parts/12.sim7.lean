/-! from runs of the abstract machine to the kit's methods -/
section SIM7
variable {Z : EZ} {sc : AS}
def szA (as : List AV) : Nat := (as.map (fun a => if a.1 = 1 then 2 else 1)).sum
theorem wf_8 : WFv (8, 0) := ⟨fun q => by simp at q, fun q => by simp at q, fun q => by simp at q, fun q => by simp at q, fun q => by simp at q⟩
theorem wf_9 : WFv (9, 0) := ⟨fun q => by simp at q, fun q => by simp at q, fun q => by simp at q, fun q => by simp at q, fun q => by simp at q⟩
theorem ent_nil (n j : Nat) : nth (entL [] n) j = (9, 0) := by
  induction n generalizing j with
  | zero => cases j <;> rfl
  | succ n ih =>
    cases j with
    | zero => rfl
    | succ j => exact ih j
theorem ent_cons1 (x : Int) (as : List AV) (n : Nat) : entL ((1, x) :: as) (n + 2) = (1, x) :: (8, 0) :: entL as n := rfl
theorem ent_cons0 {a : AV} (h : a.1 ≠ 1) (as : List AV) (n : Nat) : entL (a :: as) (n + 1) = a :: entL as n := by
  obtain ⟨t, x⟩ := a
  conv => lhs; unfold entL
  split
  · rename_i e; cases e
  · rename_i e; cases e; exact absurd rfl h
  · rename_i e; cases e; rfl
theorem ent_len (as : List AV) (n : Nat) : szA as ≤ n → (entL as n).length = n := by
  induction as generalizing n with
  | nil =>
    intro _
    induction n with
    | zero => rfl
    | succ n ih => show (entL [] n).length + 1 = n + 1; rw [ih (Nat.zero_le n)]
  | cons a as ih =>
    intro h
    simp only [szA, List.map_cons, List.sum_cons] at h ih
    by_cases ha : a.1 = 1
    · obtain ⟨t, x⟩ := a
      simp only at ha
      subst ha
      rw [if_pos rfl] at h
      obtain ⟨n', rfl⟩ : ∃ n', n = n' + 2 := ⟨n - 2, by omega⟩
      rw [ent_cons1, List.length_cons, List.length_cons, ih n' (by omega)]
    · rw [if_neg ha] at h
      obtain ⟨n', rfl⟩ : ∃ n', n = n' + 1 := ⟨n - 1, by omega⟩
      rw [ent_cons0 ha, List.length_cons, ih n' (by omega)]
theorem ent_at (ho : (zO Z).category = 1) (as : List AV) (n off j : Nat) : szA as ≤ n → (∀ v ∈ as, WFv v) → ((nth (entL as n) j).1 ≤ 6 → (off + j, cV Z (nth (entL as n) j)) ∈ lv_args off (as.map (cV Z))) ∧ WFv (nth (entL as n) j) := by
  induction as generalizing n off j with
  | nil =>
    intro _ _
    rw [ent_nil]
    exact ⟨fun q => by simp at q, wf_9⟩
  | cons a as ih =>
    intro h hw
    simp only [szA, List.map_cons, List.sum_cons] at h ih
    have hwa := hw a List.mem_cons_self
    have hws : ∀ v ∈ as, WFv v := fun v hv => hw v (List.mem_cons_of_mem _ hv)
    by_cases ha : a.1 = 1
    · obtain ⟨t, x⟩ := a
      simp only at ha
      subst ha
      rw [if_pos rfl] at h
      obtain ⟨n', rfl⟩ : ∃ n', n = n' + 2 := ⟨n - 2, by omega⟩
      rw [ent_cons1]
      match j with
      | 0 => exact ⟨fun _ => List.mem_cons_self, hwa⟩
      | 1 => exact ⟨fun q => by simp [nth] at q, wf_8⟩
      | j + 2 =>
        have h1 := ih n' (off + 2) j (by omega) hws
        refine ⟨fun q => ?_, h1.2⟩
        have h2 := h1.1 q
        rw [show off + 2 + j = off + (j + 2) by omega] at h2
        exact List.mem_cons_of_mem _ h2
    · rw [if_neg ha] at h
      obtain ⟨n', rfl⟩ : ∃ n', n = n' + 1 := ⟨n - 1, by omega⟩
      rw [ent_cons0 ha]
      match j with
      | 0 => exact ⟨fun _ => List.mem_cons_self, hwa⟩
      | j + 1 =>
        have h1 := ih n' (off + 1) j (by omega) hws
        refine ⟨fun q => ?_, h1.2⟩
        have h2 := h1.1 q
        rw [show off + 1 + j = off + (j + 1) by omega] at h2
        show _ ∈ lv_args off (cV Z a :: as.map (cV Z))
        unfold lv_args
        rw [if_neg (by rw [cV_cat1 Z ha ho]; decide)]
        exact List.mem_cons_of_mem _ h2
theorem ent_sl (ho : (zO Z).category = 1) (as : List AV) : (lg_sl (as.map (cV Z))).length = szA as := by
  induction as with
  | nil => rfl
  | cons a as ih =>
    have h2 : (lg_sl ((a :: as).map (cV Z))).length = (if (cV Z a).category = 2 then [Slot.val (cV Z a), .second] else [.val (cV Z a)]).length + (lg_sl (as.map (cV Z))).length := by
      unfold lg_sl
      rw [List.map_cons, List.flatMap_cons, List.length_append]
    rw [h2, ih]
    simp only [szA, List.map_cons, List.sum_cons]
    by_cases ha : a.1 = 1
    · obtain ⟨t, x⟩ := a
      simp only at ha
      subst ha
      rfl
    · rw [if_neg ha, if_neg (by rw [cV_cat1 Z ha ho]; decide)]
      rfl
theorem ent_ok (ho : (zO Z).category = 1) {as : List AV} {n : Nat} (h : szA as ≤ n) (hw : ∀ v ∈ as, WFv v) : LocOK Z (entL as n) ((lg_sl (as.map (cV Z)) ++ List.replicate (n - (lg_sl (as.map (cV Z))).length) Slot.unset).toArray) := by
  obtain ⟨h1, h2, h3⟩ := lv_entry (as.map (cV Z)) (n := n) (by rw [ent_sl ho]; exact h)
  refine ⟨by rw [ent_len as n h]; exact h1, h2, fun j hj => ?_, fun j => (ent_at ho as n 0 j h hw).2⟩
  have := (ent_at ho as n 0 j h hw).1 hj
  rw [Nat.zero_add] at this
  exact h3 _ this
theorem simD {l : Launch} : ∀ (d y : Nat) (as : List AV) (h : AH) (r : Option AV) (h' : AH), Runs sc d y as h r h' → ∀ M', aMt[y]? = some M' → MetA l Z sc d M' as h r h'
  | 0, _, _, _, _, _, he, _, _ => he.elim
  | d + 1, y, as, h, r, h', ⟨⟨M0, hM0, hsz⟩, k, he⟩, M', hM' => by
    have hMM : M0 = M' := by rw [hM0] at hM'; exact Option.some.inj hM'
    subst hMM
    intro hwf
    have hfm := fM_all hM0
    refine va_MetF hfm.2.2.1 rfl ?_
    intro p e s m args below meth c s₁ B hml hP
    obtain ⟨hargs, hE, hH, hsize⟩ := hP
    have hts := atoms_spec (ws := Cond.code M0.2.1 M0.1 M0.2.2.1 M0.2.2.2.1 :: wG) B.pre
    have hts' : ∀ w ∈ wG, w.before args s = true := fun w hw => hts w (List.mem_cons_of_mem _ hw)
    have ho : (zO Z).category = 1 := by
      rcases hE.2.2.2.2.2.2.2.2.2.2.2.1 with q | ⟨a, q⟩ <;> rw [q] <;> rfl
    have C : Cx p (headSpec (Cond.code M0.2.1 M0.1 M0.2.2.1 M0.2.2.2.1 :: wG) (rmD (d + 1) (dN h h') (dW h h'))).room s m args meth c Z sc M0 := ⟨B.exec, B.bytes, hml, findClass_of_methodNamed B.named, hts', (name_of_methodNamed B.named B.method).1, hE, hfm.1, Nat.succ_le_succ (Nat.zero_le d), by show 64 ≤ 64 * (d + 1); omega⟩
    have main := sim_EvN (l := l) (e := e) (below := below) C hml hM0 (fun ty hty => hts' _ (wArr ty hty)) (hts' _ wObj) (d := d) ⟨Nat.le_refl _, Nat.le_refl _⟩ hsize (Runs_mono d) (fun y as h r h' hx M' hM' => simD (l := l) d y as h r h' hx M' hM') (h2 := h') (r2 := r) (w0 := hWd h) (Nat.le_refl _) (Nat.le_refl _) (fun pc L S i0 i len hd hlen hr hf hg => sim_fin C B.notSynchronized B.returns hM0 hd hlen hr hf hg) k 0 _ [] h he (by rw [ent_len as _ (by unfold mLs; rw [hM0]; exact hsz)]; unfold mLs; rw [hM0]; rfl) (Int.le_refl _) (Int.le_refl _)
    have h1 := main s.heap [] _ (ent_ok ho (by unfold mLs; rw [hM0]; exact hsz) hwf) (by simp) hH va_S.rf
    subst hargs
    rw [lg_entry_eq]
    have e1 : mLs y = M0.2.2.1 := by unfold mLs; rw [hM0]; rfl
    rw [e1] at h1
    have e2 : (hNx h - hNx h).toNat = 0 := by omega
    have e3 : (hWd h - hWd h).toNat = 0 := by omega
    rw [e2, e3] at h1
    exact h1
end SIM7
