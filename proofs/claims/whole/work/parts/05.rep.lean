/-! THE ABSTRACT HEAP AND THE MACHINE'S: what a number stands for -/
abbrev EZ : Type := va_G × (Nat → ClassId) × Nat × (Nat → Nat) × (Nat → Nat) × Nat × Nat × Value
def zD (Z : EZ) : va_G := Z.1
def zA (Z : EZ) : Nat → ClassId := Z.2.1
def zB (Z : EZ) : Nat := Z.2.2.1
def zK (Z : EZ) : Nat → Nat := Z.2.2.2.1
def zV (Z : EZ) : Nat → Nat := Z.2.2.2.2.1
def zW (Z : EZ) : Nat := Z.2.2.2.2.2.1
def zS (Z : EZ) : Nat := Z.2.2.2.2.2.2.1
def zO (Z : EZ) : Value := Z.2.2.2.2.2.2.2
def zF (Z : EZ) : Nat → Prop := fun q => zB Z ≤ q
def cR (B : Nat) (x : Int) : Option Nat := if x < 0 then none else some (B + x.toNat)
def cV (Z : EZ) : AV → Value
  | (0, x) => .int (Int32.ofInt x)
  | (1, x) => .long (Int64.ofInt x)
  | (2, x) => va_rf (cR (zB Z) x)
  | (3, x) => .ref (zK Z x.toNat)
  | (4, x) => .ref (if x = 0 then zW Z else zS Z)
  | (5, x) => .ref (zV Z x.toNat)
  | (6, _) => zO Z
  | _ => .null
def aTy (t : Nat) : FieldType := match t with
  | 21 => .int
  | 22 => .long
  | 23 => .byte
  | 24 => .char
  | 25 => .boolean
  | _ => .object "PrimeProofs$Line"
def aTs (Z : EZ) : List (ClassId × FieldType) := [(zA Z 21, .int), (zA Z 22, .long), (zA Z 23, .byte), (zA Z 24, .char), (zA Z 25, .boolean), (zA Z 26, .object "PrimeProofs$Line")]
def cAr (Z : EZ) (h : AH) (a : Int) : vp_A := ((hLn h a).toNat, if hTy h a = 22 then .inr (.inl fun j => Int64.ofInt (hCe h a j)) else if hTy h a = 26 then .inr (.inr (.inr (.inr fun j => cR (zB Z) (hCe h a j)))) else .inl fun j => Int32.ofInt (hCe h a j))
def cFs (Z : EZ) (h : AH) (a : Int) (ci : Nat) : List Value := (List.range (nF ci)).map fun k => cV Z (tgF ci k, hCe h a k)
def cE (Z : EZ) (h : AH) (a : Int) : va_E := if hTy h a ≤ 10 then .inr (hTy h a - 1, cFs Z h a (hTy h a - 1)) else .inl (zA Z (hTy h a), cAr Z h a)
def cW (Z : EZ) (h : AH) : va_W := (List.range (hNx h).toNat).map fun k => (zB Z + k, cE Z h k)
/-- what places hold -/
def inC (t : Nat) (j x : Int) : Prop := (t ≠ 0 → t ≤ 10 → (tgF (t - 1) j.toNat = 0 → in32 x) ∧ (tgF (t - 1) j.toNat = 1 → in64 x)) ∧ (t = 21 → in32 x) ∧ (t = 22 → in64 x) ∧ (t = 23 → -128 ≤ x ∧ x ≤ 127) ∧ (t = 24 → 0 ≤ x ∧ x < 65536) ∧ (t = 25 → 0 ≤ x ∧ x ≤ 1)
def WFh (h : AH) : Prop := 0 ≤ hNx h ∧ (∀ a, hTy h a ≠ 0 → 0 ≤ a ∧ a < hNx h) ∧ (∀ a, 0 ≤ a → a < hNx h → (1 ≤ hTy h a ∧ hTy h a ≤ 10) ∨ (21 ≤ hTy h a ∧ hTy h a ≤ 26 ∧ 0 ≤ hLn h a ∧ hLn h a ≤ 2000)) ∧ ∀ a j, inC (hTy h a) j (hCe h a j)
def WFv (v : AV) : Prop := (v.1 = 0 → in32 v.2) ∧ (v.1 = 1 → in64 v.2) ∧ (v.1 = 3 → 0 ≤ v.2 ∧ v.2 < 10) ∧ (v.1 = 4 → v.2 = 0 ∨ v.2 = 1) ∧ (v.1 = 5 → 0 ≤ v.2 ∧ v.2 < 10)
def LocOK (Z : EZ) (L : List AV) (ls : Array Slot) : Prop := ls.size = L.length ∧ lv_wf ls ∧ (∀ j, (nth L j).1 ≤ 6 → ls[j]? = some (.val (cV Z (nth L j)))) ∧ ∀ j, WFv (nth L j)
theorem cW_len {Z : EZ} {h : AH} : (cW Z h).length = (hNx h).toNat := by simp [cW]
theorem cW_get {Z : EZ} {h : AH} {a : Int} (h0 : 0 ≤ a) (h1 : a < hNx h) : (cW Z h)[a.toNat]? = some (zB Z + a.toNat, cE Z h a) := by
  unfold cW
  rw [List.getElem?_map, List.getElem?_range (by omega)]
  simp only [Option.map_some]
  rw [show ((a.toNat : Nat) : Int) = a by omega]
theorem cW_ext {Z : EZ} {h h' : AH} (hn : hNx h' = hNx h) (he : ∀ b : Int, 0 ≤ b → b < hNx h → cE Z h' b = cE Z h b) : cW Z h' = cW Z h := by
  unfold cW
  rw [hn]
  refine List.map_congr_left fun k hk => ?_
  rw [he k (by omega) (by have := List.mem_range.mp hk; omega)]
theorem cW_set {Z : EZ} {h h' : AH} {a : Int} {e : va_E} (h0 : 0 ≤ a) (h1 : a < hNx h) (hn : hNx h' = hNx h) (he : ∀ b : Int, b ≠ a → cE Z h' b = cE Z h b) (hea : cE Z h' a = e) : (cW Z h).set a.toNat (zB Z + a.toNat, e) = cW Z h' := by
  apply List.ext_getElem?
  intro k
  by_cases hk : k = a.toNat
  · subst hk
    rw [List.getElem?_set_self (by rw [cW_len]; omega), cW_get h0 (by omega), hea]
  · rw [List.getElem?_set_ne (Ne.symm hk)]
    by_cases hl : k < (hNx h).toNat
    · have g1 := cW_get (Z := Z) (h := h) (a := (k : Int)) (by omega) (by omega)
      have g2 := cW_get (Z := Z) (h := h') (a := (k : Int)) (by omega) (by omega)
      rw [Int.toNat_natCast] at g1 g2
      rw [g1, g2, he k (by omega)]
    · rw [List.getElem?_eq_none (by rw [cW_len]; omega), List.getElem?_eq_none (by rw [cW_len]; omega)]
theorem cW_new {Z : EZ} {h h' : AH} (h0 : 0 ≤ hNx h) (hn : hNx h' = hNx h + 1) (he : ∀ b : Int, b ≠ hNx h → cE Z h' b = cE Z h b) : cW Z h' = cW Z h ++ [(zB Z + (hNx h).toNat, cE Z h' (hNx h))] := by
  unfold cW
  rw [hn, show (hNx h + 1).toNat = (hNx h).toNat + 1 by omega, List.range_succ, List.map_append]
  congr 1
  · refine List.map_congr_left fun k hk => ?_
    have := List.mem_range.mp hk
    rw [he k (by omega)]
  · simp only [List.map_cons, List.map_nil]
    rw [show (((hNx h).toNat : Nat) : Int) = hNx h by omega]
/-- the heap functions -/
theorem hTy_set (h : AH) (a i v b : Int) : hTy (hSet h a i v) b = hTy h b := rfl
theorem hLn_set (h : AH) (a i v b : Int) : hLn (hSet h a i v) b = hLn h b := rfl
theorem hNx_set (h : AH) (a i v : Int) : hNx (hSet h a i v) = hNx h := rfl
theorem hWd_set (h : AH) (a i v : Int) : hWd (hSet h a i v) = hWd h := rfl
theorem hCe_set (h : AH) (a i v b j : Int) : hCe (hSet h a i v) b j = if b = a ∧ j = i then v else hCe h b j := rfl
theorem hTy_new (h : AH) (t : Nat) (n : Int) (d : Int → Int) (b : Int) : hTy (hNew h t n d) b = if b = hNx h then t else hTy h b := rfl
theorem hLn_new (h : AH) (t : Nat) (n : Int) (d : Int → Int) (b : Int) : hLn (hNew h t n d) b = if b = hNx h then n else hLn h b := rfl
theorem hNx_new (h : AH) (t : Nat) (n : Int) (d : Int → Int) : hNx (hNew h t n d) = hNx h + 1 := rfl
theorem hWd_new (h : AH) (t : Nat) (n : Int) (d : Int → Int) : hWd (hNew h t n d) = hWd h + n := rfl
theorem hCe_new (h : AH) (t : Nat) (n : Int) (d : Int → Int) (b j : Int) : hCe (hNew h t n d) b j = if b = hNx h then d j else hCe h b j := rfl
theorem hTy_cpy (h : AH) (a sp c dp n b : Int) : hTy (hCpy h a sp c dp n) b = hTy h b := rfl
theorem hLn_cpy (h : AH) (a sp c dp n b : Int) : hLn (hCpy h a sp c dp n) b = hLn h b := rfl
theorem hNx_cpy (h : AH) (a sp c dp n : Int) : hNx (hCpy h a sp c dp n) = hNx h := rfl
theorem hWd_cpy (h : AH) (a sp c dp n : Int) : hWd (hCpy h a sp c dp n) = hWd h := rfl
theorem hCe_cpy (h : AH) (a sp c dp n b j : Int) : hCe (hCpy h a sp c dp n) b j = if b = c ∧ dp ≤ j ∧ j < dp + n then hCe h a (sp + (j - dp)) else hCe h b j := rfl
theorem cE_set_ne (Z : EZ) (h : AH) {a i v b : Int} (hb : b ≠ a) : cE Z (hSet h a i v) b = cE Z h b := by
  have hc : ∀ j, hCe (hSet h a i v) b j = hCe h b j := fun j => by rw [hCe_set, if_neg (fun q => hb q.1)]
  unfold cE cAr cFs
  simp only [hTy_set, hLn_set, hc]
theorem cE_new_ne (Z : EZ) (h : AH) {t : Nat} {n : Int} {d : Int → Int} {b : Int} (hb : b ≠ hNx h) : cE Z (hNew h t n d) b = cE Z h b := by
  have hc : ∀ j, hCe (hNew h t n d) b j = hCe h b j := fun j => by rw [hCe_new, if_neg hb]
  unfold cE cAr cFs
  simp only [hTy_new, hLn_new, hc, if_neg hb]
theorem cE_cpy_ne (Z : EZ) (h : AH) {a sp c dp n b : Int} (hb : b ≠ c) : cE Z (hCpy h a sp c dp n) b = cE Z h b := by
  have hc : ∀ j, hCe (hCpy h a sp c dp n) b j = hCe h b j := fun j => by rw [hCe_cpy, if_neg (fun q => hb q.1)]
  unfold cE cAr cFs
  simp only [hTy_cpy, hLn_cpy, hc]
theorem WFh.lt {h : AH} (w : WFh h) {a : Int} (ht : hTy h a ≠ 0) : 0 ≤ a ∧ a < hNx h := w.2.1 a ht
theorem WFh.set {h : AH} (w : WFh h) {a i v : Int} (hv : inC (hTy h a) i v) : WFh (hSet h a i v) := by
  refine ⟨w.1, w.2.1, w.2.2.1, fun b j => ?_⟩
  rw [hTy_set, hCe_set]
  split
  · rename_i e
    obtain ⟨rfl, rfl⟩ := e
    exact hv
  · exact w.2.2.2 b j
theorem WFh.new {h : AH} (w : WFh h) {t : Nat} {n : Int} {d : Int → Int} (ht : (1 ≤ t ∧ t ≤ 10) ∨ (21 ≤ t ∧ t ≤ 26 ∧ 0 ≤ n ∧ n ≤ 2000)) (hd : ∀ j, inC t j (d j)) : WFh (hNew h t n d) := by
  have h0 := w.1
  refine ⟨by rw [hNx_new]; omega, fun a ha => ?_, fun a h1 h2 => ?_, fun b j => ?_⟩
  · rw [hTy_new] at ha
    rw [hNx_new]
    split at ha
    · omega
    · have := w.2.1 a ha; omega
  · rw [hTy_new, hLn_new]
    rw [hNx_new] at h2
    split
    · exact ht
    · exact w.2.2.1 a h1 (by omega)
  · rw [hTy_new, hCe_new]
    split
    · exact hd j
    · exact w.2.2.2 b j
theorem WFh.cpy {h : AH} (w : WFh h) {a sp c dp n : Int} (ha : hTy h a = 21) (hc : hTy h c = 21) : WFh (hCpy h a sp c dp n) := by
  refine ⟨w.1, w.2.1, w.2.2.1, fun b j => ?_⟩
  rw [hTy_cpy, hCe_cpy]
  split
  · rename_i e
    obtain ⟨rfl, -⟩ := e
    have := w.2.2.2 a (sp + (j - dp))
    rw [ha] at this
    rw [hc]
    exact this
  · exact w.2.2.2 b j
theorem nth_len {L : List AV} {j : Nat} (h : L.length ≤ j) : nth L j = (9, 0) := by
  induction L generalizing j with
  | nil => rfl
  | cons a L ih =>
    cases j with
    | zero => simp at h
    | succ j => exact ih (by simpa using h)
theorem nth_stL (L : List AV) (k j : Nat) (v : AV) (hk : k < L.length) : nth (stL L k v) j = if j = k then v else nth L j := by
  induction L generalizing k j with
  | nil => simp at hk
  | cons a L ih =>
    cases k with
    | zero => cases j with
      | zero => rfl
      | succ j => rfl
    | succ k => cases j with
      | zero => rfl
      | succ j =>
        show nth (stL L k v) j = _
        rw [ih k j (by simpa using hk)]
        by_cases h : j = k
        · subst h; simp
        · rw [if_neg h, if_neg (by omega)]; rfl
theorem stL_len (L : List AV) (k : Nat) (v : AV) : (stL L k v).length = L.length := by
  induction L generalizing k with
  | nil => rfl
  | cons a L ih => cases k with
    | zero => rfl
    | succ k => simp [stL, ih]
theorem stL_out (L : List AV) (k : Nat) (v : AV) (hk : L.length ≤ k) : stL L k v = L := by
  induction L generalizing k with
  | nil => rfl
  | cons a L ih => cases k with
    | zero => simp at hk
    | succ k => simp [stL, ih k (by simpa using hk)]
theorem st1_len (L : List AV) (k : Nat) (v : AV) : (st1 L k v).length = L.length := by
  unfold st1
  split
  · exact stL_len ..
  · split
    · rw [stL_len, stL_len]
    · exact stL_len ..
theorem nth_st1 (L : List AV) (k j : Nat) (v : AV) (hk : k < L.length) : nth (st1 L k v) j = if j = k then v else if j + 1 = k ∧ (nth L j).1 = 1 then (9, 0) else nth L j := by
  unfold st1
  split
  · rw [nth_stL _ _ _ _ hk]
    by_cases h : j = 0
    · rw [if_pos h, if_pos h]
    · rw [if_neg h, if_neg h, if_neg (by omega)]
  · rename_i k
    split
    · rename_i x hx
      rw [nth_stL _ _ _ _ (by rw [stL_len]; exact hk), nth_stL _ _ _ _ (by omega)]
      by_cases h : j = k + 1
      · rw [if_pos h, if_pos h]
      · rw [if_neg h, if_neg h]
        by_cases h2 : j = k
        · subst h2
          rw [if_pos rfl, if_pos ⟨rfl, by rw [hx]⟩]
        · rw [if_neg h2, if_neg (by omega)]
    · rename_i hx
      rw [nth_stL _ _ _ _ hk]
      by_cases h : j = k + 1
      · rw [if_pos h, if_pos h]
      · rw [if_neg h, if_neg h]
        rw [if_neg]
        rintro ⟨h1, h2⟩
        have : j = k := by omega
        subst this
        exact hx (nth L j).2 (by rw [← h2])
theorem cV_cat1 (Z : EZ) {v : AV} (h : v.1 ≠ 1) (ho : (zO Z).category = 1) : (cV Z v).category = 1 := by
  obtain ⟨t, x⟩ := v
  match t, h with
  | 0, _ => rfl
  | 1, h => exact absurd rfl h
  | 2, _ =>
    show (va_rf (cR (zB Z) x)).category = 1
    unfold va_rf
    split <;> rfl
  | 3, _ => rfl
  | 4, _ => rfl
  | 5, _ => rfl
  | 6, _ => exact ho
  | t + 7, _ => rfl
/-- locals as the kit's rows have them -/
def enL (Z : EZ) (L : List AV) : List (Nat × Value) := (List.range L.length).filterMap fun j => if (nth L j).1 ≤ 6 then some (j, cV Z (nth L j)) else none
theorem enL_in {Z : EZ} {L : List AV} {j : Nat} (h : (nth L j).1 ≤ 6) : (j, cV Z (nth L j)) ∈ enL Z L := by
  have hj : j < L.length := by
    rcases Nat.lt_or_ge j L.length with q | q
    · exact q
    · rw [nth_len q] at h; simp at h
  refine List.mem_filterMap.mpr ⟨j, List.mem_range.mpr hj, ?_⟩
  rw [if_pos h]
theorem LocOK.has {Z : EZ} {L : List AV} {ls : Array Slot} (h : LocOK Z L ls) : lv_has ls L.length (enL Z L) := by
  refine ⟨h.1, h.2.1, fun q hq => ?_⟩
  obtain ⟨j, -, hj⟩ := List.mem_filterMap.mp hq
  split at hj
  · rename_i ht
    cases hj
    exact h.2.2.1 j ht
  · cases hj
theorem LocOK.sto1 {Z : EZ} (ho : (zO Z).category = 1) {L : List AV} {ls ls' : Array Slot} (h : LocOK Z L ls) {k : Nat} {v : AV} (hv : WFv v) (hk : k < L.length) (h' : lv_has ls' L.length ((k, cV Z v) :: (enL Z L).filter (fun q => !(q.1 == k) && !(q.1 + 1 == k && q.2.category == 2)))) : LocOK Z (st1 L k v) ls' := by
  refine ⟨by rw [st1_len]; exact h'.1, h'.2.1, fun j hj => ?_, fun j => ?_⟩
  · rw [nth_st1 _ _ _ _ hk] at hj ⊢
    by_cases h1 : j = k
    · rw [if_pos h1] at hj ⊢
      subst h1
      exact h'.2.2 _ List.mem_cons_self
    · rw [if_neg h1] at hj ⊢
      by_cases h2 : j + 1 = k ∧ (nth L j).1 = 1
      · rw [if_pos h2] at hj; simp at hj
      · rw [if_neg h2] at hj ⊢
        refine h'.2.2 (j, cV Z (nth L j)) (List.mem_cons_of_mem _ (List.mem_filter.mpr ⟨enL_in hj, ?_⟩))
        simp only [Bool.and_eq_true, Bool.not_eq_true', beq_eq_false_iff_ne, Bool.and_eq_false_iff]
        refine ⟨h1, ?_⟩
        by_cases h3 : j + 1 = k
        · right
          have : (nth L j).1 ≠ 1 := fun q => h2 ⟨h3, q⟩
          rw [cV_cat1 Z this ho]
          decide
        · left; exact h3
  · rw [nth_st1 _ _ _ _ hk]
    split
    · exact hv
    · split
      · exact ⟨fun q => by simp at q, fun q => by simp at q, fun q => by simp at q, fun q => by simp at q, fun q => by simp at q⟩
      · exact h.2.2.2 j
theorem st2_nth (L : List AV) (k j : Nat) (v : AV) (hk : k + 1 < L.length) : nth (st2 L k v) j = if j = k + 1 then (8, 0) else if j = k then v else if j + 1 = k ∧ (nth L j).1 = 1 then (9, 0) else nth L j := by
  unfold st2
  rw [nth_stL _ _ _ _ (by rw [st1_len]; exact hk), nth_st1 _ _ _ _ (by omega)]
theorem LocOK.sto2 {Z : EZ} (ho : (zO Z).category = 1) {L : List AV} {ls ls' : Array Slot} (h : LocOK Z L ls) {k : Nat} {v : AV} (hv : WFv v) (hk : k + 1 < L.length) (h' : lv_has ls' L.length ((k, cV Z v) :: (enL Z L).filter (fun q => !(q.1 == k) && (!(q.1 == k + 1) && !(q.1 + 1 == k && q.2.category == 2))))) : LocOK Z (st2 L k v) ls' := by
  refine ⟨by unfold st2; rw [stL_len, st1_len]; exact h'.1, h'.2.1, fun j hj => ?_, fun j => ?_⟩
  · rw [st2_nth _ _ _ _ hk] at hj ⊢
    by_cases h0 : j = k + 1
    · rw [if_pos h0] at hj; simp at hj
    · rw [if_neg h0] at hj ⊢
      by_cases h1 : j = k
      · rw [if_pos h1] at hj ⊢
        subst h1
        exact h'.2.2 _ List.mem_cons_self
      · rw [if_neg h1] at hj ⊢
        by_cases h2 : j + 1 = k ∧ (nth L j).1 = 1
        · rw [if_pos h2] at hj; simp at hj
        · rw [if_neg h2] at hj ⊢
          refine h'.2.2 (j, cV Z (nth L j)) (List.mem_cons_of_mem _ (List.mem_filter.mpr ⟨enL_in hj, ?_⟩))
          simp only [Bool.and_eq_true, Bool.not_eq_true', beq_eq_false_iff_ne, Bool.and_eq_false_iff]
          refine ⟨h1, h0, ?_⟩
          by_cases h3 : j + 1 = k
          · right
            have : (nth L j).1 ≠ 1 := fun q => h2 ⟨h3, q⟩
            rw [cV_cat1 Z this ho]
            decide
          · left; exact h3
  · rw [st2_nth _ _ _ _ hk]
    split
    · exact ⟨fun q => by simp at q, fun q => by simp at q, fun q => by simp at q, fun q => by simp at q, fun q => by simp at q⟩
    · split
      · exact hv
      · split
        · exact ⟨fun q => by simp at q, fun q => by simp at q, fun q => by simp at q, fun q => by simp at q, fun q => by simp at q⟩
        · exact h.2.2.2 j
theorem LocOK.weak {Z : EZ} {L L' : List AV} {ls : Array Slot} (h : LocOK Z L ls) (hw : wkL L L') : LocOK Z L' ls := by
  refine ⟨by rw [hw.1]; exact h.1, h.2.1, fun j hj => ?_, fun j => ?_⟩
  · rcases hw.2 j with e | e
    · rw [e] at hj ⊢; exact h.2.2.1 j hj
    · rw [e] at hj; simp at hj
  · rcases hw.2 j with e | e
    · rw [e]; exact h.2.2.2 j
    · exact ⟨fun q => by omega, fun q => by omega, fun q => by omega, fun q => by omega, fun q => by omega⟩
