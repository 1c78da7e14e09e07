/-! what a ledger is worth: right lines, what they rest on, how deep -/
def gl (ls : List LN) (i : Nat) : LN := ls.getD i ((0, 0, 0, 0), [], [])
def rows (l : LN) : List RW := l.2.1 ++ l.2.2
def ahF (ls : List LN) (R : Nat → Bool) (q : Int) : Nat → Nat → Int
  | 0, _ => -1
  | k + 1, j => if R j = true ∧ (gl ls j).1.1 = q then (j : Int) else ahF ls R q k (j + 1)
/-- the least place below e of a right line for q -/
def ahS (ls : List LN) (R : Nat → Bool) (e : Nat) (q : Int) : Int := ahF ls R q e 0
theorem ahF_c (ls : List LN) (R : Nat → Bool) (q : Int) : ∀ k j, ahF ls R q k j = -1 ∨ ∃ i, j ≤ i ∧ i < j + k ∧ R i = true ∧ (gl ls i).1.1 = q ∧ ahF ls R q k j = (i : Int)
  | 0, j => Or.inl rfl
  | k + 1, j => by
    unfold ahF
    by_cases h : R j = true ∧ (gl ls j).1.1 = q
    · rw [if_pos h]
      exact Or.inr ⟨j, Nat.le_refl _, by omega, h.1, h.2, rfl⟩
    · rw [if_neg h]
      rcases ahF_c ls R q k (j + 1) with e | ⟨i, a, b, c, d, e⟩
      · exact Or.inl e
      · exact Or.inr ⟨i, by omega, by omega, c, d, e⟩
theorem ahS_c (ls : List LN) (R : Nat → Bool) (q : Int) (e : Nat) : ahS ls R e q = -1 ∨ ∃ i, i < e ∧ R i = true ∧ (gl ls i).1.1 = q ∧ ahS ls R e q = (i : Int) := by
  rcases ahF_c ls R q e 0 with h | ⟨i, _, b, c, d, h⟩
  · exact Or.inl h
  · exact Or.inr ⟨i, by omega, c, d, h⟩
theorem ahS_bd (ls : List LN) (R : Nat → Bool) (q : Int) (e : Nat) : -1 ≤ ahS ls R e q ∧ ahS ls R e q < e ∨ ahS ls R e q = -1 := by
  rcases ahS_c ls R q e with h | ⟨i, a, -, -, h⟩ <;> omega
theorem ahF_g {ls ls' : List LN} {R R' : Nat → Bool} {q : Int} : ∀ k j, (∀ i, j ≤ i → i < j + k → R i = R' i ∧ (gl ls i).1.1 = (gl ls' i).1.1) → ahF ls R q k j = ahF ls' R' q k j
  | 0, _, _ => rfl
  | k + 1, j, h => by
    unfold ahF
    rw [(h j (Nat.le_refl _) (by omega)).1, (h j (Nat.le_refl _) (by omega)).2, ahF_g k (j + 1) fun i a b => h i (by omega) (by omega)]
theorem ahS_g {ls ls' : List LN} {R R' : Nat → Bool} {q : Int} {e : Nat} (h : ∀ i, i < e → R i = R' i ∧ (gl ls i).1.1 = (gl ls' i).1.1) : ahS ls R e q = ahS ls' R' e q := ahF_g e 0 fun i _ b => h i (by omega)
/-- whether there is a right line ahead for each row -/
def sdL (ls : List LN) (R : Nat → Bool) (i : Nat) (l : List RW) : Bool := l.all fun r => decide (0 ≤ ahS ls R i r.1)
def stS (ls : List LN) (R : Nat → Bool) (i : Nat) : Bool := sdL ls R i (rows (gl ls i))
theorem sdL_c {ls : List LN} {R : Nat → Bool} {i : Nat} {r : RW} {l : List RW} : sdL ls R i (r :: l) = (decide (0 ≤ ahS ls R i r.1) && sdL ls R i l) := List.all_cons
theorem sdL_g {ls ls' : List LN} {R R' : Nat → Bool} {e : Nat} {l : List RW} (h : ∀ i, i < e → R i = R' i ∧ (gl ls i).1.1 = (gl ls' i).1.1) : sdL ls R e l = sdL ls' R' e l := by
  induction l with
  | nil => rfl
  | cons r l ih => rw [sdL_c, sdL_c, ih, ahS_g h]
noncomputable def faS (ls : List LN) (R : Nat → Bool) (i : Nat) : Int := if f1S (gl ls i) = true then 1 else if pB (rpP (gl ls i).2.1) = 1 ∨ pB (rpP (gl ls i).2.2) = 1 ∨ stS ls R i = false then 2 else laS (gl ls i)
theorem faS_g {ls ls' : List LN} {R R' : Nat → Bool} {e : Nat} (h : ∀ i, i < e → R i = R' i ∧ (gl ls i).1.1 = (gl ls' i).1.1) (he : gl ls e = gl ls' e) : faS ls R e = faS ls' R' e := by
  unfold faS stS
  rw [he, sdL_g h]
noncomputable def rgF (ls : List LN) : Nat → Nat → Bool
  | 0 => fun _ => false
  | i + 1 => fun j => if j = i then decide (faS ls (rgF ls i) i = 0) else rgF ls i j
/-- whether a line is right; its fault -/
noncomputable def rtS (ls : List LN) (j : Nat) : Bool := rgF ls (j + 1) j
noncomputable def faT (ls : List LN) (i : Nat) : Int := faS ls (rtS ls) i
theorem rg_lt (ls : List LN) : ∀ n j, j < n → rgF ls n j = rtS ls j
  | 0, j, h => absurd h (by omega)
  | n + 1, j, h => by
    by_cases q : j = n
    · subst q; rfl
    · have : rgF ls (n + 1) j = rgF ls n j := by
        show (if j = n then _ else rgF ls n j) = _
        rw [if_neg q]
      rw [this, rg_lt ls n j (by omega)]
theorem rt_fa (ls : List LN) (i : Nat) : rtS ls i = decide (faT ls i = 0) := by
  show (if i = i then decide (faS ls (rgF ls i) i = 0) else rgF ls i i) = _
  rw [if_pos rfl]
  unfold faT
  rw [faS_g (R := rgF ls i) (R' := rtS ls) (fun j hj => ⟨rg_lt ls i j hj, rfl⟩) rfl]
theorem rt_1 {ls : List LN} {i : Nat} : rtS ls i = true ↔ faT ls i = 0 := by rw [rt_fa]; exact decide_eq_true_iff
theorem rt_g {ls ls' : List LN} : ∀ n, (∀ i, i < n → gl ls i = gl ls' i) → ∀ i, i < n → rtS ls i = rtS ls' i := by
  intro n h i hi
  induction i using Nat.strongRecOn with
  | ind i ih =>
    rw [rt_fa, rt_fa]
    unfold faT
    rw [faS_g (fun j hj => ⟨ih j hj (by omega), by rw [h j (by omega)]⟩) (h i hi)]
theorem fa_g {ls ls' : List LN} {n i : Nat} (h : ∀ i, i < n → gl ls i = gl ls' i) (hi : i < n) : faT ls i = faT ls' i := by
  unfold faT
  exact faS_g (fun j hj => ⟨rt_g n h j (by omega), by rw [h j (by omega)]⟩) (h i hi)
/-- a right line has a right line ahead for each row -/
theorem rt_ah {ls : List LN} {i : Nat} (h : rtS ls i = true) {r : RW} (hr : r ∈ rows (gl ls i)) : 0 ≤ ahS ls (rtS ls) i r.1 := by
  have h1 := rt_1.mp h
  unfold faT faS at h1
  split at h1
  · omega
  · split at h1
    · omega
    · rename_i h2
      have h3 : stS ls (rtS ls) i = true := by
        cases e : stS ls (rtS ls) i
        · exact absurd (Or.inr (Or.inr e)) h2
        · rfl
      unfold stS sdL at h3
      rw [List.all_eq_true] at h3
      exact of_decide_eq_true (h3 r hr)
/-! ### what a line rests on -/
def fdR (f : Int → Nat) (a : RW → Int) (w : Nat) (l : List RW) : Nat := l.foldl (fun w r => w ||| f (a r)) w
def fdD (f : Int → Int) (a : RW → Int) (d : Int) (l : List RW) : Int := l.foldl (fun d r => if d < f (a r) + 1 then f (a r) + 1 else d) d
theorem fdR_k {f : Int → Nat} {a : RW → Int} {w : Nat} {r : RW} {l : List RW} : fdR f a w (r :: l) = fdR f a (w ||| f (a r)) l := rfl
theorem fdD_k {f : Int → Int} {a : RW → Int} {d : Int} {r : RW} {l : List RW} : fdD f a d (r :: l) = fdD f a (if d < f (a r) + 1 then f (a r) + 1 else d) l := rfl
noncomputable def reF (ls : List LN) : Nat → Nat → Nat
  | 0 => fun _ => 0
  | i + 1 => fun j => if j = i then (if rtS ls i = true then fdR (fun a => reF ls i a.toNat) (fun r => ahS ls (rtS ls) i r.1) (2 ^ i) (rows (gl ls i)) else 2 ^ i) else reF ls i j
noncomputable def reS (ls : List LN) (j : Nat) : Nat := reF ls (j + 1) j
noncomputable def deF (ls : List LN) : Nat → Nat → Int
  | 0 => fun _ => 0
  | i + 1 => fun j => if j = i then (if rtS ls i = true then fdD (fun a => deF ls i a.toNat) (fun r => ahS ls (rtS ls) i r.1) 0 (rows (gl ls i)) else 0) else deF ls i j
noncomputable def deS (ls : List LN) (j : Nat) : Int := deF ls (j + 1) j
theorem re_lt (ls : List LN) : ∀ n j, j < n → reF ls n j = reS ls j
  | 0, j, h => absurd h (by omega)
  | n + 1, j, h => by
    by_cases q : j = n
    · subst q; rfl
    · have : reF ls (n + 1) j = reF ls n j := by
        show (if j = n then _ else reF ls n j) = _
        rw [if_neg q]
      rw [this, re_lt ls n j (by omega)]
theorem de_lt (ls : List LN) : ∀ n j, j < n → deF ls n j = deS ls j
  | 0, j, h => absurd h (by omega)
  | n + 1, j, h => by
    by_cases q : j = n
    · subst q; rfl
    · have : deF ls (n + 1) j = deF ls n j := by
        show (if j = n then _ else deF ls n j) = _
        rw [if_neg q]
      rw [this, de_lt ls n j (by omega)]
theorem fdR_g {f g : Int → Nat} {a b : RW → Int} : ∀ {l : List RW} {w : Nat}, (∀ r ∈ l, f (a r) = g (b r)) → fdR f a w l = fdR g b w l
  | [], _, _ => rfl
  | r :: l, w, h => by
    show fdR f a (w ||| f (a r)) l = fdR g b (w ||| g (b r)) l
    rw [h r List.mem_cons_self]
    exact fdR_g fun x hx => h x (List.mem_cons_of_mem _ hx)
theorem fdD_g {f g : Int → Int} {a b : RW → Int} : ∀ {l : List RW} {d : Int}, (∀ r ∈ l, f (a r) = g (b r)) → fdD f a d l = fdD g b d l
  | [], _, _ => rfl
  | r :: l, d, h => by
    show fdD f a (if d < f (a r) + 1 then f (a r) + 1 else d) l = fdD g b (if d < g (b r) + 1 then g (b r) + 1 else d) l
    rw [h r List.mem_cons_self]
    exact fdD_g fun x hx => h x (List.mem_cons_of_mem _ hx)
theorem re_e (ls : List LN) (i : Nat) : reS ls i = if rtS ls i = true then fdR (fun a => reS ls a.toNat) (fun r => ahS ls (rtS ls) i r.1) (2 ^ i) (rows (gl ls i)) else 2 ^ i := by
  show (if i = i then (if rtS ls i = true then fdR (fun a => reF ls i a.toNat) (fun r => ahS ls (rtS ls) i r.1) (2 ^ i) (rows (gl ls i)) else 2 ^ i) else reF ls i i) = _
  rw [if_pos rfl]
  by_cases h : rtS ls i = true
  · rw [if_pos h, if_pos h]
    refine fdR_g fun r hr => re_lt ls i _ ?_
    have h1 := rt_ah h hr
    rcases ahS_c ls (rtS ls) r.1 i with q | ⟨j, a, -, -, q⟩ <;> omega
  · rw [if_neg h, if_neg h]
theorem de_e (ls : List LN) (i : Nat) : deS ls i = if rtS ls i = true then fdD (fun a => deS ls a.toNat) (fun r => ahS ls (rtS ls) i r.1) 0 (rows (gl ls i)) else 0 := by
  show (if i = i then (if rtS ls i = true then fdD (fun a => deF ls i a.toNat) (fun r => ahS ls (rtS ls) i r.1) 0 (rows (gl ls i)) else 0) else deF ls i i) = _
  rw [if_pos rfl]
  by_cases h : rtS ls i = true
  · rw [if_pos h, if_pos h]
    refine fdD_g fun r hr => de_lt ls i _ ?_
    have h1 := rt_ah h hr
    rcases ahS_c ls (rtS ls) r.1 i with q | ⟨j, a, -, -, q⟩ <;> omega
  · rw [if_neg h, if_neg h]
theorem re_g {ls ls' : List LN} {n : Nat} (h : ∀ i, i < n → gl ls i = gl ls' i) : ∀ i, i < n → reS ls i = reS ls' i := by
  intro i hi
  induction i using Nat.strongRecOn with
  | ind i ih =>
    rw [re_e, re_e, rt_g n h i hi, h i hi]
    by_cases q : rtS ls' i = true
    · rw [if_pos q, if_pos q]
      refine fdR_g fun r hr => ?_
      have e : ahS ls (rtS ls) i r.1 = ahS ls' (rtS ls') i r.1 := ahS_g fun j hj => ⟨rt_g n h j (by omega), by rw [h j (by omega)]⟩
      rw [e]
      have h1 := rt_ah q hr
      rcases ahS_c ls' (rtS ls') r.1 i with q | ⟨j, a, -, -, q⟩
      · omega
      · exact ih _ (by omega) (by omega)
    · rw [if_neg q, if_neg q]
theorem de_g {ls ls' : List LN} {n : Nat} (h : ∀ i, i < n → gl ls i = gl ls' i) : ∀ i, i < n → deS ls i = deS ls' i := by
  intro i hi
  induction i using Nat.strongRecOn with
  | ind i ih =>
    rw [de_e, de_e, rt_g n h i hi, h i hi]
    by_cases q : rtS ls' i = true
    · rw [if_pos q, if_pos q]
      refine fdD_g fun r hr => ?_
      have e : ahS ls (rtS ls) i r.1 = ahS ls' (rtS ls') i r.1 := ahS_g fun j hj => ⟨rt_g n h j (by omega), by rw [h j (by omega)]⟩
      rw [e]
      have h1 := rt_ah q hr
      rcases ahS_c ls' (rtS ls') r.1 i with q | ⟨j, a, -, -, q⟩
      · omega
      · exact ih _ (by omega) (by omega)
    · rw [if_neg q, if_neg q]
theorem fdR_bd {f : Int → Nat} {a : RW → Int} {n : Nat} : ∀ {l : List RW} {w : Nat}, w < 2 ^ n → (∀ r ∈ l, f (a r) < 2 ^ n) → fdR f a w l < 2 ^ n
  | [], _, h, _ => h
  | r :: l, w, h, h2 => fdR_bd (l := l) (Nat.or_lt_two_pow h (h2 r List.mem_cons_self)) fun x hx => h2 x (List.mem_cons_of_mem _ hx)
theorem fdD_bd {f : Int → Int} {a : RW → Int} {n : Int} : ∀ {l : List RW} {d : Int}, 0 ≤ d → d ≤ n → (∀ r ∈ l, f (a r) + 1 ≤ n) → 0 ≤ fdD f a d l ∧ fdD f a d l ≤ n
  | [], _, h0, h, _ => ⟨h0, h⟩
  | r :: l, d, h0, h, h2 => by
    have := h2 r List.mem_cons_self
    refine fdD_bd (l := l) (d := if d < f (a r) + 1 then f (a r) + 1 else d) ?_ ?_ fun x hx => h2 x (List.mem_cons_of_mem _ hx)
    · split <;> omega
    · split <;> omega
theorem re_bd (ls : List LN) (i : Nat) : reS ls i < 2 ^ (i + 1) := by
  induction i using Nat.strongRecOn with
  | ind i ih =>
    rw [re_e]
    have h2 : 2 ^ i < 2 ^ (i + 1) := Nat.pow_lt_pow_right (by omega) (by omega)
    by_cases q : rtS ls i = true
    · rw [if_pos q]
      refine fdR_bd h2 fun r hr => ?_
      have h1 := rt_ah q hr
      rcases ahS_c ls (rtS ls) r.1 i with q | ⟨j, a, -, -, q⟩
      · omega
      · exact Nat.lt_of_lt_of_le (ih _ (by omega)) (Nat.pow_le_pow_right (by omega) (by omega))
    · rw [if_neg q]; exact h2
theorem de_bd (ls : List LN) (i : Nat) : 0 ≤ deS ls i ∧ deS ls i ≤ i := by
  induction i using Nat.strongRecOn with
  | ind i ih =>
    rw [de_e]
    by_cases q : rtS ls i = true
    · rw [if_pos q]
      refine fdD_bd (by omega) (by omega) fun r hr => ?_
      have h1 := rt_ah q hr
      rcases ahS_c ls (rtS ls) r.1 i with q | ⟨j, a, -, -, q⟩
      · omega
      · have := ih (ahS ls (rtS ls) i r.1).toNat (by omega)
        omega
    · rw [if_neg q]; omega
/-! ### bits of words -/
theorem tb_e (m i : Nat) : m.testBit i = decide (m / 2 ^ i % 2 = 1) := Nat.testBit_eq_decide_div_mod_eq
theorem tb_or (m i j : Nat) : (m ||| 2 ^ i).testBit j = (m.testBit j || decide (i = j)) := by rw [Nat.testBit_or, Nat.testBit_two_pow]
theorem tb_cl {m i j : Nat} (hj : j < 64) : (m &&& (2 ^ i ^^^ 18446744073709551615)).testBit j = (m.testBit j && !decide (i = j)) := by
  rw [Nat.testBit_and, Nat.testBit_xor, Nat.testBit_two_pow, show (18446744073709551615 : Nat) = 2 ^ 64 - 1 from rfl, Nat.testBit_two_pow_sub_one, decide_eq_true hj]
  cases decide (i = j) <;> rfl
theorem p2_63 {i : Nat} (hi : i < 63) : 2 ^ i < 9223372036854775808 := Nat.pow_lt_pow_right (by omega) hi
theorem shl_1 {i : Nat} (hi : i < 63) : shlL 1 i = ((2 ^ i : Nat) : Int) := by
  have := shlL_n (n := 1) (b := i) (by omega) (by rw [Nat.one_mul]; exact p2_63 hi)
  rw [Nat.one_mul] at this
  exact this
theorem isIn_n {m i : Nat} (hm : m < 9223372036854775808) (hi : i < 64) : Ledger_isIn m i = some (b2i (m.testBit i)) := by
  unfold Ledger_isIn
  have h1 : m / 2 ^ i ≤ m := Nat.div_le_self _ _
  rw [shrL_n hi hm, andL_1 ⟨Int.natCast_nonneg _, by omega⟩, tb_e]
  by_cases q : m / 2 ^ i % 2 = 1
  · rw [if_pos (by omega), decide_eq_true q]; rfl
  · rw [if_neg (by omega), decide_eq_false q]; rfl
theorem Rhas_n {m i : Nat} (hm : m < 9223372036854775808) (hi : i < 64) : R_has m i = some (b2i (m.testBit i)) := by
  unfold R_has
  have h1 : m / 2 ^ i ≤ m := Nat.div_le_self _ _
  rw [shrL_n hi hm, andL_1 ⟨Int.natCast_nonneg _, by omega⟩, tb_e]
  by_cases q : m / 2 ^ i % 2 = 1
  · rw [if_pos (by omega), decide_eq_true q]; rfl
  · rw [if_neg (by omega), decide_eq_false q]; rfl
