/-! ### candidates by a prime factor; smooth numbers; strong tests, for the kernel -/
/-- q (1 + (i + 1) D) for k numbers i from one on -/
noncomputable def cnd (q D : Nat) (k : Nat) : Nat → Bool := Nat.rec (fun _ => true) (fun _ ih i => Bool.rec false (ih (Nat.succ i)) (okn (Nat.mul q (Nat.add 1 (Nat.mul (Nat.succ i) D))))) k
def Pc (q D n : Nat) : Prop := ∀ j, j < n → okn (q * (1 + (j + 1) * D)) = true
theorem cnd_e {q D : Nat} : ∀ k i, cnd q D k i = true → Pc q D i → Pc q D (i + k)
  | 0, i, _, h => h
  | k + 1, i, h, p => by
    have h' : (Bool.rec false (cnd q D k (i + 1)) (okn (q * (1 + (i + 1) * D))) : Bool) = true := h
    cases c : okn (q * (1 + (i + 1) * D)) with
    | false => rw [c] at h'; cases h'
    | true =>
      rw [c] at h'
      have := cnd_e k (i + 1) h' (fun j hj => by
        rcases Nat.lt_or_ge j i with q | q
        · exact p j q
        · have : j = i := by omega
          subst this; exact c)
      rw [show i + (k + 1) = i + 1 + k by omega]
      exact this
theorem Pc.z {q D : Nat} : Pc q D 0 := fun _ h => absurd h (Nat.not_lt_zero _)
theorem Pc.step {q D n : Nat} (p : Pc q D n) {k : Nat} (h : cnd q D k n = true) : Pc q D (n + k) := cnd_e k n h p
noncomputable def oneB (a x p : Nat) : Bool := Nat.beq (mp a x p) 1
noncomputable def yesQ (p x : Nat) : Bool := Bool.rec false (Bool.rec false (Bool.rec false (oneB 7 x p) (oneB 5 x p)) (oneB 3 x p)) (oneB 2 x p)
theorem oneB_e {a x p : Nat} (hp : 2 ≤ p) : oneB a x p = true ↔ (p : Int) ∣ (a : Int) ^ x - 1 := by
  rw [← md_i hp, ← mp_e]
  exact ⟨Nat.eq_of_beq_eq_true, fun h => by unfold oneB; rw [h]; rfl⟩
theorem yesQ_e {x p : Nat} (hp : 2 ≤ p) : yesQ p x = true ↔ Q4 p x := by
  have h2 := oneB_e (a := 2) (x := x) hp
  have h3 := oneB_e (a := 3) (x := x) hp
  have h5 := oneB_e (a := 5) (x := x) hp
  have h7 := oneB_e (a := 7) (x := x) hp
  have e : Q4 p x ↔ oneB 2 x p = true ∧ oneB 3 x p = true ∧ oneB 5 x p = true ∧ oneB 7 x p = true := by
    rw [h2, h3, h5, h7]; exact Iff.rfl
  rw [e]
  unfold yesQ
  cases oneB 2 x p <;> cases oneB 3 x p <;> cases oneB 5 x p <;> cases oneB 7 x p <;> simp
noncomputable def orB (a b : Bool) : Bool := Bool.rec b true a
noncomputable def anB (a b : Bool) : Bool := Bool.rec false b a
noncomputable def noB (a : Bool) : Bool := Bool.rec true false a
theorem orB_e {a b : Bool} : orB a b = true ↔ a = true ∨ b = true := by cases a <;> cases b <;> decide
theorem anB_e {a b : Bool} : anB a b = true ↔ a = true ∧ b = true := by cases a <;> cases b <;> decide
theorem noB_e {a : Bool} : noB a = true ↔ ¬ a = true := by cases a <;> decide
/-- proper divisors of D up to b, and those beside them, don't do -/
noncomputable def dvs (p D b : Nat) : Bool := Nat.rec true (fun r ih => Bool.rec ih (Bool.rec false ih (anB (orB (Nat.beq r 0) (noB (yesQ p (Nat.div D (Nat.succ r))))) (orB (Nat.ble D (Nat.succ r)) (noB (yesQ p (Nat.succ r)))))) (Nat.beq (Nat.mod D (Nat.succ r)) 0)) b
theorem dvs_e {p D : Nat} (hp : 2 ≤ p) : ∀ b, dvs p D b = true → ∀ r, 1 ≤ r → r ≤ b → r ∣ D → (r ≠ 1 → ¬ Q4 p (D / r)) ∧ (r < D → ¬ Q4 p r)
  | 0, _, r, h1, h2, _ => by omega
  | b + 1, h, r, h1, h2, hd => by
    have h' : (Bool.rec (dvs p D b) (Bool.rec false (dvs p D b) (anB (orB (Nat.beq b 0) (noB (yesQ p (D / (b + 1))))) (orB (Nat.ble D (b + 1)) (noB (yesQ p (b + 1)))))) (Nat.beq (D % (b + 1)) 0) : Bool) = true := h
    cases c : Nat.beq (D % (b + 1)) 0 with
    | false =>
      rw [c] at h'
      have : r ≠ b + 1 := fun z => by
        subst z
        rw [Nat.mod_eq_zero_of_dvd hd] at c
        cases c
      exact dvs_e hp b h' r h1 (by omega) hd
    | true =>
      rw [c] at h'
      cases c2 : (anB (orB (Nat.beq b 0) (noB (yesQ p (D / (b + 1))))) (orB (Nat.ble D (b + 1)) (noB (yesQ p (b + 1))))) with
      | false => rw [c2] at h'; cases h'
      | true =>
        rw [c2] at h'
        by_cases e : r = b + 1
        · subst e
          obtain ⟨x, y⟩ := anB_e.mp c2
          constructor
          · intro n1 q
            rcases orB_e.mp x with z | z
            · have := Nat.eq_of_beq_eq_true z; omega
            · exact noB_e.mp z ((yesQ_e hp).mpr q)
          · intro n1 q
            rcases orB_e.mp y with z | z
            · have := Nat.le_of_ble_eq_true z; omega
            · exact noB_e.mp z ((yesQ_e hp).mpr q)
        · exact dvs_e hp b h' r h1 (by omega) hd
noncomputable def okD (p b D : Nat) : Bool := anB (Nat.ble (Nat.succ D) (Nat.mul (Nat.succ b) (Nat.succ b))) (anB (Nat.ble 1 D) (anB (yesQ p D) (dvs p D b)))
theorem okD_e {p b D : Nat} (hp : 2 ≤ p) (h : okD p b D = true) {x : Nat} (hx : Q4 p x) : D ∣ x := by
  obtain ⟨a1, h⟩ := anB_e.mp h
  obtain ⟨a2, h⟩ := anB_e.mp h
  obtain ⟨a3, h⟩ := anB_e.mp h
  have a1 : D < (b + 1) * (b + 1) := Nat.le_of_ble_eq_true a1
  have a2 : 1 ≤ D := Nat.le_of_ble_eq_true a2
  have g := hx.gcd ((yesQ_e hp).mp a3)
  obtain ⟨c, hc⟩ := Nat.gcd_dvd_right x D
  have gp : 1 ≤ Nat.gcd x D := Nat.gcd_pos_of_pos_right x a2
  generalize hG : Nat.gcd x D = G at *
  have hGx : G ∣ x := hG ▸ Nat.gcd_dvd_left x D
  by_cases c1 : c = 1
  · subst c1; rw [hc, Nat.mul_one]; exact hGx
  · exfalso
    have cp : 1 ≤ c := by
      rcases Nat.eq_zero_or_pos c with z | z
      · subst z; omega
      · exact z
    by_cases l : G ≤ b
    · refine (dvs_e hp b h G gp l ⟨c, hc⟩).2 ?_ g
      have : G * 2 ≤ G * c := Nat.mul_le_mul_left G (by omega)
      omega
    · by_cases l2 : c ≤ b
      · refine (dvs_e hp b h c cp l2 ⟨G, by rw [hc, Nat.mul_comm]⟩).1 c1 ?_
        rw [hc, Nat.mul_div_cancel _ cp]
        exact g
      · have : (b + 1) * (b + 1) ≤ G * c := Nat.mul_le_mul (by omega) (by omega)
        omega
/-- what is wanted of a prime factor -/
def gdP (p : Nat) : Prop := ∀ m, 2 ≤ m → p * m ≤ 1000000001 → Nat.gcd (p * m) 210 = 1 → Q4 (p * m) (p * m - 1) → p * m ∈ exL
theorem gdP_of {p b D K : Nat} (hp : PN p) (h : okD p b D = true) (hc : Pc p D K) (hK : (1000000001 / p - 1) / D ≤ K) : gdP p := by
  intro m h2 hm hg hq
  have d := okD_e hp.1 h (Q4.rest hp (by omega) hg hq)
  have hD : 1 ≤ D := Nat.le_of_ble_eq_true (anB_e.mp (anB_e.mp h).2).1
  obtain ⟨i, hi⟩ := d
  have i0 : i ≠ 0 := fun z => by subst z; omega
  obtain ⟨j, rfl⟩ : ∃ j, i = j + 1 := ⟨i - 1, by omega⟩
  have e : m = 1 + (j + 1) * D := by rw [Nat.mul_comm]; omega
  have hp2 := hp.1
  have l1 : m ≤ 1000000001 / p := (Nat.le_div_iff_mul_le (by omega)).mpr (by rw [Nat.mul_comm]; exact hm)
  have l2 : j + 1 ≤ (1000000001 / p - 1) / D := (Nat.le_div_iff_mul_le hD).mpr (by omega)
  have := hc j (by omega)
  rw [← e] at this
  refine okn_e ?_ hg hq this
  have : 2 * 1 ≤ p * m := Nat.mul_le_mul hp2 (by omega)
  omega
noncomputable def okj (p b j : Nat) : Bool := anB (okD p b (Nat.div (Nat.sub p 1) j)) (cnd p (Nat.div (Nat.sub p 1) j) (Nat.div (Nat.sub (Nat.div 1000000001 p) 1) (Nat.div (Nat.sub p 1) j)) 0)
theorem okj_e {p b j : Nat} (hp : PN p) (h : okj p b j = true) : gdP p := by
  obtain ⟨x, y⟩ := anB_e.mp h
  have := cnd_e _ _ y Pc.z
  rw [Nat.zero_add] at this
  exact gdP_of hp x this (Nat.le_refl _)
noncomputable def cmB (p : Nat) (k : Nat) : Nat → Bool := Nat.rec (fun _ => false) (fun _ ih d => Bool.rec (ih (Nat.succ d)) true (Nat.beq (Nat.mod p d) 0)) k
theorem cmB_e {p : Nat} (hp : PN p) : ∀ k d, 2 ≤ d → d + k ≤ p → ¬ cmB p k d = true
  | 0, d, _, _, h => by cases h
  | k + 1, d, h2, hd, h => by
    have h' : (Bool.rec (cmB p k (d + 1)) true (Nat.beq (p % d) 0) : Bool) = true := h
    cases c : Nat.beq (p % d) 0 with
    | false => rw [c] at h'; exact cmB_e hp k (d + 1) (by omega) (by omega) h'
    | true =>
      rcases hp.2 d (Nat.dvd_of_mod_eq_zero (Nat.eq_of_beq_eq_true c)) with q | q <;> omega
noncomputable def okp (p : Nat) : Bool := orB (cmB p 180 2) (orB (okj p 181 1) (orB (okj p 181 2) (orB (okj p 181 3) (okj p 181 4))))
theorem okp_e {p : Nat} (h1 : 1000 ≤ p) (h : okp p = true) (hp : PN p) : gdP p := by
  rcases orB_e.mp h with q | h
  · exact absurd q (cmB_e hp 180 2 (Nat.le_refl _) (by omega))
  rcases orB_e.mp h with q | h
  · exact okj_e hp q
  rcases orB_e.mp h with q | h
  · exact okj_e hp q
  rcases orB_e.mp h with q | h
  · exact okj_e hp q
  · exact okj_e hp h
noncomputable def okr (k : Nat) : Nat → Bool := Nat.rec (fun _ => true) (fun _ ih p => Bool.rec false (ih (Nat.succ p)) (okp p)) k
def Rg (n : Nat) : Prop := ∀ p, 1000 ≤ p → p < n → PN p → gdP p
theorem okr_e : ∀ k n, 1000 ≤ n → okr k n = true → Rg n → Rg (n + k)
  | 0, n, _, _, h => h
  | k + 1, n, h1, h, r => by
    have h' : (Bool.rec false (okr k (n + 1)) (okp n) : Bool) = true := h
    cases c : okp n with
    | false => rw [c] at h'; cases h'
    | true =>
      rw [c] at h'
      have := okr_e k (n + 1) (by omega) h' (fun p hp hq pp => by
        rcases Nat.lt_or_ge p n with q | q
        · exact r p hp q pp
        · have : p = n := by omega
          subst this; exact okp_e hp c pp)
      rw [show n + (k + 1) = n + 1 + k by omega]
      exact this
theorem Rg.z : Rg 1000 := fun p h1 h2 => by omega
theorem Rg.step {n : Nat} (r : Rg n) (k : Nat) (h1 : 1000 ≤ n) (h : okr k n = true) : Rg (n + k) := okr_e k n h1 h r
/-! smooth numbers -/
noncomputable def ok2 (n : Nat) : Bool := orB (Nat.ble n 100) (okn n)
noncomputable def goV (V : Nat → List Nat → Bool) (n : Nat) (ps : List Nat) : Bool := List.rec true (fun p l ih => Bool.rec (Bool.rec false ih (V (Nat.mul n p) (p :: l))) true (Nat.ble 1000000002 (Nat.mul n p))) ps
noncomputable def vis (f : Nat) : Nat → List Nat → Bool := Nat.rec (fun _ _ => false) (fun _ V n ps => Bool.rec false (goV V n ps) (ok2 n)) f
def smP (ps : List Nat) (x : Nat) : Prop := ∀ r, PN r → r ∣ x → r ∈ ps
theorem goV_e {V : Nat → List Nat → Bool} {n : Nat} (hn : 1 ≤ n) (hV : ∀ m ps, V m ps = true → 1 ≤ m → (∀ p ∈ ps, 2 ≤ p) → ps.Pairwise (fun a b => a < b) → ∀ x, 1 ≤ x → smP ps x → m * x ≤ 1000000001 → ok2 (m * x) = true) : ∀ ps, goV V n ps = true → (∀ p ∈ ps, 2 ≤ p) → ps.Pairwise (fun a b => a < b) → ∀ x, 2 ≤ x → smP ps x → n * x ≤ 1000000001 → ok2 (n * x) = true
  | [], _, _, _, x, h2, hs, _ => by
    obtain ⟨r, hr, hd⟩ := pn_ex x h2
    exact absurd (hs r hr hd) List.not_mem_nil
  | p :: l, h, h2, hp, x, hx, hs, hN => by
    have h' : (Bool.rec (Bool.rec false (goV V n l) (V (n * p) (p :: l))) true (Nat.ble 1000000002 (n * p)) : Bool) = true := h
    have p2 := h2 p List.mem_cons_self
    have key : n * p ≤ 1000000001 → V (n * p) (p :: l) = true ∧ goV V n l = true := fun hnp => by
      have : Nat.ble 1000000002 (n * p) = false := by
        cases c : Nat.ble 1000000002 (n * p) with
        | false => rfl
        | true => have := Nat.le_of_ble_eq_true c; omega
      rw [this] at h'
      cases c : V (n * p) (p :: l) with
      | false => rw [c] at h'; cases h'
      | true => rw [c] at h'; exact ⟨rfl, h'⟩
    by_cases d : p ∣ x
    · obtain ⟨y, rfl⟩ := d
      have y1 : 1 ≤ y := by
        rcases Nat.eq_zero_or_pos y with z | z
        · subst z; omega
        · exact z
      have l1 : n * p * 1 ≤ n * p * y := Nat.mul_le_mul_left _ y1
      rw [← Nat.mul_assoc] at hN ⊢
      exact hV (n * p) (p :: l) (key (by omega)).1 (by have : 1 * 1 ≤ n * p := Nat.mul_le_mul hn (by omega); omega) h2 hp y y1 (fun r hr hd => hs r hr (Nat.dvd_trans hd (Nat.dvd_mul_left y p))) hN
    · obtain ⟨r, hr, hd⟩ := pn_ex x hx
      have hp' := List.pairwise_cons.mp hp
      have hl : smP l x := fun r hr hd => by
        rcases List.mem_cons.mp (hs r hr hd) with q | q
        · subst q; exact absurd hd d
        · exact q
      have lt := hp'.1 r (hl r hr hd)
      have le := Nat.le_of_dvd (by omega) hd
      have : n * p ≤ n * x := Nat.mul_le_mul_left n (by omega)
      exact goV_e hn hV l (key (by omega)).2 (fun q hq => h2 q (List.mem_cons_of_mem _ hq)) hp'.2 x hx hl hN
theorem vis_e : ∀ f n ps, vis f n ps = true → 1 ≤ n → (∀ p ∈ ps, 2 ≤ p) → ps.Pairwise (fun a b => a < b) → ∀ x, 1 ≤ x → smP ps x → n * x ≤ 1000000001 → ok2 (n * x) = true
  | 0, _, _, h, _, _, _, _, _, _, _ => by cases h
  | f + 1, n, ps, h, hn, h2, hp, x, hx, hs, hN => by
    have h' : (Bool.rec false (goV (vis f) n ps) (ok2 n) : Bool) = true := h
    cases c : ok2 n with
    | false => rw [c] at h'; cases h'
    | true =>
      rw [c] at h'
      by_cases x1 : x = 1
      · subst x1; rw [Nat.mul_one]; exact c
      · exact goV_e hn (vis_e f) ps h' h2 hp x (by omega) hs hN
def Tp (ps : List Nat) : Prop := ∀ x, 2 ≤ x → smP ps x → x ≤ 1000000001 → ok2 x = true
theorem Tp.nil : Tp [] := fun x h2 hs _ => by
  obtain ⟨r, hr, hd⟩ := pn_ex x h2
  exact absurd (hs r hr hd) List.not_mem_nil
theorem Tp.cons {p : Nat} {l : List Nat} (h : vis 10 p (p :: l) = true) (h2 : ∀ q ∈ p :: l, 2 ≤ q) (hp : (p :: l).Pairwise (fun a b => a < b)) (t : Tp l) : Tp (p :: l) := fun x hx hs hN => by
  by_cases d : p ∣ x
  · obtain ⟨y, rfl⟩ := d
    have y1 : 1 ≤ y := by
      rcases Nat.eq_zero_or_pos y with z | z
      · subst z; omega
      · exact z
    exact vis_e 10 p _ h (by have := h2 p List.mem_cons_self; omega) h2 hp y y1 (fun r hr hd => hs r hr (Nat.dvd_trans hd (Nat.dvd_mul_left y p))) hN
  · exact t x hx (fun r hr hd => by
      rcases List.mem_cons.mp (hs r hr hd) with q | q
      · subst q; exact absurd hd d
      · exact q) hN
