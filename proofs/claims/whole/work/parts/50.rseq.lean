/-! the reference: sequences by rows of two, signs of primes -/
theorem u_mix (p q : Int) (a b : Nat) : uS p q a * uS p q (b + 1) + (uS p q (a + 1) - p * uS p q a) * uS p q b = uS p q (a + b) := by
  cases a with
  | zero =>
    rw [Nat.zero_add]
    show 0 * _ + (1 - p * 0) * uS p q b = _
    rw [Int.zero_mul, Int.mul_zero, Int.zero_add, Int.sub_zero, Int.one_mul, Nat.zero_add]
  | succ a =>
    have h := u_add p q b a
    rw [show a + 1 + b = a + b + 1 by omega, h]
    show uS p q (a + 1) * uS p q (b + 1) + (p * uS p q (a + 1) - q * uS p q a - p * uS p q (a + 1)) * uS p q b = _
    grind
def M4 (h : AH) (x p q m : Int) (n : Nat) : Prop := hCe h x 0 = uS p q (n + 1) % m ∧ hCe h x 1 = (-q * uS p q n) % m ∧ hCe h x 2 = uS p q n % m ∧ hCe h x 3 = (uS p q (n + 1) - p * uS p q n) % m
theorem mc2 {m a b c d : Int} : (a % m * (b % m) + c % m * (d % m)) % m = (a * b + c * d) % m := (MC.md.mul MC.md).add (MC.md.mul MC.md)
theorem mul_9 {a b m : Int} (hm : 0 < m ∧ m ≤ 1000000000) : 0 ≤ a % m * (b % m) ∧ a % m * (b % m) ≤ 1000000000000000000 := mulm_bd (mod_bd hm.1) (mod_bd hm.1) hm.2
theorem w64_2 {a b c d m : Int} (hm : 0 < m ∧ m ≤ 1000000000) : w64 (w64 (a % m * (b % m)) + w64 (c % m * (d % m))) = a % m * (b % m) + c % m * (d % m) := by
  have h1 := mul_9 (a := a) (b := b) hm
  have h2 := mul_9 (a := c) (b := d) hm
  rw [w64_e (z := a % m * (b % m)) (by omega), w64_e (z := c % m * (d % m)) (by omega), w64_e (by omega)]
theorem rt_row {k3 : Int → Int → Int → Int → Int → AH → Option AH} {f : Nat} {h : AH} {x m : Int} (H : Sh h) (hx : x = 28 ∨ x = 29) (hm : 0 < m ∧ m ≤ 1000000000) {i a c b0 b1 b2 b3 : Int} (hi : i = 0 ∨ i = 1) (ea : hCe h x (2 * i) = a % m) (ec : hCe h x (2 * i + 1) = c % m) (e0 : hCe h 29 0 = b0 % m) (e1 : hCe h 29 1 = b1 % m) (e2 : hCe h 29 2 = b2 % m) (e3 : hCe h 29 3 = b3 % m) : R_times_12 k3 (f + 3) 27 x 29 m i 0 h = k3 27 x 29 m (i + 1) (hSet (hSet h 30 (2 * i) ((a * b0 + c * b2) % m)) 30 (2 * i + 1) ((a * b1 + c * b3) % m)) := by
  have tx : hTy h x = 22 ∧ hLn h x = 4 := by rcases hx with rfl | rfl; exact ⟨H.t28, H.l28⟩; exact ⟨H.t29, H.l29⟩
  have z0 := mod_bd (a := a) hm.1
  have z1 := mul_9 (a := a) (b := b0) hm
  have z2 := mul_9 (a := c) (b := b2) hm
  have z3 := mul_9 (a := a) (b := b1) hm
  have z4 := mul_9 (a := c) (b := b3) hm
  have f3 : f + 3 = (f + 2) + 1 := rfl
  rw [f3]
  conv => lhs; unfold R_times_12
  refine ifT (by omega) ?_
  refine gB H.t27 ?_
  rw [H.p27_3, w32_e (z := 2 * i) (by omega), w32_e (z := 2 * i + 1) (by omega), w32_e (z := 2 + 0) (by omega), w32_e (z := 2 * i + 0) (by omega), w32_e (z := 0 + 1) (by omega), Int.add_zero, Int.add_zero, Int.zero_add]
  refine gB ⟨tx.1, by omega, by rw [tx.2]; omega⟩ ?_
  refine gB ⟨H.t29, by omega, by rw [H.l29]; omega⟩ ?_
  refine gB ⟨tx.1, by omega, by rw [tx.2]; omega⟩ ?_
  refine gB ⟨H.t29, by omega, by rw [H.l29]; omega⟩ ?_
  rw [ea, ec, e0, e2, w64_2 hm, tm_e (by omega), mc2]
  refine gB (by omega) ?_
  refine gB ⟨H.t30, by omega, by rw [H.l30]; omega⟩ ?_
  have f2 : f + 2 = (f + 1) + 1 := rfl
  rw [f2]
  conv => lhs; unfold R_times_12
  refine ifT (by omega) ?_
  refine gB H.t27 ?_
  rw [cN (b := 27) (by omega), H.p27_3, w32_e (z := 2 * i) (by omega), w32_e (z := 2 * i + 1) (by omega), w32_e (z := 2 + 1) (by omega), w32_e (z := 1 + 1) (by omega), show (2 : Int) + 1 = 3 from rfl, show (1 : Int) + 1 = 2 from rfl]
  refine gB ⟨tx.1, by omega, by show _ < hLn h x; rw [tx.2]; omega⟩ ?_
  refine gB ⟨H.t29, by omega, by show _ < hLn h 29; rw [H.l29]; omega⟩ ?_
  refine gB ⟨tx.1, by omega, by show _ < hLn h x; rw [tx.2]; omega⟩ ?_
  refine gB ⟨H.t29, by omega, by show _ < hLn h 29; rw [H.l29]; omega⟩ ?_
  rw [cN (b := x) (by omega), cN (b := 29) (by omega), cN (b := x) (by omega), cN (b := 29) (by omega), ea, ec, e1, e3, w64_2 hm, tm_e (by omega), mc2]
  refine gB (by omega) ?_
  refine gB ⟨H.t30, by omega, by show _ < hLn h 30; rw [H.l30]; omega⟩ ?_
  conv => lhs; unfold R_times_12
  refine ifF (by omega) ?_
  rw [w32_e (by omega)]
def QK (b _j : Int) : Prop := b = 28 ∨ b = 29 ∨ b = 30
theorem QK.mut {b j : Int} (h : QK b j) : Mut b j := mutM (by unfold QK at h; unfold MutM; omega)
theorem rt_copy {f : Nat} {h : AH} {x : Int} (H : Sh h) (hx : x = 28 ∨ x = 29) {j : Int} (hj : 0 ≤ j ∧ j < 4) : R_times_74 (f + 1) 27 x j h = R_times_74 f 27 x (j + 1) (hSet h x j (hCe h 30 j)) := by
  have tx : hTy h x = 22 ∧ hLn h x = 4 := by rcases hx with rfl | rfl; exact ⟨H.t28, H.l28⟩; exact ⟨H.t29, H.l29⟩
  conv => lhs; unfold R_times_74
  refine ifT (by omega) ?_
  refine gB H.t27 ?_
  rw [H.p27_3]
  refine gB ⟨H.t30, by omega, by rw [H.l30]; omega⟩ ?_
  refine gB ⟨tx.1, by omega, by rw [tx.2]; omega⟩ ?_
  rw [w32_e (by omega)]
theorem s_times {h : AH} {x p q m : Int} {a b : Nat} (H : Sh h) (hx : x = 28 ∨ x = 29) (hm : 0 < m ∧ m ≤ 1000000000) (A : M4 h x p q m a) (B : M4 h 29 p q m b) : ∃ h', R_times 27 x 29 m h = some h' ∧ Fr (fun c _ => c = x ∨ c = 30) h h' ∧ M4 h' x p q m (a + b) := by
  obtain ⟨a0, a1, a2, a3⟩ := A
  obtain ⟨b0, b1, b2, b3⟩ := B
  let e0 := (uS p q (a + 1) * uS p q (b + 1) + -q * uS p q a * uS p q b) % m
  let e1 := (uS p q (a + 1) * (-q * uS p q b) + -q * uS p q a * (uS p q (b + 1) - p * uS p q b)) % m
  let e2 := (uS p q a * uS p q (b + 1) + (uS p q (a + 1) - p * uS p q a) * uS p q b) % m
  let e3 := (uS p q a * (-q * uS p q b) + (uS p q (a + 1) - p * uS p q a) * (uS p q (b + 1) - p * uS p q b)) % m
  let h1 := hSet (hSet h 30 0 e0) 30 1 e1
  let h2 := hSet (hSet h1 30 2 e2) 30 3 e3
  have F1 : Fr (fun c _ => c = x ∨ c = 30) h h1 := Fr.setT (Fr.set (Or.inr rfl)) (Or.inr rfl)
  have F2 : Fr (fun c _ => c = x ∨ c = 30) h h2 := Fr.setT (Fr.setT F1 (Or.inr rfl)) (Or.inr rfl)
  have mu : ∀ c j : Int, (c = x ∨ c = 30) → Mut c j := fun c j z => mutM (by unfold MutM; omega)
  have H1 := H.fr F1 mu
  have H2 := H.fr F2 mu
  have o : ∀ c j v w, c ≠ 30 → hCe (hSet (hSet h 30 0 v) 30 1 w) c j = hCe h c j := fun c j v w z => by rw [cN (Or.inl z), cN (Or.inl z)]
  have r0 := rt_row (k3 := fun a0 a1 a2 a3 a4 h0 => R_times_3 4294967295 a0 a1 a2 a3 a4 h0) (f := 4294967293) (i := 0) H hx hm (Or.inl rfl) a0 a1 b0 b1 b2 b3
  have r1 := rt_row (k3 := fun a0 a1 a2 a3 a4 h0 => R_times_3 4294967294 a0 a1 a2 a3 a4 h0) (f := 4294967293) (i := 1) H1 hx hm (Or.inr rfl) ((o x _ _ _ (by omega)).trans a2) ((o x _ _ _ (by omega)).trans a3) ((o 29 _ _ _ (by omega)).trans b0) ((o 29 _ _ _ (by omega)).trans b1) ((o 29 _ _ _ (by omega)).trans b2) ((o 29 _ _ _ (by omega)).trans b3)
  have run : R_times 27 x 29 m h = some (hSet (hSet (hSet (hSet h2 x 0 e0) x 1 e1) x 2 e2) x 3 e3) := by
    unfold R_times
    rw [show FU = 4294967295 + 1 from rfl]
    unfold R_times_3
    refine ifT (by omega) ?_
    rw [show FU = 4294967293 + 3 from rfl]
    refine r0.trans ?_
    show R_times_3 (4294967294 + 1) 27 x 29 m 1 h1 = _
    unfold R_times_3
    refine ifT (by omega) ?_
    rw [show FU = 4294967293 + 3 from rfl]
    refine r1.trans ?_
    show R_times_3 (4294967293 + 1) 27 x 29 m 2 h2 = _
    unfold R_times_3
    refine ifF (by omega) ?_
    rw [show FU = 4294967291 + 1 + 1 + 1 + 1 + 1 from rfl]
    have S : ∀ v0 v1 v2, Sh (hSet (hSet (hSet h2 x 0 v0) x 1 v1) x 2 v2) ∧ Sh (hSet (hSet h2 x 0 v0) x 1 v1) ∧ Sh (hSet h2 x 0 v0) := fun v0 v1 v2 => ⟨H2.fr (Fr.setT (Fr.setT (Fr.set (Or.inl rfl)) (Or.inl rfl)) (Or.inl rfl)) mu, H2.fr (Fr.setT (Fr.set (Or.inl rfl)) (Or.inl rfl)) mu, H2.fr (Fr.set (Or.inl rfl)) mu⟩
    have n30 : (30 : Int) ≠ x := by omega
    have c0 : hCe h2 30 0 = e0 := by show hCe (hSet (hSet (hSet (hSet h 30 0 e0) 30 1 e1) 30 2 e2) 30 3 e3) 30 0 = e0; rw [cN (by omega), cN (by omega), cN (by omega), cS]
    have c1 : hCe h2 30 1 = e1 := by show hCe (hSet (hSet (hSet (hSet h 30 0 e0) 30 1 e1) 30 2 e2) 30 3 e3) 30 1 = e1; rw [cN (by omega), cN (by omega), cS]
    have c2 : hCe h2 30 2 = e2 := by show hCe (hSet (hSet (hSet (hSet h 30 0 e0) 30 1 e1) 30 2 e2) 30 3 e3) 30 2 = e2; rw [cN (by omega), cS]
    have c3 : hCe h2 30 3 = e3 := cS _ _ _ _
    rw [rt_copy H2 hx (by omega), c0, Int.zero_add, rt_copy (S e0 e1 e2).2.2 hx (by omega), cN (Or.inl n30), c1, show (1 : Int) + 1 = 2 from rfl, rt_copy (S e0 e1 e2).2.1 hx (by omega), cN (Or.inl n30), cN (Or.inl n30), c2, show (2 : Int) + 1 = 3 from rfl, rt_copy (S e0 e1 e2).1 hx (by omega), cN (Or.inl n30), cN (Or.inl n30), cN (Or.inl n30), c3, show (3 : Int) + 1 = 4 from rfl]
    unfold R_times_74
    exact ifF (by omega) rfl
  refine ⟨_, run, ((((F2.setT (Or.inl rfl)).setT (Or.inl rfl)).setT (Or.inl rfl)).setT (Or.inl rfl)), ?_, ?_, ?_, ?_⟩
  · rw [cN (by omega), cN (by omega), cN (by omega), cS]
    show (uS p q (a + 1) * uS p q (b + 1) + -q * uS p q a * uS p q b) % m = _
    rw [show a + b + 1 = a + b + 1 from rfl, u_add p q b a]
    congr 1
    grind
  · rw [cN (by omega), cN (by omega), cS, ← u_mix p q a b]
    show (uS p q (a + 1) * (-q * uS p q b) + -q * uS p q a * (uS p q (b + 1) - p * uS p q b)) % m = _
    congr 1
    grind
  · rw [cN (by omega), cS, ← u_mix p q a b]
  · rw [cS, ← u_mix p q a b, u_add p q b a]
    show (uS p q a * (-q * uS p q b) + (uS p q (a + 1) - p * uS p q a) * (uS p q (b + 1) - p * uS p q b)) % m = _
    congr 1
    grind
theorem M4.fr {P : Int → Int → Prop} {h h' : AH} {x p q m : Int} {n : Nat} (A : M4 h x p q m n) (F : Fr P h h') (z : ∀ j, ¬ P x j) : M4 h' x p q m n := by
  unfold M4 at *
  rw [F.2 _ _ (z _), F.2 _ _ (z _), F.2 _ _ (z _), F.2 _ _ (z _)]
  exact A
theorem rq_loop {p q m : Int} (hm : 0 < m ∧ m ≤ 1000000000) : ∀ (n f k a b : Nat) (h : AH), k < 2 ^ n → k < 4611686018427387904 → n < f → Sh h → M4 h 28 p q m a → M4 h 29 p q m b → ∃ h', R_sequence_81 f 27 m k h = some (uS p q (a + b * k) % m, h') ∧ Fr QK h h' := by
  intro n
  induction n with
  | zero =>
    intro f k a b h hk hk2 hf H A B
    obtain ⟨f, rfl, -⟩ := fu_pos hf
    have : k = 0 := by simp at hk; omega
    subst this
    refine ⟨h, ?_, Fr.rf⟩
    unfold R_sequence_81
    refine ifF (by omega) ?_
    refine gB H.t27 ?_
    rw [H.p27_1]
    refine gB ⟨H.t28, by omega, by rw [H.l28]; omega⟩ ?_
    rw [A.2.2.1, Nat.mul_zero, Nat.add_zero]
  | succ n ih =>
    intro f k a b h hk hk2 hf H A B
    obtain ⟨f, rfl, hf⟩ := fu_pos hf
    by_cases q0 : k = 0
    · subst q0
      refine ⟨h, ?_, Fr.rf⟩
      unfold R_sequence_81
      refine ifF (by omega) ?_
      refine gB H.t27 ?_
      rw [H.p27_1]
      refine gB ⟨H.t28, by omega, by rw [H.l28]; omega⟩ ?_
      rw [A.2.2.1, Nat.mul_zero, Nat.add_zero]
    · have tail : ∀ (a' : Nat) (h1 : AH), Sh h1 → M4 h1 28 p q m a' → M4 h1 29 p q m b → a + b * k = a' + (b + b) * (k / 2) → ∃ h', R_sequence_111 (fun a0 a1 a2 h0 => R_sequence_81 f a0 a1 a2 h0) 27 m k h1 = some (uS p q (a + b * k) % m, h') ∧ Fr QK h1 h' := by
        intro a' h1 H1 A1 B1 e
        obtain ⟨h2, e2, F2, B2⟩ := s_times (p := p) (q := q) H1 (Or.inr rfl) hm B1 B1
        have A2 := A1.fr F2 (by omega)
        have H2 := H1.fr F2 fun c j z => mutM (by unfold MutM; omega)
        obtain ⟨h3, e3, F3⟩ := ih f (k / 2) a' (b + b) h2 (by rw [Nat.pow_succ] at hk; omega) (by omega) (by omega) H2 A2 B2
        refine ⟨h3, ?_, (F2.mo fun c j z => by unfold QK; omega).tr F3⟩
        unfold R_sequence_111
        refine gB H1.t27 ?_
        refine gB H1.t27 ?_
        refine gB H1.t27 ?_
        rw [H1.p27_2]
        refine cB e2 ?_
        have := shrL_1 (x := (k : Int)) (by omega)
        rw [this, e]
        exact e3
      have an := andL_1 (x := (k : Int)) (by omega)
      by_cases odd : k % 2 = 1
      · obtain ⟨h1, e1, F1, A1⟩ := s_times (p := p) (q := q) H (Or.inl rfl) hm A B
        have B1 := B.fr F1 (by omega)
        have H1 := H.fr F1 fun c j z => mutM (by unfold MutM; omega)
        obtain ⟨h2, e2, F2⟩ := tail (a + b) h1 H1 A1 B1 (by
          have e : k = 2 * (k / 2) + 1 := by omega
          generalize k / 2 = t at e
          subst e
          grind)
        refine ⟨h2, ?_, (F1.mo fun c j z => by unfold QK; omega).tr F2⟩
        unfold R_sequence_81
        refine ifT (by omega) ?_
        rw [an]
        refine ifT (by omega) ?_
        refine gB H.t27 ?_
        refine gB H.t27 ?_
        refine gB H.t27 ?_
        rw [H.p27_1, H.p27_2]
        refine cB e1 ?_
        exact e2
      · obtain ⟨h2, e2, F2⟩ := tail a h H A B (by
          have e : k = 2 * (k / 2) := by omega
          generalize k / 2 = t at e
          subst e
          grind)
        refine ⟨h2, ?_, F2⟩
        unfold R_sequence_81
        refine ifT (by omega) ?_
        rw [an]
        refine ifF (by omega) ?_
        exact e2
theorem s_Rsequence {h : AH} {p q k m : Int} (H : Sh h) (hp : okP p) (hq : okP q) (hk : 0 ≤ k ∧ k < 4294967296) (hm : 0 < m ∧ m ≤ 1000000000) : ∃ h', R_sequence 27 p q k m h = some (sqS p q k m, h') ∧ Fr QK h h' := by
  have p1 := hp.1
  have q1 := hq.1
  have z1 := mod_bd (a := q) hm.1
  obtain ⟨k, rfl⟩ := Int.eq_ofNat_of_zero_le hk.1
  let g := hSet (hSet (hSet (hSet (hSet (hSet (hSet (hSet h 28 0 (1 % m)) 28 1 0) 28 2 0) 28 3 (1 % m)) 29 0 (p % m)) 29 1 ((m - q % m) % m)) 29 2 (1 % m)) 29 3 0
  have F : Fr QK h g := by
    refine Fr.setT (Fr.setT (Fr.setT (Fr.setT (Fr.setT (Fr.setT (Fr.setT (Fr.set ?_) ?_) ?_) ?_) ?_) ?_) ?_) ?_ <;> (unfold QK; omega)
  have A : M4 g 28 p q m 0 := by
    refine ⟨?_, ?_, ?_, ?_⟩
    · show hCe (hSet (hSet (hSet (hSet (hSet (hSet (hSet (hSet h 28 0 (1 % m)) 28 1 0) 28 2 0) 28 3 (1 % m)) 29 0 (p % m)) 29 1 ((m - q % m) % m)) 29 2 (1 % m)) 29 3 0) 28 0 = _
      rw [cN (by omega), cN (by omega), cN (by omega), cN (by omega), cN (by omega), cN (by omega), cN (by omega), cS]; rfl
    · show hCe (hSet (hSet (hSet (hSet (hSet (hSet (hSet (hSet h 28 0 (1 % m)) 28 1 0) 28 2 0) 28 3 (1 % m)) 29 0 (p % m)) 29 1 ((m - q % m) % m)) 29 2 (1 % m)) 29 3 0) 28 1 = (-q * 0) % m
      rw [cN (by omega), cN (by omega), cN (by omega), cN (by omega), cN (by omega), cN (by omega), cS, Int.mul_zero, Int.zero_emod]
    · show hCe (hSet (hSet (hSet (hSet (hSet (hSet (hSet (hSet h 28 0 (1 % m)) 28 1 0) 28 2 0) 28 3 (1 % m)) 29 0 (p % m)) 29 1 ((m - q % m) % m)) 29 2 (1 % m)) 29 3 0) 28 2 = 0 % m
      rw [cN (by omega), cN (by omega), cN (by omega), cN (by omega), cN (by omega), cS, Int.zero_emod]
    · show hCe (hSet (hSet (hSet (hSet (hSet (hSet (hSet (hSet h 28 0 (1 % m)) 28 1 0) 28 2 0) 28 3 (1 % m)) 29 0 (p % m)) 29 1 ((m - q % m) % m)) 29 2 (1 % m)) 29 3 0) 28 3 = (1 - p * 0) % m
      rw [cN (by omega), cN (by omega), cN (by omega), cN (by omega), cS, Int.mul_zero, Int.sub_zero]
  have B : M4 g 29 p q m 1 := by
    refine ⟨?_, ?_, ?_, ?_⟩
    · show hCe (hSet (hSet (hSet (hSet (hSet (hSet (hSet (hSet h 28 0 (1 % m)) 28 1 0) 28 2 0) 28 3 (1 % m)) 29 0 (p % m)) 29 1 ((m - q % m) % m)) 29 2 (1 % m)) 29 3 0) 29 0 = (p * 1 - q * 0) % m
      rw [cN (by omega), cN (by omega), cN (by omega), cS, Int.mul_zero, Int.sub_zero, Int.mul_one]
    · show hCe (hSet (hSet (hSet (hSet (hSet (hSet (hSet (hSet h 28 0 (1 % m)) 28 1 0) 28 2 0) 28 3 (1 % m)) 29 0 (p % m)) 29 1 ((m - q % m) % m)) 29 2 (1 % m)) 29 3 0) 29 1 = (-q * 1) % m
      rw [cN (by omega), cN (by omega), cS, Int.mul_one]
      have e : MC m (m - q % m) (0 - q) := MC.sub (show m % m = 0 % m by rw [Int.emod_self, Int.zero_emod]) MC.md
      rw [Int.zero_sub] at e
      exact e
    · show hCe (hSet (hSet (hSet (hSet (hSet (hSet (hSet (hSet h 28 0 (1 % m)) 28 1 0) 28 2 0) 28 3 (1 % m)) 29 0 (p % m)) 29 1 ((m - q % m) % m)) 29 2 (1 % m)) 29 3 0) 29 2 = 1 % m
      rw [cN (by omega), cS]
    · show hCe (hSet (hSet (hSet (hSet (hSet (hSet (hSet (hSet h 28 0 (1 % m)) 28 1 0) 28 2 0) 28 3 (1 % m)) 29 0 (p % m)) 29 1 ((m - q % m) % m)) 29 2 (1 % m)) 29 3 0) 29 3 = (p * 1 - q * 0 - p * 1) % m
      rw [cS, Int.mul_zero, Int.sub_zero, Int.sub_self, Int.zero_emod]
  have Hg := H.fr F fun c j => QK.mut
  obtain ⟨h', e', F'⟩ := rq_loop (p := p) (q := q) hm 32 FU k 0 1 g (by omega) (by omega) (fu_big (by omega)) Hg A B
  rw [Nat.zero_add, Nat.one_mul] at e'
  refine ⟨h', ?_, F.tr F'⟩
  unfold R_sequence sqS
  rw [Int.toNat_natCast, tm_e (a := 1) (by omega), tm_e (a := p) (by omega), tm_e (a := q) (by omega)]
  refine gB H.t27 ?_
  refine gB (by omega) ?_
  rw [H.p27_1]
  refine gB ⟨H.t28, by omega, by rw [H.l28]; omega⟩ ?_
  refine gB H.t27 ?_
  rw [cN (b := 27) (by omega), H.p27_1]
  refine gB ⟨H.t28, by omega, by show _ < hLn h 28; rw [H.l28]; omega⟩ ?_
  refine gB H.t27 ?_
  rw [cN (b := 27) (by omega), cN (b := 27) (by omega), H.p27_1]
  refine gB ⟨H.t28, by omega, by show _ < hLn h 28; rw [H.l28]; omega⟩ ?_
  refine gB H.t27 ?_
  refine gB (by omega) ?_
  rw [cN (b := 27) (by omega), cN (b := 27) (by omega), cN (b := 27) (by omega), H.p27_1]
  refine gB ⟨H.t28, by omega, by show _ < hLn h 28; rw [H.l28]; omega⟩ ?_
  refine gB H.t27 ?_
  refine gB (by omega) ?_
  rw [cN (b := 27) (by omega), cN (b := 27) (by omega), cN (b := 27) (by omega), cN (b := 27) (by omega), H.p27_2]
  refine gB ⟨H.t29, by omega, by show _ < hLn h 29; rw [H.l29]; omega⟩ ?_
  refine gB H.t27 ?_
  refine gB (by omega) ?_
  rw [w64_e (z := m - q % m) (by omega), tm_e (a := m - q % m) (by omega)]
  refine gB (by omega) ?_
  rw [cN (b := 27) (by omega), cN (b := 27) (by omega), cN (b := 27) (by omega), cN (b := 27) (by omega), cN (b := 27) (by omega), H.p27_2]
  refine gB ⟨H.t29, by omega, by show _ < hLn h 29; rw [H.l29]; omega⟩ ?_
  refine gB H.t27 ?_
  refine gB (by omega) ?_
  rw [cN (b := 27) (by omega), cN (b := 27) (by omega), cN (b := 27) (by omega), cN (b := 27) (by omega), cN (b := 27) (by omega), cN (b := 27) (by omega), H.p27_2]
  refine gB ⟨H.t29, by omega, by show _ < hLn h 29; rw [H.l29]; omega⟩ ?_
  refine gB H.t27 ?_
  rw [cN (b := 27) (by omega), cN (b := 27) (by omega), cN (b := 27) (by omega), cN (b := 27) (by omega), cN (b := 27) (by omega), cN (b := 27) (by omega), cN (b := 27) (by omega), H.p27_2]
  refine gB ⟨H.t29, by omega, by show _ < hLn h 29; rw [H.l29]; omega⟩ ?_
  exact e'
