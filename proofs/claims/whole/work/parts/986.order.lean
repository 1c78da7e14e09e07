/-! order, both sides -/
theorem pws_1 {a m : Int} (hm : 2 ≤ m) {k : Int} : pwS a k m = 1 ↔ m ∣ a ^ k.toNat - 1 := by
  unfold pwS
  constructor
  · intro h
    have := Int.mul_ediv_add_emod (a ^ k.toNat) m
    rw [h] at this
    exact ⟨a ^ k.toNat / m, by omega⟩
  · rintro ⟨c, hc⟩
    have : a ^ k.toNat = 1 + m * c := by omega
    rw [this, Int.add_mul_emod_self_left, Int.emod_eq_of_lt (by omega) (by omega)]
/-- an exponent that leaves 1, and by no prime of a list less -/
def lsOK (m a phi : Int) (ps : List FE) (L : Int) : Prop := 1 ≤ L ∧ L ∣ phi ∧ m ∣ a ^ L.toNat - 1 ∧ ∀ x ∈ ps, x.1 ∣ L → ¬ m ∣ a ^ (L / x.1).toNat - 1
theorem dv_nat {p L : Int} (hp : 1 ≤ p) (hL : 1 ≤ L) (h : p ∣ L) : 1 ≤ L / p ∧ p * (L / p) = L ∧ L / p ≤ L := by
  have e := Int.mul_ediv_cancel' h
  have a : 0 < L / p := by
    rcases Int.lt_or_le 0 (L / p) with q | q
    · exact q
    · exfalso
      have := Int.mul_le_mul_of_nonneg_left q (show 0 ≤ p by omega)
      omega
  have b : 1 * (L / p) ≤ p * (L / p) := Int.mul_le_mul_of_nonneg_right hp (by omega)
  exact ⟨by omega, e, by omega⟩
theorem dv_toN {p L : Int} (hp : 0 ≤ p) (hL : 0 ≤ L) (h : p ∣ L) : p.toNat ∣ L.toNat := by
  obtain ⟨p, rfl⟩ := Int.eq_ofNat_of_zero_le hp
  obtain ⟨L, rfl⟩ := Int.eq_ofNat_of_zero_le hL
  exact Int.natCast_dvd_natCast.mp h
theorem ls_dn {m a phi L p : Int} {ps : List FE} (hp2 : 2 ≤ p) (h : lsOK m a phi ps L) (hps : ∀ x ∈ ps, 2 ≤ x.1) (hd : p ∣ L) (h1 : m ∣ a ^ (L / p).toNat - 1) : lsOK m a phi ps (L / p) := by
  obtain ⟨h1', h2, h3, h4⟩ := h
  obtain ⟨d1, d2, d3⟩ := dv_nat (by omega) h1' hd
  refine ⟨d1, Int.dvd_trans ⟨p, by rw [Int.mul_comm]; exact d2.symm⟩ h2, h1, fun x hx xd z => ?_⟩
  have x2 := hps x hx
  have xL : x.1 ∣ L := Int.dvd_trans xd ⟨p, by rw [Int.mul_comm]; exact d2.symm⟩
  refine h4 x hx xL (one_dv z ?_)
  obtain ⟨f1, f2, f3⟩ := dv_nat (by omega) d1 xd
  obtain ⟨g1, g2, g3⟩ := dv_nat (by omega) h1' xL
  refine dv_toN (by omega) (by omega) ⟨p, ?_⟩
  have e : x.1 * (L / x.1) = x.1 * (L / p / x.1 * p) := by
    rw [g2, ← Int.mul_assoc, f2, Int.mul_comm]; exact d2.symm
  exact Int.eq_of_mul_eq_mul_left (by omega) e
theorem le_loop {h : AH} {l : List FE} (H : Sh h) (D : FD h 24 l) {i : Nat} (hi : i < l.length) {a m phi : Int} (ha : 0 ≤ a ∧ a < 2147483648) (hm : 2 ≤ m ∧ m < 2147483648) (phi1 : 1 ≤ phi ∧ phi ≤ 1000000) (ip : isP (ge l i).1) (ex : ¬ (ge l i).1 ^ ((ge l i).2.toNat + 1) ∣ phi) {ps : List FE} (hps : ∀ x ∈ ps, 2 ≤ x.1) : ∀ (n f : Nat) (c L : Int), c + n = (ge l i).2 → 0 ≤ c → (ge l i).2 ≤ 40 → n ≤ 40 → n < f → lsOK m a phi ps L → L * (ge l i).1 ^ c.toNat ∣ phi → ∃ L', Factors_lessened_39 f 24 i a m L (ge l i).1 c h = some L' ∧ lsOK m a phi (ge l i :: ps) L' := by
  have p2 := ip.1
  have E := D.2.2.2 i hi
  have l9 := D.2.2.1
  have fin : ∀ {L : Int}, lsOK m a phi ps L → ((ge l i).1 ∣ L → ¬ m ∣ a ^ (L / (ge l i).1).toNat - 1) → lsOK m a phi (ge l i :: ps) L := fun h c => ⟨h.1, h.2.1, h.2.2.1, fun x hx => by
    rcases List.mem_cons.mp hx with rfl | hx
    · exact c
    · exact h.2.2.2 x hx⟩
  intro n
  induction n with
  | zero =>
    intro f c L hc c0 c40 n40 hf ok hd
    obtain ⟨f, rfl, -⟩ := fu_pos hf
    refine ⟨L, ?_, fin ok fun z => ?_⟩
    · unfold Factors_lessened_39
      refine gB H.t24 ?_
      rw [H.p24_1]
      refine gB ⟨H.t26, by omega, by rw [H.l26]; omega⟩ ?_
      rw [show (26 : Int) = 24 + 2 from rfl, E.2]
      exact ifF (by omega) rfl
    · exfalso
      obtain ⟨d1, d2, d3⟩ := dv_nat (by omega) ok.1 z
      refine ex (Int.dvd_trans ⟨L / (ge l i).1, ?_⟩ hd)
      have : (ge l i).2.toNat = c.toNat := by omega
      rw [this, Int.pow_succ]
      rw [Int.mul_assoc, d2, Int.mul_comm]
  | succ n ih =>
    intro f c L hc c0 c40 n40 hf ok hd
    obtain ⟨f, rfl, hf⟩ := fu_pos hf
    have L1 := ok.1
    have Lp := Int.le_of_dvd (by omega) ok.2.1
    have db := Int.ediv_nonneg (show 0 ≤ L by omega) (show 0 ≤ (ge l i).1 by omega)
    have db2 : L / (ge l i).1 ≤ L := Int.ediv_le_self _ (by omega)
    have pre : ∀ {r}, (if L % (ge l i).1 = 0 then (if pwS a (L / (ge l i).1) m = 1 then Factors_lessened_39 f 24 i a m (L / (ge l i).1) (ge l i).1 (c + 1) h else some L) else some L) = r → Factors_lessened_39 (f + 1) 24 i a m L (ge l i).1 c h = r := by
      rintro r rfl
      conv => lhs; unfold Factors_lessened_39
      refine gB H.t24 ?_
      rw [H.p24_1]
      refine gB ⟨H.t26, by omega, by rw [H.l26]; omega⟩ ?_
      rw [show (26 : Int) = 24 + 2 from rfl, E.2]
      refine ifT (by omega) ?_
      refine gB (by omega) ?_
      rw [tm_e (by omega)]
      by_cases q : L % (ge l i).1 = 0
      · rw [if_pos q, if_pos q]
        refine gB (by omega) ?_
        rw [td_e (by omega), w32_e (z := L / (ge l i).1) (by omega)]
        refine cB (s_powerLeft ha.1 (by omega) (by omega)) ?_
        by_cases z : pwS a (L / (ge l i).1) m = 1
        · rw [if_pos z, if_pos z]
          refine gB (by omega) ?_
          rw [w32_e (z := c + 1) (by omega)]
        · rw [if_neg z, if_neg z]
      · rw [if_neg q, if_neg q]
    by_cases q : L % (ge l i).1 = 0
    · rw [if_pos q] at pre
      have qd := Int.dvd_of_emod_eq_zero q
      by_cases z : pwS a (L / (ge l i).1) m = 1
      · rw [if_pos z] at pre
        obtain ⟨d1, d2, d3⟩ := dv_nat (by omega) ok.1 qd
        obtain ⟨L', e', o'⟩ := ih f (c + 1) (L / (ge l i).1) (by omega) (by omega) (by omega) (by omega) (by omega) (ls_dn p2 ok hps qd ((pws_1 hm.1).mp z)) (by
          rw [show (c + 1).toNat = c.toNat + 1 by omega, Int.pow_succ]
          have : L / (ge l i).1 * ((ge l i).1 ^ c.toNat * (ge l i).1) = L * (ge l i).1 ^ c.toNat := by
            rw [Int.mul_comm ((ge l i).1 ^ c.toNat), ← Int.mul_assoc, Int.mul_comm (L / (ge l i).1), d2]
          rw [this]
          exact hd)
        exact ⟨L', pre e', o'⟩
      · rw [if_neg z] at pre
        exact ⟨L, pre rfl, fin ok fun _ y => z ((pws_1 hm.1).mpr y)⟩
    · rw [if_neg q] at pre
      exact ⟨L, pre rfl, fin ok fun y => absurd (Int.emod_eq_zero_of_dvd y) q⟩
theorem or_loop {h : AH} (H : Sh h) {a m phi : Int} (D : FD h 24 (facS phi)) (ha : 0 ≤ a ∧ a < 2147483648) (hm : 2 ≤ m ∧ m < 2147483648) (phi1 : 1 ≤ phi ∧ phi ≤ 1000000) : ∀ (n f i : Nat) (L : Int), i + n = (facS phi).length → n < f → (∃ ps, lsOK m a phi ps L ∧ (∀ x ∈ ps, 2 ≤ x.1) ∧ ∀ j, j < i → ge (facS phi) j ∈ ps) → ∃ L', X_order_61 f 0 a m L i h = some (L', h) ∧ lsOK m a phi (facS phi) L' := by
  have l9 := D.2.2.1
  obtain ⟨b1, b2, b3⟩ := facS_ok phi1.1 (show phi < 2147483648 by omega)
  intro n
  induction n with
  | zero =>
    rintro f i L hi hf ⟨ps, ok, -, al⟩
    obtain ⟨f, rfl, -⟩ := fu_pos hf
    refine ⟨L, ?_, ok.1, ok.2.1, ok.2.2.1, fun x hx => ?_⟩
    · unfold X_order_61
      refine gB H.t0 ?_
      rw [H.p0_5]
      refine gB H.t24 ?_
      rw [D.2.1]
      exact ifF (by omega) rfl
    · obtain ⟨j, hj, e⟩ := List.getElem_of_mem hx
      refine ok.2.2.2 x ?_
      have := al j (by omega)
      unfold ge at this
      rw [List.getD_eq_getElem?_getD, List.getElem?_eq_getElem hj] at this
      rw [← e]
      exact this
  | succ n ih =>
    rintro f i L hi hf ⟨ps, ok, p2, al⟩
    obtain ⟨f, rfl, hf⟩ := fu_pos hf
    have hi' : i < (facS phi).length := by omega
    have E := D.2.2.2 i hi'
    obtain ⟨x1, x2, x3, x4, x5⟩ := b1 _ (ge_mem hi')
    have x2' := x1.1
    obtain ⟨c, ec, nc, c1⟩ := pr_ex (fun x hx => (b1 x hx).1) b2 (ge_mem hi')
    have ex : ¬ (ge (facS phi) i).1 ^ ((ge (facS phi) i).2.toNat + 1) ∣ phi := by
      rintro ⟨d, hd⟩
      have hd : (ge (facS phi) i).1 ^ (ge (facS phi) i).2.toNat * c = (ge (facS phi) i).1 ^ (ge (facS phi) i).2.toNat * ((ge (facS phi) i).1 * d) := by
        rw [← ec, b3]
        refine hd.trans ?_
        rw [Int.pow_succ, Int.mul_assoc]
      have pp : 0 < (ge (facS phi) i).1 ^ (ge (facS phi) i).2.toNat := Int.pow_pos (by omega)
      have := Int.eq_of_mul_eq_mul_left (by omega) hd
      exact nc (dv_toN (by omega) (by omega) ⟨d, this⟩)
    obtain ⟨L', e', o'⟩ := le_loop H D hi' ha hm phi1 x1 ex p2 (ge (facS phi) i).2.toNat FU 0 L (by omega) (by omega) (by omega) (by omega) (fu_big (by omega)) ok (by rw [show (0 : Int).toNat = 0 from rfl, Int.pow_zero, Int.mul_one]; exact ok.2.1)
    obtain ⟨L2, e2, o2⟩ := ih f (i + 1) L' (by omega) (by omega) ⟨_, o', fun x hx => by
      rcases List.mem_cons.mp hx with rfl | hx
      · exact x2'
      · exact p2 x hx, fun j hj => by
      by_cases q : j = i
      · subst q; exact List.mem_cons_self
      · exact List.mem_cons_of_mem _ (al j (by omega))⟩
    refine ⟨L2, ?_, o2⟩
    unfold X_order_61
    refine gB H.t0 ?_
    rw [H.p0_5]
    refine gB H.t24 ?_
    rw [D.2.1]
    refine ifT (by omega) ?_
    refine gB H.t0 ?_
    refine gB H.t24 ?_
    have le : Factors_lessened 24 L i a m h = some L' := by
      unfold Factors_lessened
      refine ifF (by omega) ?_
      refine gB H.t24 ?_
      rw [D.2.1]
      refine ifT (by omega) ?_
      refine gB H.t24 ?_
      rw [H.p24_0]
      refine gB ⟨H.t25, by omega, by rw [H.l25]; omega⟩ ?_
      rw [show (25 : Int) = 24 + 1 from rfl, E.1]
      refine ifF (by omega) ?_
      refine gB H.t24 ?_
      rw [show (24 : Int) + 1 = 25 from rfl] at *
      refine gB ⟨H.t25, by omega, by rw [H.l25]; omega⟩ ?_
      rw [E.1]
      exact e'
    refine cB le ?_
    rw [w32_e (z := (i : Int) + 1) (by omega)]
    exact e2
/-- the reference counts on -/
theorem ro_loop2 {a m : Int} (ha : 0 ≤ a ∧ a < 2147483648) (hm : 2 ≤ m ∧ m ≤ 1000000) {d : Nat} (d1 : 1 ≤ d) (dm : d ≤ 1000000) (hd : m ∣ a ^ d - 1) (hl : ∀ k, 1 ≤ k → k < d → ¬ m ∣ a ^ k - 1) : ∀ (n f k : Nat), k + n = d → 1 ≤ k → n < f → R_order_43 f a m k (a ^ k % m) = some (d : Int) := by
  have is1 : ∀ k : Nat, a ^ k % m = 1 ↔ m ∣ a ^ k - 1 := fun k => by
    have := pws_1 (a := a) hm.1 (k := (k : Int))
    unfold pwS at this
    rw [Int.toNat_natCast] at this
    exact this
  intro n
  induction n with
  | zero =>
    intro f k hk k1 hf
    obtain ⟨f, rfl, -⟩ := fu_pos hf
    have : k = d := by omega
    subst this
    unfold R_order_43
    exact ifT ((is1 k).mpr hd) rfl
  | succ n ih =>
    intro f k hk k1 hf
    obtain ⟨f, rfl, hf⟩ := fu_pos hf
    have mb := mod_bd (a := a ^ k) (m := m) (by omega)
    have mb2 := mul_bd (a := a ^ k % m) (b := a) ⟨mb.1, by omega⟩ ha
    unfold R_order_43
    refine ifF (fun z => hl k k1 (by omega) ((is1 k).mp z)) ?_
    refine gB (by omega) ?_
    rw [w64_e (z := a ^ k % m * a) (by omega), tm_e mb2.1, w32_e (z := (k : Int) + 1) (by omega)]
    have e : a ^ k % m * a % m = a ^ (k + 1) % m := by
      rw [Int.pow_succ]
      exact MC.md.mul MC.rf
    rw [e]
    exact ih f (k + 1) (by omega) (by omega) (by omega)
theorem least_ex {P : Nat → Prop} : ∀ n, 1 ≤ n → P n → ∃ d, 1 ≤ d ∧ d ≤ n ∧ P d ∧ ∀ k, 1 ≤ k → k < d → ¬ P k := by
  intro n
  induction n using Nat.strongRecOn with
  | ind n ih =>
    intro h1 h
    by_cases q : ∃ k, 1 ≤ k ∧ k < n ∧ P k
    · obtain ⟨k, a, b, c⟩ := q
      obtain ⟨d, x, y, z, w⟩ := ih k b a c
      exact ⟨d, x, by omega, z, w⟩
    · exact ⟨n, h1, Nat.le_refl _, h, fun k a b c => q ⟨k, a, b, c⟩⟩
theorem q_order (hM : MRok) {a m : Int} (ia : i32 a) (im : i32 m) : nCall (FK 24) XK (fun h => X_order 0 a m h) (fun g => lft (R_order 27 a m) g) := by
  intro h H
  unfold i32 at ia im
  by_cases q : 0 ≤ a ∧ 2 ≤ m ∧ m ≤ 1000000
  · obtain ⟨a0, m2, m6⟩ := q
    have cx : Arithmetic_commonOf a m = some (gcS a m) := s_commonOf (by omega) (by omega)
    have cr : R_common a m = some (gcS a m) := s_common (by omega) (by omega)
    by_cases g1 : gcS a m = 1
    · have g2 : Nat.Coprime a.toNat m.toNat := by
        unfold gcS at g1
        show Nat.gcd _ _ = 1
        omega
      obtain ⟨b1, b2, b3⟩ := facS_ok (n := m) (by omega) (by omega)
      obtain ⟨e1, e2, e3⟩ := eul_l (l := facS m) (a := a.toNat) (fun x hx => ⟨(b1 x hx).1, (b1 x hx).2.2.2.1, fun z => by
        have x2 := (b1 x hx).1.1
        have y := dv_toN (by omega) (by omega) (b1 x hx).2.2.1
        have := Nat.dvd_gcd z y
        rw [g2] at this
        have := Nat.le_of_dvd (by decide) this
        omega⟩) b2
      rw [b3, Int.toNat_of_nonneg a0] at e3
      have ucp : ucS (facS m) m = phF (facS m) := by
        have := uc_ph (l := facS m) 1 fun x hx => ⟨(b1 x hx).1, (b1 x hx).2.2.2.1⟩
        rw [b3, Int.mul_one, Int.mul_one] at this
        exact this
      have ucl := uc_le (l := facS m) (t := m) (fun x hx => (b1 x hx).1.1) (by omega)
      obtain ⟨h1, x1, F1, D1⟩ := s_split hM (H.fo (Or.inr (Or.inr rfl))) (n := m) (by omega) (by omega)
      have H1 := H.fr F1 fun b j => FK24
      obtain ⟨h2, x2, F2, D2⟩ := s_split hM (H1.fo (Or.inr (Or.inr rfl))) (n := ucS (facS m) m) (by omega) (by omega)
      have H2 := H1.fr F2 fun b j => FK24
      obtain ⟨L, x3, o3⟩ := or_loop H2 D2 (a := a) (m := m) ⟨a0, by omega⟩ ⟨m2, by omega⟩ (by omega) (facS (ucS (facS m) m)).length FU 0 (ucS (facS m) m) (by omega) (fu_big (by have := D2.2.2.1; omega)) ⟨[], ⟨by omega, Int.dvd_refl _, by rw [ucp]; exact e3, fun x hx => absurd hx List.not_mem_nil⟩, (fun x hx => absurd hx List.not_mem_nil), fun j hj => absurd hj (Nat.not_lt_zero j)⟩
      obtain ⟨d, d1, d2, d3, d4⟩ := least_ex (P := fun k => m ∣ a ^ k - 1) L.toNat (by have := o3.1; omega) o3.2.2.1
      have Lb := Int.le_of_dvd (by omega) o3.2.1
      have dL : d ∣ L.toNat := ord_dv d1 d3 d4 o3.2.2.1
      have Ld : L.toNat = d := by
        obtain ⟨c, hc⟩ := dL
        rcases Nat.lt_or_ge 1 c with z | z
        · exfalso
          obtain ⟨f1, f2, f3⟩ := facS_ok (n := (c : Int)) (by omega) (by
            have : c ≤ d * c := Nat.le_mul_of_pos_left c d1
            omega)
          rcases w : facS (c : Int) with _ | ⟨x, t⟩
          · rw [w] at f3
            have : (1 : Int) = c := f3
            omega
          · obtain ⟨p1, p2, p3, p4, -⟩ := f1 x (by rw [w]; exact List.mem_cons_self)
            have y2 := p1.1
            have pL : x.1 ∣ L := by
              have : (L : Int) = (d : Int) * (c : Int) := by
                have := o3.1
                have e : ((L.toNat : Nat) : Int) = ((d * c : Nat) : Int) := congrArg _ hc
                rw [Int.natCast_mul, Int.toNat_of_nonneg (by omega)] at e
                exact e
              rw [this]
              exact Int.dvd_mul_of_dvd_right p3
            have pphi : x.1 ∣ ucS (facS m) m := Int.dvd_trans pL o3.2.1
            have mem : ∃ y ∈ facS (ucS (facS m) m), y.1 = x.1 := by
              apply Classical.byContradiction
              intro no
              obtain ⟨u1, u2, u3⟩ := facS_ok (n := ucS (facS m) m) (by omega) (by omega)
              refine (pr_nd (l := facS (ucS (facS m) m)) p1.pn fun y hy => ⟨(u1 y hy).1, fun e => no ⟨y, hy, by omega⟩⟩).1 ?_
              rw [u3]
              exact dv_toN (by omega) (by omega) pphi
            obtain ⟨y, hy, yx⟩ := mem
            refine o3.2.2.2 y hy (by rw [yx]; exact pL) ?_
            refine one_dv d3 ?_
            obtain ⟨g1, g2, g3⟩ := dv_nat (p := y.1) (L := L) (by omega) o3.1 (by rw [yx]; exact pL)
            obtain ⟨c', hc'⟩ := p3
            refine ⟨c'.toNat, ?_⟩
            have c0 : 0 ≤ c' := by
              rcases Int.lt_or_le c' 0 with q | q
              · exfalso
                have : x.1 * c' ≤ x.1 * 0 := Int.mul_le_mul_of_nonneg_left (by omega) (by omega)
                omega
              · exact q
            have e : y.1 * (L / y.1) = y.1 * ((d : Int) * c') := by
              rw [g2, yx, Int.mul_left_comm, ← hc']
              have e : ((L.toNat : Nat) : Int) = ((d * c : Nat) : Int) := congrArg _ hc
              rw [Int.natCast_mul, Int.toNat_of_nonneg (by have := o3.1; omega)] at e
              exact e
            have e2 := Int.eq_of_mul_eq_mul_left (by omega) e
            rw [e2, Int.toNat_mul (by omega) c0, Int.toNat_natCast]
        · have : c ≠ 0 := fun y => by
            subst y
            have := o3.1
            omega
          have : c = 1 := by omega
          subst this
          omega
      have Le : L = (d : Int) := by have := o3.1; omega
      refine ⟨L, h2, ?_, F1.tr F2, fun g G => ⟨g, ?_, Fr.rf⟩⟩
      · show X_order 0 a m h = _
        unfold X_order
        refine ifF (by omega) (ifF (by omega) (ifF (by omega) ?_))
        refine cB cx ?_
        refine ifT g1 ?_
        refine gB H.t0 ?_
        rw [H.p0_5]
        refine gB H.t24 ?_
        refine cB x1 ?_
        refine gB H1.t0 ?_
        rw [H1.p0_5]
        refine gB H1.t24 ?_
        refine cB (s_unitCount H1 D1 (by omega) (by omega)) ?_
        refine gB H1.t0 ?_
        refine gB H1.t24 ?_
        refine cB x2 ?_
        exact x3
      · refine lft_s ?_
        unfold R_order
        refine ifF (by omega) ?_
        refine rin_if ?_
        rw [if_pos (by omega)]
        refine cB cr ?_
        refine ifT g1 ?_
        refine gB (by omega) ?_
        rw [tm_e a0, Le]
        have := ro_loop2 (a := a) (m := m) ⟨a0, by omega⟩ ⟨m2, m6⟩ d1 (by omega) d3 d4 (d - 1) FU 1 (by omega) (by omega) (fu_big (by omega))
        rw [show a ^ 1 = a by rw [Int.pow_succ, Int.pow_zero, Int.one_mul]] at this
        exact this
    · refine ⟨-2, h, ?_, Fr.rf, fun g G => ⟨g, ?_, Fr.rf⟩⟩
      · show X_order 0 a m h = _
        unfold X_order
        refine ifF (by omega) (ifF (by omega) (ifF (by omega) ?_))
        refine cB cx ?_
        exact ifF g1 rfl
      · refine lft_s ?_
        unfold R_order
        refine ifF (by omega) ?_
        refine rin_if ?_
        rw [if_pos (by omega)]
        refine cB cr ?_
        exact ifF g1 rfl
  · refine ⟨-1, h, ?_, Fr.rf, fun g G => ⟨g, ?_, Fr.rf⟩⟩
    · show X_order 0 a m h = _
      unfold X_order
      by_cases q1 : a < 0
      · exact ifT q1 rfl
      by_cases q2 : m < 2
      · exact ifF q1 (ifT q2 rfl)
      · exact ifF q1 (ifF q2 (ifT (by omega) rfl))
    · refine lft_s ?_
      unfold R_order
      by_cases q1 : a < 0
      · exact ifT q1 rfl
      refine ifF q1 ?_
      refine rin_if ?_
      rw [if_neg (by omega)]
theorem s_order (hM : MRok) {a m : Int} (ia : i32 a) (im : i32 m) : sim (fun h => X_order 0 a m h) (fun g => lft (R_order 27 a m) g) := num_sim (q_order hM ia im)
