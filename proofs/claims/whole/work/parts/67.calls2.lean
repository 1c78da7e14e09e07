/-! calls on numbers that go through the factors -/
theorem pw_1 {p : Int} (hp : 2 ≤ p) : ∀ k : Nat, 1 ≤ p ^ k
  | 0 => by rw [Int.pow_zero]; omega
  | k + 1 => by
    rw [Int.pow_succ]
    have := Int.mul_le_mul (pw_1 hp k) (show (1 : Int) ≤ p by omega) (by omega) (by have := pw_1 hp k; omega)
    omega
theorem pr_pos : ∀ {l : List FE}, (∀ x ∈ l, 2 ≤ x.1) → 1 ≤ prE l
  | [], _ => Int.le_refl _
  | x :: l, h => by
    have a := pr_pos fun y hy => h y (List.mem_cons_of_mem x hy)
    have b := pw_1 (h x List.mem_cons_self) x.2.toNat
    have := Int.mul_le_mul b a (by omega) (by omega)
    exact this
/-- what holds of the factors of a number -/
def fcB (l : List FE) (N : Int) : Prop := (∀ x ∈ l, 2 ≤ x.1 ∧ x.1 ≤ N ∧ 1 ≤ x.2 ∧ x.2 ≤ 30) ∧ l.Pairwise (fun x y => x.1 < y.1) ∧ prE l = N
theorem fcS {n : Int} (h1 : 1 ≤ n) (h2 : n ≤ 1000000001) : fcB (facS n) n := by
  obtain ⟨a, b, c⟩ := facS_ok h1 (show n < 2147483648 by omega)
  refine ⟨fun x hx => ?_, b, c⟩
  obtain ⟨p1, p2, p3, p4, p5⟩ := a x hx
  exact ⟨p2, Int.le_of_dvd (by omega) p3, p4, p5⟩
theorem dr_mem {l : List FE} {i : Nat} {x : FE} (h : x ∈ l.drop i) : x ∈ l := List.mem_of_mem_drop h
/-! ### units -/
def ucS : List FE → Int → Int
  | [], t => t
  | x :: l, t => ucS l (t / x.1 * (x.1 - 1))
theorem uc_bd {t p : Int} (ht : 0 ≤ t) (hp : 2 ≤ p) : 0 ≤ t / p * (p - 1) ∧ t / p * (p - 1) ≤ t := by
  have a : 0 ≤ t / p := Int.ediv_nonneg ht (by omega)
  have b : 0 ≤ t / p * (p - 1) := Int.mul_nonneg a (by omega)
  have c := Int.mul_ediv_add_emod t p
  have d := Int.emod_nonneg t (show p ≠ 0 by omega)
  rw [Int.mul_sub, Int.mul_one, Int.mul_comm (t / p) p] at *
  omega
theorem uc_le : ∀ {l : List FE} {t : Int}, (∀ x ∈ l, 2 ≤ x.1) → 0 ≤ t → 0 ≤ ucS l t ∧ ucS l t ≤ t
  | [], t, _, h0 => ⟨h0, Int.le_refl _⟩
  | x :: l, t, h, h0 => by
    have b := uc_bd h0 (h x List.mem_cons_self)
    have := uc_le (l := l) (fun y hy => h y (List.mem_cons_of_mem x hy)) b.1
    exact ⟨this.1, Int.le_trans this.2 b.2⟩
theorem uc_loop {h : AH} {l : List FE} (H : Sh h) (D : FD h 24 l) (hl : ∀ x ∈ l, 2 ≤ x.1 ∧ x.1 ≤ 1000000001) : ∀ (m f i : Nat) (t : Int), i + m = l.length → m < f → 0 ≤ t → t ≤ 1000000001 → Factors_unitCount_4 f 24 t i h = some (ucS (l.drop i) t) := by
  have l9 := D.2.2.1
  intro m
  induction m with
  | zero =>
    intro f i t hi hf h0 h1
    obtain ⟨f, rfl, -⟩ := fu_pos hf
    unfold Factors_unitCount_4
    refine gB H.t24 ?_
    rw [D.2.1, List.drop_of_length_le (by omega)]
    exact ifF (by omega) rfl
  | succ m ih =>
    intro f i t hi hf h0 h1
    obtain ⟨f, rfl, hf⟩ := fu_pos hf
    have hx := hl _ (ge_mem (l := l) (i := i) (by omega))
    have c := (D.2.2.2 i (by omega)).1
    rw [show (24 : Int) + 1 = 25 from rfl] at c
    have b := uc_bd h0 hx.1
    have q0 : 0 ≤ t / (ge l i).1 := Int.ediv_nonneg h0 (by omega)
    have q1 : t / (ge l i).1 ≤ t := Int.ediv_le_self _ h0
    have e := ih f (i + 1) (t / (ge l i).1 * ((ge l i).1 - 1)) (by omega) (by omega) b.1 (by omega)
    rw [ge_dr (by omega : i < l.length)]
    show _ = some (ucS (l.drop (i + 1)) (t / (ge l i).1 * ((ge l i).1 - 1)))
    rw [← e]
    conv => lhs; unfold Factors_unitCount_4
    refine gB H.t24 ?_
    rw [D.2.1]
    refine ifT (by omega) ?_
    refine gB H.t24 ?_
    rw [H.p24_0]
    refine gB ⟨H.t25, by omega, by rw [H.l25]; omega⟩ ?_
    rw [c]
    refine ifT (by omega) ?_
    refine gB H.t24 ?_
    refine gB ⟨H.t25, by omega, by rw [H.l25]; omega⟩ ?_
    rw [c, td_e (by omega), w32_e (z := t / (ge l i).1) (by omega)]
    refine gB (by omega) ?_
    refine gB H.t24 ?_
    refine gB ⟨H.t25, by omega, by rw [H.l25]; omega⟩ ?_
    rw [c, w32_e (z := (ge l i).1 - 1) (by omega), w32_e (z := t / (ge l i).1 * ((ge l i).1 - 1)) (by omega), w32_e (z := (i : Int) + 1) (by omega)]
    rfl
theorem s_unitCount {h : AH} {n : Int} (H : Sh h) (D : FD h 24 (facS n)) (h1 : 1 ≤ n) (h2 : n ≤ 1000000001) : Factors_unitCount 24 n h = some (ucS (facS n) n) := by
  unfold Factors_unitCount
  have B := fcS h1 h2
  exact uc_loop H D (fun x hx => ⟨(B.1 x hx).1, by have := (B.1 x hx).2.1; omega⟩) (facS n).length FU 0 n (by omega) (fu_big (by have := D.2.2.1; omega)) (by omega) h2
theorem ru_loop {h : AH} {l : List FE} (H : Sh h) (D : FCM h l) (hl : ∀ x ∈ l, 2 ≤ x.1 ∧ x.1 ≤ 1000000001) : ∀ (m f i : Nat) (t : Int), i + m = l.length → m < f → 0 ≤ t → t ≤ 1000000001 → R_units_26 f 27 t i h = some (ucS (l.drop i) t, h) := by
  have l9 := D.2.1
  intro m
  induction m with
  | zero =>
    intro f i t hi hf h0 h1
    obtain ⟨f, rfl, -⟩ := fu_pos hf
    unfold R_units_26
    refine gB H.t27 ?_
    rw [D.1, List.drop_of_length_le (by omega), w32_e (z := t) (by omega)]
    exact ifF (by omega) rfl
  | succ m ih =>
    intro f i t hi hf h0 h1
    obtain ⟨f, rfl, hf⟩ := fu_pos hf
    have hx := hl _ (ge_mem (l := l) (i := i) (by omega))
    have c := (D.2.2 i (by omega)).1
    have b := uc_bd h0 hx.1
    have q0 : 0 ≤ t / (ge l i).1 := Int.ediv_nonneg h0 (by omega)
    have q1 : t / (ge l i).1 ≤ t := Int.ediv_le_self _ h0
    have e := ih f (i + 1) (t / (ge l i).1 * ((ge l i).1 - 1)) (by omega) (by omega) b.1 (by omega)
    rw [ge_dr (by omega : i < l.length)]
    show _ = some (ucS (l.drop (i + 1)) (t / (ge l i).1 * ((ge l i).1 - 1)), h)
    rw [← e]
    conv => lhs; unfold R_units_26
    refine gB H.t27 ?_
    rw [D.1]
    refine ifT (by omega) ?_
    refine gB H.t27 ?_
    rw [H.p27_4]
    refine gB ⟨H.t31, by omega, by rw [H.l31]; omega⟩ ?_
    rw [c, td_e (by omega), w64_e (z := t / (ge l i).1) (by omega)]
    refine gB (by omega) ?_
    refine gB H.t27 ?_
    refine gB ⟨H.t31, by omega, by rw [H.l31]; omega⟩ ?_
    rw [c, w32_e (z := (ge l i).1 - 1) (by omega), w64_e (z := t / (ge l i).1 * ((ge l i).1 - 1)) (by omega), w32_e (z := (i : Int) + 1) (by omega)]
    rfl
theorem q_units (hM : MRok) (n : Int) : nCall (FK 24) XK (fun h => X_units 0 n h) (fun g => R_units 27 n g) := by
  intro h H
  by_cases q : 1 ≤ n ∧ n ≤ 1000000000
  · obtain ⟨h1, e1, F1, D1⟩ := s_split hM (H.fo (Or.inr (Or.inr rfl))) (n := n) (by omega) (by omega)
    have H1 := H.fr F1 fun b j => FK24
    have B := fcS (n := n) (by omega) (by omega)
    refine ⟨ucS (facS n) n, h1, ?_, F1, fun g G => ?_⟩
    · show X_units 0 n h = _
      unfold X_units
      refine ifF (by omega) (ifF (by omega) ?_)
      refine gB H.t0 ?_
      rw [H.p0_5]
      refine gB H.t24 ?_
      refine cB e1 ?_
      refine gB H1.t0 ?_
      rw [H1.p0_5]
      refine gB H1.t24 ?_
      exact cB (s_unitCount H1 D1 (by omega) (by omega)) rfl
    · obtain ⟨g1, e2, F2, D2⟩ := s_laysFactors G (n := n) (by omega) (by omega)
      have G1 := G.fr F2 fun b j => XK.mut
      refine ⟨g1, ?_, F2⟩
      show R_units 27 n g = _
      unfold R_units
      refine rin_if ?_; rw [if_pos q]
      refine gB G.t27 ?_
      refine cB e2 ?_
      exact ru_loop G1 D2 (fun x hx => ⟨(B.1 x hx).1, by have := (B.1 x hx).2.1; omega⟩) (facS n).length FU 0 n (by omega) (fu_big (by have := D2.2.1; omega)) (by omega) (by omega)
  · refine ⟨-1, h, ?_, Fr.rf, fun g G => ⟨g, ?_, Fr.rf⟩⟩
    · show X_units 0 n h = _
      unfold X_units
      by_cases q1 : n < 1
      · exact ifT q1 rfl
      · exact ifF q1 (ifT (by omega) rfl)
    · show R_units 27 n g = _
      unfold R_units
      refine rin_if ?_; rw [if_neg q]
/-! ### smooth, bound -/
theorem mul_ge {a b : Int} (ha : 1 ≤ a) (hb : 1 ≤ b) : a ≤ a * b ∧ b ≤ a * b := by
  have x := Int.mul_le_mul (Int.le_refl a) hb (by omega) (by omega)
  have y := Int.mul_le_mul ha (Int.le_refl b) (by omega) (by omega)
  omega
theorem sh_loop {h : AH} {l : List FE} (H : Sh h) (D : FD h 24 l) {i : Nat} (hi : i < l.length) (h2 : 2 ≤ (ge l i).1) (h30 : (ge l i).2 ≤ 30) : ∀ (m f : Nat) (t k : Int), k + m = (ge l i).2 → 0 ≤ k → m < f → 1 ≤ t → t * (ge l i).1 ^ m ≤ 1000000001 → Factors_share_16 f 24 i t k h = some (t * (ge l i).1 ^ m) := by
  have l9 := D.2.2.1
  have c := D.2.2.2 i hi
  rw [show (24 : Int) + 1 = 25 from rfl, show (24 : Int) + 2 = 26 from rfl] at c
  intro m
  induction m with
  | zero =>
    intro f t k hk h0 hf h1 hb
    obtain ⟨f, rfl, -⟩ := fu_pos hf
    unfold Factors_share_16
    refine gB H.t24 ?_
    rw [H.p24_1]
    refine gB ⟨H.t26, by omega, by rw [H.l26]; omega⟩ ?_
    rw [c.2, Int.pow_zero, Int.mul_one]
    exact ifF (by omega) rfl
  | succ m ih =>
    intro f t k hk h0 hf h1 hb
    obtain ⟨f, rfl, hf⟩ := fu_pos hf
    have w := pw_1 h2 m
    rw [Int.pow_succ, Int.mul_comm ((ge l i).1 ^ m), ← Int.mul_assoc] at hb ⊢
    have w2 := mul_ge h1 (show 1 ≤ (ge l i).1 by omega)
    have w3 := mul_ge (show 1 ≤ t * (ge l i).1 by omega) w
    rw [← ih f (t * (ge l i).1) (k + 1) (by omega) (by omega) (by omega) (by omega) hb]
    conv => lhs; unfold Factors_share_16
    refine gB H.t24 ?_
    rw [H.p24_1]
    refine gB ⟨H.t26, by omega, by rw [H.l26]; omega⟩ ?_
    rw [c.2]
    refine ifT (by omega) ?_
    refine gB H.t24 ?_
    rw [H.p24_0]
    refine gB ⟨H.t25, by omega, by rw [H.l25]; omega⟩ ?_
    rw [c.1, w32_e (z := t * (ge l i).1) (by omega), w32_e (z := k + 1) (by omega)]
theorem s_share {h : AH} {l : List FE} (H : Sh h) (D : FD h 24 l) {i : Nat} (hi : i < l.length) (h2 : 2 ≤ (ge l i).1) (h0 : 1 ≤ (ge l i).2) (h30 : (ge l i).2 ≤ 30) (hb : (ge l i).1 ^ (ge l i).2.toNat ≤ 1000000001) : Factors_share 24 i h = some ((ge l i).1 ^ (ge l i).2.toNat) := by
  unfold Factors_share
  refine ifF (by omega) ?_
  refine gB H.t24 ?_
  rw [D.2.1]
  refine ifT (by omega) ?_
  rw [sh_loop H D hi h2 h30 (ge l i).2.toNat FU 1 0 (by omega) (by omega) (fu_big (by omega)) (by omega) (by rw [Int.one_mul]; exact hb), Int.one_mul]
theorem sb_in {h : AH} {l : List FE} (H : Sh h) (D : FCM h l) {i : Nat} (hi : i < l.length) (h2 : 2 ≤ (ge l i).1) (h30 : (ge l i).2 ≤ 30) {k5 : Int → Int → Int → Int → AH → Option Int} {b : Int} : ∀ (m f : Nat) (t k : Int), k + m = (ge l i).2 → 0 ≤ k → m < f → 1 ≤ t → t * (ge l i).1 ^ m ≤ 1000000001 → R_smoothBy_28 k5 f 27 b t i k h = k5 27 b (t * (ge l i).1 ^ m) ((i : Int) + 1) h := by
  have l9 := D.2.1
  have c := D.2.2 i hi
  intro m
  induction m with
  | zero =>
    intro f t k hk h0 hf h1 hb
    obtain ⟨f, rfl, -⟩ := fu_pos hf
    unfold R_smoothBy_28
    refine gB H.t27 ?_
    rw [H.p27_5]
    refine gB ⟨H.t32, by omega, by rw [H.l32]; omega⟩ ?_
    rw [c.2, Int.pow_zero, Int.mul_one, w32_e (z := (i : Int) + 1) (by omega)]
    exact ifF (by omega) rfl
  | succ m ih =>
    intro f t k hk h0 hf h1 hb
    obtain ⟨f, rfl, hf⟩ := fu_pos hf
    have w := pw_1 h2 m
    rw [Int.pow_succ, Int.mul_comm ((ge l i).1 ^ m), ← Int.mul_assoc] at hb ⊢
    have w2 := mul_ge h1 (show 1 ≤ (ge l i).1 by omega)
    have w3 := mul_ge (show 1 ≤ t * (ge l i).1 by omega) w
    rw [← ih f (t * (ge l i).1) (k + 1) (by omega) (by omega) (by omega) (by omega) hb]
    conv => lhs; unfold R_smoothBy_28
    refine gB H.t27 ?_
    rw [H.p27_5]
    refine gB ⟨H.t32, by omega, by rw [H.l32]; omega⟩ ?_
    rw [c.2]
    refine ifT (by omega) ?_
    refine gB H.t27 ?_
    rw [H.p27_4]
    refine gB ⟨H.t31, by omega, by rw [H.l31]; omega⟩ ?_
    rw [c.1, w64_e (z := t * (ge l i).1) (by omega), w32_e (z := k + 1) (by omega)]
def smS (b : Int) (l : List FE) : Int := prE (l.filter fun x => decide (x.1 ≤ b))
theorem sm_y {b : Int} {x : FE} {l : List FE} (h : x.1 ≤ b) : smS b (x :: l) = x.1 ^ x.2.toNat * smS b l := by
  unfold smS
  have hp : (fun x : FE => decide (x.1 ≤ b)) x = true := decide_eq_true h
  rw [List.filter_cons_of_pos (p := fun x : FE => decide (x.1 ≤ b)) hp]
  rfl
theorem sm_n {b : Int} {x : FE} {l : List FE} (h : ¬ x.1 ≤ b) : smS b (x :: l) = smS b l := by
  unfold smS
  have hp : ¬ (fun x : FE => decide (x.1 ≤ b)) x = true := by show ¬ decide (x.1 ≤ b) = true; rw [decide_eq_false h]; decide
  rw [List.filter_cons_of_neg (p := fun x : FE => decide (x.1 ≤ b)) hp]
theorem sm_0 {b : Int} {l : List FE} (h : ∀ x ∈ l, b < x.1) : smS b l = 1 := by
  unfold smS
  rw [List.filter_eq_nil_iff.mpr fun x hx => by have := h x hx; simp; omega]
  rfl
theorem sm_all {b : Int} : ∀ {l : List FE}, (∀ x ∈ l, x.1 ≤ b) → smS b l = prE l
  | [], _ => rfl
  | x :: l, h => by
    rw [sm_y (h x List.mem_cons_self), sm_all fun y hy => h y (List.mem_cons_of_mem x hy)]
    rfl
theorem sm_pos {b : Int} {l : List FE} (h : ∀ x ∈ l, 2 ≤ x.1) : 1 ≤ smS b l := pr_pos fun x hx => h x ((List.mem_filter.mp hx).1)
theorem sm_a {b : Int} (l k : List FE) : smS b (l ++ k) = smS b l * smS b k := by
  unfold smS
  rw [List.filter_append, prE_a]
theorem sm_le {b : Int} : ∀ {l : List FE}, (∀ x ∈ l, 2 ≤ x.1) → smS b l ≤ prE l
  | [], _ => Int.le_refl _
  | x :: l, h => by
    have a := sm_le (b := b) fun y hy => h y (List.mem_cons_of_mem x hy)
    have p := sm_pos (b := b) fun y hy => h y (List.mem_cons_of_mem x hy)
    have w := pw_1 (h x List.mem_cons_self) x.2.toNat
    show _ ≤ x.1 ^ x.2.toNat * prE l
    by_cases q : x.1 ≤ b
    · rw [sm_y q]
      exact Int.mul_le_mul (Int.le_refl _) a (by omega) (by omega)
    · rw [sm_n q]
      have := (mul_ge w (show 1 ≤ prE l by omega)).2
      omega
theorem so_dr {l : List FE} (h : l.Pairwise fun x y => x.1 < y.1) {i : Nat} (hi : i < l.length) : ∀ x ∈ l.drop (i + 1), (ge l i).1 < x.1 := by
  have : (l.drop i).Pairwise fun x y => x.1 < y.1 := h.sublist (List.drop_sublist i l)
  rw [ge_dr hi] at this
  exact (List.pairwise_cons.mp this).1
theorem smb_loop {h : AH} {l : List FE} {N : Int} (H : Sh h) (D : FCM h l) (B : fcB l N) {b : Int} : ∀ (m f i : Nat) (t : Int), i + m = l.length → m < f → 1 ≤ t → t * prE (l.drop i) ≤ 1000000001 → R_smoothBy_5 f 27 b t i h = some (t * smS b (l.drop i)) := by
  have l9 := D.2.1
  intro m
  induction m with
  | zero =>
    intro f i t hi hf h1 hb
    obtain ⟨f, rfl, -⟩ := fu_pos hf
    unfold R_smoothBy_5
    refine gB H.t27 ?_
    rw [D.1, List.drop_of_length_le (by omega)]
    refine ifF (by omega) ?_
    show some t = some (t * 1)
    rw [Int.mul_one]
  | succ m ih =>
    intro f i t hi hf h1 hb
    obtain ⟨f, rfl, hf⟩ := fu_pos hf
    have hx := B.1 _ (ge_mem (l := l) (i := i) (by omega))
    have c := (D.2.2 i (by omega)).1
    have hd : ∀ x ∈ l.drop (i + 1), 2 ≤ x.1 := fun x hx => (B.1 x (dr_mem hx)).1
    have pp := pr_pos hd
    have w := pw_1 hx.1 (ge l i).2.toNat
    rw [ge_dr (by omega : i < l.length)] at hb ⊢
    rw [show prE (ge l i :: l.drop (i + 1)) = (ge l i).1 ^ (ge l i).2.toNat * prE (l.drop (i + 1)) from rfl, ← Int.mul_assoc] at hb
    have w2 := mul_ge h1 w
    have w3 := mul_ge (show 1 ≤ t * (ge l i).1 ^ (ge l i).2.toNat by omega) pp
    have w4 := Int.mul_le_mul w2.1 (Int.le_refl (prE (l.drop (i + 1)))) (by omega) (by omega)
    unfold R_smoothBy_5
    refine gB H.t27 ?_
    rw [D.1]
    refine ifT (by omega) ?_
    refine gB H.t27 ?_
    rw [H.p27_4]
    refine gB ⟨H.t31, by omega, by rw [H.l31]; omega⟩ ?_
    rw [c]
    by_cases q : (ge l i).1 ≤ b
    · refine ifF (by omega) ?_
      rw [sb_in H D (by omega : i < l.length) hx.1 hx.2.2.2 (ge l i).2.toNat FU t 0 (by omega) (by omega) (fu_big (by omega)) h1 (by omega), sm_y q, ← Int.mul_assoc]
      exact ih f (i + 1) _ (by omega) (by omega) (by omega) hb
    · refine ifT (by omega) ?_
      rw [sm_n q, w32_e (z := (i : Int) + 1) (by omega)]
      exact ih f (i + 1) _ (by omega) (by omega) (by omega) (by omega)
theorem s_smoothBy {h : AH} {l : List FE} {N : Int} (H : Sh h) (D : FCM h l) (B : fcB l N) (hN : N ≤ 1000000001) {b : Int} : R_smoothBy 27 b h = some (smS b l) := by
  unfold R_smoothBy
  have := smb_loop H D B (b := b) l.length FU 0 1 (by omega) (fu_big (by have := D.2.1; omega)) (by omega) (by rw [Int.one_mul, List.drop_zero, B.2.2]; exact hN)
  rw [Int.one_mul, List.drop_zero] at this
  exact this
theorem xs_loop {h : AH} {l : List FE} {N : Int} (H : Sh h) (D : FD h 24 l) (B : fcB l N) {b : Int} : ∀ (m f i : Nat) (t : Int), i + m = l.length → m < f → 1 ≤ t → t * prE (l.drop i) ≤ 1000000001 → X_smooth_26 f 0 b t i h = some (t * smS b (l.drop i), h) := by
  have l9 := D.2.2.1
  intro m
  induction m with
  | zero =>
    intro f i t hi hf h1 hb
    obtain ⟨f, rfl, -⟩ := fu_pos hf
    unfold X_smooth_26
    refine gB H.t0 ?_
    rw [H.p0_5]
    refine gB H.t24 ?_
    rw [D.2.1, List.drop_of_length_le (by omega)]
    refine ifF (by omega) ?_
    show some (t, h) = some (t * 1, h)
    rw [Int.mul_one]
  | succ m ih =>
    intro f i t hi hf h1 hb
    obtain ⟨f, rfl, hf⟩ := fu_pos hf
    have hx := B.1 _ (ge_mem (l := l) (i := i) (by omega))
    have c := (D.2.2.2 i (by omega)).1
    rw [show (24 : Int) + 1 = 25 from rfl] at c
    have hd : ∀ x ∈ l.drop (i + 1), 2 ≤ x.1 := fun x hx => (B.1 x (dr_mem hx)).1
    have so := so_dr B.2.1 (i := i) (by omega)
    have pp := pr_pos hd
    have w := pw_1 hx.1 (ge l i).2.toNat
    rw [ge_dr (by omega : i < l.length)] at hb ⊢
    rw [show prE (ge l i :: l.drop (i + 1)) = (ge l i).1 ^ (ge l i).2.toNat * prE (l.drop (i + 1)) from rfl, ← Int.mul_assoc] at hb
    have w2 := mul_ge h1 w
    have w3 := mul_ge (show 1 ≤ t * (ge l i).1 ^ (ge l i).2.toNat by omega) pp
    unfold X_smooth_26
    refine gB H.t0 ?_
    rw [H.p0_5]
    refine gB H.t24 ?_
    rw [D.2.1]
    refine ifT (by omega) ?_
    refine gB H.t0 ?_
    refine gB H.t24 ?_
    rw [H.p24_0]
    refine gB ⟨H.t25, by omega, by rw [H.l25]; omega⟩ ?_
    rw [c]
    by_cases q : (ge l i).1 ≤ b
    · refine ifF (by omega) ?_
      refine gB H.t0 ?_
      refine gB H.t24 ?_
      refine cB (s_share H D (by omega : i < l.length) hx.1 hx.2.2.1 hx.2.2.2 (by omega)) ?_
      rw [w32_e (z := t * (ge l i).1 ^ (ge l i).2.toNat) (by omega), w32_e (z := (i : Int) + 1) (by omega), sm_y q, ← Int.mul_assoc]
      exact ih f (i + 1) _ (by omega) (by omega) (by omega) hb
    · refine ifT (by omega) ?_
      rw [sm_n q, sm_0 fun x hx => by have := so x hx; omega, Int.mul_one]
theorem q_smooth (hM : MRok) (n b : Int) : nCall (FK 24) XK (fun h => X_smooth 0 n b h) (fun g => R_smooth 27 n b g) := by
  intro h H
  by_cases q : 2 ≤ n ∧ n ≤ 1000000000
  · by_cases q1 : b < 0
    · refine ⟨-1, h, ?_, Fr.rf, fun g G => ⟨g, ?_, Fr.rf⟩⟩
      · show X_smooth 0 n b h = _
        unfold X_smooth; refine num_if ?_; rw [if_pos q]; exact ifT q1 rfl
      · show R_smooth 27 n b g = _
        unfold R_smooth; refine rnum_if ?_; rw [if_pos q]; exact ifT q1 rfl
    · obtain ⟨h1, e1, F1, D1⟩ := s_split hM (H.fo (Or.inr (Or.inr rfl))) (n := n) (by omega) (by omega)
      have H1 := H.fr F1 fun b j => FK24
      have B := fcS (n := n) (by omega) (by omega)
      refine ⟨smS b (facS n), h1, ?_, F1, fun g G => ?_⟩
      · show X_smooth 0 n b h = _
        unfold X_smooth; refine num_if ?_; rw [if_pos q]
        refine ifF q1 ?_
        refine gB H.t0 ?_
        rw [H.p0_5]
        refine gB H.t24 ?_
        refine cB e1 ?_
        have := xs_loop H1 D1 B (b := b) (facS n).length FU 0 1 (by omega) (fu_big (by have := D1.2.2.1; omega)) (by omega) (by rw [Int.one_mul, List.drop_zero, B.2.2]; omega)
        rw [Int.one_mul, List.drop_zero] at this
        exact this
      · obtain ⟨g1, e2, F2, D2⟩ := s_laysFactors G (n := n) (by omega) (by omega)
        have G1 := G.fr F2 fun b j => XK.mut
        refine ⟨g1, ?_, F2⟩
        show R_smooth 27 n b g = _
        unfold R_smooth; refine rnum_if ?_; rw [if_pos q]
        refine ifF q1 ?_
        refine gB G.t27 ?_
        refine cB e2 ?_
        refine gB G1.t27 ?_
        refine cB (s_smoothBy G1 D2 B (by omega)) ?_
        have a := sm_pos (b := b) fun x hx => (B.1 x hx).1
        have c := sm_le (b := b) fun x hx => (B.1 x hx).1
        rw [B.2.2] at c
        rw [w32_e (by omega)]
  · refine ⟨-1, h, ?_, Fr.rf, fun g G => ⟨g, ?_, Fr.rf⟩⟩
    · show X_smooth 0 n b h = _
      unfold X_smooth; refine num_if ?_; rw [if_neg q]
    · show R_smooth 27 n b g = _
      unfold R_smooth; refine rnum_if ?_; rw [if_neg q]
/-- the product of the first i shares is the part by primes up to the i-th -/
theorem sm_tk {l : List FE} (h : l.Pairwise fun x y => x.1 < y.1) (h2 : ∀ x ∈ l, 2 ≤ x.1) {i : Nat} (hi : i < l.length) : smS (ge l i).1 l = prE (l.take i) * (ge l i).1 ^ (ge l i).2.toNat := by
  have e : l = l.take i ++ (ge l i :: l.drop (i + 1)) := by rw [← ge_dr hi, List.take_append_drop]
  have p := h
  rw [e] at p
  have p2 := (List.pairwise_append.mp p).2.2
  have key : ∀ (y : FE) (A C : List FE), (∀ x ∈ A, x.1 < y.1) → (∀ x ∈ C, y.1 < x.1) → smS y.1 (A ++ y :: C) = prE A * y.1 ^ y.2.toNat := fun y A C hA hC => by
    rw [sm_a, sm_all fun x hx => Int.le_of_lt (hA x hx), sm_y (Int.le_refl _), sm_0 hC, Int.mul_one]
  have := key (ge l i) (l.take i) (l.drop (i + 1)) (fun x hx => p2 x hx _ List.mem_cons_self) (so_dr h hi)
  rw [← e] at this
  exact this
theorem tk_s1 {l : List FE} {i : Nat} (hi : i < l.length) : prE (l.take (i + 1)) = prE (l.take i) * (ge l i).1 ^ (ge l i).2.toNat := by
  have : l.take (i + 1) = l.take i ++ [ge l i] := by
    rw [List.take_succ_eq_append_getElem hi]
    congr 2
    unfold ge
    rw [List.getD_eq_getElem?_getD, List.getElem?_eq_getElem hi]
    rfl
  rw [this, prE_a]
  show _ = _ * _
  congr 1
  exact Int.mul_one _
theorem bd_both {l : List FE} {n : Int} (hn : 3 ≤ n ∧ n ≤ 1000000000) (B : fcB l (n - 1)) (hne : l ≠ []) {h : AH} (H : Sh h) (D : FD h 24 l) {g : AH} (G : Sh g) (E : FCM g l) : ∀ (m f f' i : Nat), i + m = l.length → 1 ≤ m → m < f → m < f' → ∃ r, X_bound_29 f 0 n (prE (l.take i)) i h = some (r, h) ∧ R_bound_26 f' 27 n i g = some (r, g) := by
  have l9 := D.2.2.1
  have h2 : ∀ x ∈ l, 2 ≤ x.1 := fun x hx => (B.1 x hx).1
  intro m
  induction m with
  | zero => intro f f' i hi h1; omega
  | succ m ih =>
    intro f f' i hi h1 hf hf'
    obtain ⟨f, rfl, hf⟩ := fu_pos hf
    obtain ⟨f', rfl, hf'⟩ := fu_pos hf'
    have il : i < l.length := by omega
    have hx := B.1 _ (ge_mem il)
    have c := (D.2.2.2 i il).1
    rw [show (24 : Int) + 1 = 25 from rfl] at c
    have c' := (E.2.2 i il).1
    have st := sm_tk B.2.1 h2 il
    have ts := tk_s1 il
    have tot : prE (l.take (i + 1)) * prE (l.drop (i + 1)) = n - 1 := by rw [← prE_a, List.take_append_drop]; exact B.2.2
    have p1 := pr_pos (l := l.take (i + 1)) fun x hx => h2 x (List.mem_of_mem_take hx)
    have p0 := pr_pos (l := l.take i) fun x hx => h2 x (List.mem_of_mem_take hx)
    have p2 := pr_pos (l := l.drop (i + 1)) fun x hx => h2 x (dr_mem hx)
    have p3 := (mul_ge p1 p2).1
    have w := pw_1 hx.1 (ge l i).2.toNat
    have w2 := mul_ge p0 w
    rw [← ts] at w2
    have sq := mul_bd (a := prE (l.take (i + 1))) (b := prE (l.take (i + 1))) (by omega) (by omega)
    have sb := s_smoothBy G E B (by omega) (b := (ge l i).1)
    rw [st, ← ts] at sb
    have xs : ∀ {r}, (if n < prE (l.take (i + 1)) * prE (l.take (i + 1)) then some ((ge l i).1, h) else X_bound_29 f 0 n (prE (l.take (i + 1))) ((i + 1 : Nat) : Int) h) = r → X_bound_29 (f + 1) 0 n (prE (l.take i)) i h = r := by
      rintro r rfl
      conv => lhs; unfold X_bound_29
      refine gB H.t0 ?_
      rw [H.p0_5]
      refine gB H.t24 ?_
      rw [D.2.1]
      refine ifT (by omega) ?_
      refine gB H.t0 ?_
      refine gB H.t24 ?_
      refine cB (s_share H D il hx.1 hx.2.2.1 hx.2.2.2 (by omega)) ?_
      rw [← ts, w64_e (z := prE (l.take (i + 1))) (by omega), w64_e (z := prE (l.take (i + 1)) * prE (l.take (i + 1))) (by omega), w32_e (z := (i : Int) + 1) (by omega)]
      congr 1
      refine gB H.t0 ?_
      refine gB H.t24 ?_
      rw [H.p24_0]
      refine gB ⟨H.t25, by omega, by rw [H.l25]; omega⟩ ?_
      rw [c]
    have rs : ∀ {r}, (if n < prE (l.take (i + 1)) * prE (l.take (i + 1)) then some ((ge l i).1, g) else R_bound_26 f' 27 n ((i + 1 : Nat) : Int) g) = r → R_bound_26 (f' + 1) 27 n i g = r := by
      rintro r rfl
      conv => lhs; unfold R_bound_26
      refine gB G.t27 ?_
      rw [G.p27_4]
      refine gB ⟨G.t31, by omega, by rw [G.l31]; omega⟩ ?_
      rw [c']
      refine gB G.t27 ?_
      refine cB sb ?_
      refine gB G.t27 ?_
      refine gB ⟨G.t31, by omega, by rw [G.l31]; omega⟩ ?_
      rw [c']
      refine gB G.t27 ?_
      refine cB sb ?_
      rw [w64_e (z := prE (l.take (i + 1)) * prE (l.take (i + 1))) (by omega), w32_e (z := (i : Int) + 1) (by omega)]
      congr 1
      refine gB G.t27 ?_
      refine gB ⟨G.t31, by omega, by rw [G.l31]; omega⟩ ?_
      rw [c']
    by_cases z : n < prE (l.take (i + 1)) * prE (l.take (i + 1))
    · exact ⟨_, xs (if_pos z), rs (if_pos z)⟩
    · by_cases m0 : 1 ≤ m
      · obtain ⟨r, e1, e2⟩ := ih f f' (i + 1) (by omega) m0 (by omega) (by omega)
        exact ⟨r, xs ((if_neg z).trans e1), rs ((if_neg z).trans e2)⟩
      · exfalso
        have : prE (l.take (i + 1)) = n - 1 := by rw [List.take_of_length_le (by omega)]; exact B.2.2
        rw [this] at z
        have := Int.mul_le_mul (Int.le_refl (n - 1)) (show 2 ≤ n - 1 by omega) (by omega) (by omega)
        omega
theorem q_bound (hM : MRok) (n : Int) : nCall (FK 24) XK (fun h => X_bound 0 n h) (fun g => R_bound 27 n g) := by
  intro h H
  by_cases q : 3 ≤ n ∧ n ≤ 1000000000
  · obtain ⟨h1, e1, F1, D1⟩ := s_split hM (H.fo (Or.inr (Or.inr rfl))) (n := n - 1) (by omega) (by omega)
    have H1 := H.fr F1 fun b j => FK24
    have B := fcS (n := n - 1) (by omega) (by omega)
    have ne : facS (n - 1) ≠ [] := fun z => by
      have := B.2.2
      rw [z] at this
      have : (1 : Int) = n - 1 := this
      omega
    have l1 : 1 ≤ (facS (n - 1)).length := List.length_pos_iff.mpr ne
    have pre : ∀ g, Sh g → ∃ r g1, X_bound_29 FU 0 n 1 0 h1 = some (r, h1) ∧ R_bound 27 n g = some (r, g1) ∧ Fr XK g g1 := by
      intro g G
      obtain ⟨g1, e2, F2, D2⟩ := s_laysFactors G (n := n - 1) (by omega) (by omega)
      have G1 := G.fr F2 fun b j => XK.mut
      obtain ⟨r, a, b⟩ := bd_both q B ne H1 D1 G1 D2 (facS (n - 1)).length FU FU 0 (by omega) l1 (fu_big (by have := D2.2.1; omega)) (fu_big (by have := D2.2.1; omega))
      refine ⟨r, g1, a, ?_, F2⟩
      unfold R_bound
      refine rin_if ?_; rw [if_pos q]
      refine gB G.t27 ?_
      rw [w64_e (by omega)]
      exact cB e2 b
    obtain ⟨r, g0, a, -, -⟩ := pre h H
    refine ⟨r, h1, ?_, F1, fun g G => ?_⟩
    · show X_bound 0 n h = _
      unfold X_bound; refine num_if ?_; rw [if_pos (by omega)]
      refine ifF (by omega) ?_
      refine gB H.t0 ?_
      rw [H.p0_5]
      refine gB H.t24 ?_
      rw [w32_e (by omega)]
      exact cB e1 a
    · obtain ⟨r', g1, a', b', F'⟩ := pre g G
      have : r = r' := by rw [a] at a'; injection a' with a'; exact congrArg Prod.fst a'
      exact ⟨g1, this ▸ b', F'⟩
  · refine ⟨-1, h, ?_, Fr.rf, fun g G => ⟨g, ?_, Fr.rf⟩⟩
    · show X_bound 0 n h = _
      unfold X_bound
      refine num_if ?_
      by_cases q1 : 2 ≤ n ∧ n ≤ 1000000000
      · rw [if_pos q1]; exact ifT (by omega) rfl
      · rw [if_neg q1]
    · show R_bound 27 n g = _
      unfold R_bound; refine rin_if ?_; rw [if_neg q]
