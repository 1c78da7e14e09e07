/-! the calls on numbers, side by side -/
theorem num_sim {X R : AH → Option (Int × AH)} (c : nCall (FK 24) XK X R) : sim X R := nc_sim c (fun b j z => ⟨FK24 z, by unfold FK at z; omega⟩) fun b j z => ⟨⟨z.mut, by unfold XK at z; omega⟩, by unfold XK at z; omega⟩
theorem s_prime (hM : MRok) (n i : Int) : sim (fun h => X_prime 0 n i h) (fun g => R_prime 27 n i g) := num_sim (q_prime hM n i)
theorem s_units (hM : MRok) (n : Int) : sim (fun h => X_units 0 n h) (fun g => R_units 27 n g) := num_sim (q_units hM n)
theorem s_smooth (hM : MRok) (n b : Int) : sim (fun h => X_smooth 0 n b h) (fun g => R_smooth 27 n b g) := num_sim (q_smooth hM n b)
theorem s_bound (hM : MRok) (n : Int) : sim (fun h => X_bound 0 n h) (fun g => R_bound 27 n g) := num_sim (q_bound hM n)
theorem s_often (n b : Int) : sim (lft (X_often 0 n b)) (lft (R_often 27 n b)) := pc_sim (q_often n b)
theorem s_chase (n c : Int) : sim (lft (X_chase 0 n c)) (lft (R_chase 27 n c)) := pc_sim (q_chase n c)
theorem s_primes (hM : MRok) {a b : Int} (ha : i32 a) (hb : i32 b) : sim (lft (X_primes 0 a b)) (lft (R_primes 27 a b)) := pc_sim (q_primes hM ha hb)
theorem s_next (hM : MRok) {n : Int} (hn : i32 n) : sim (lft (X_next 0 n)) (lft (R_next 27 n)) := pc_sim (q_next hM hn)
theorem s_passes (n a : Int) : sim (lft (X_passes 0 n a)) (lft (R_passes 27 n a)) := pc_sim (q_passes n a)
theorem s_fools (n w : Int) : sim (lft (X_fools 0 n w)) (lft (R_fools 27 n w)) := pc_sim (q_fools n w)
theorem s_power {a k m : Int} (ha : i32 a) (hk : i32 k) (hm : i32 m) : sim (lft (X_power 0 a k m)) (lft (R_power 27 a k m)) := pc_sim (q_power ha hk hm)
theorem s_jacobi {a m : Int} (ha : i32 a) (hm : i32 m) : sim (lft (X_jacobi 0 a m)) (lft (R_jacobi 27 a m)) := pc_sim (q_jacobi ha hm)
theorem s_u {p q k m : Int} (hk : i32 k) : sim (fun h => lft (X_u 0 p q k m) h) (fun g => R_u 27 p q k m g) := by
  refine nc_sim (P := fun _ _ => False) (Q := QK) (fun h H => ?_) (fun b j z => z.elim) fun b j z => ⟨⟨QK.mut z, by unfold QK at z; omega⟩, by unfold QK at z; omega⟩
  obtain ⟨r, e, c⟩ := q_u (p := p) (q := q) (m := m) hk
  exact ⟨r, h, lft_s e, Fr.rf, c⟩
