/-! the methods run as their shallow functions say -/
theorem x_Ledger_init {sc : AS} {d : Nat} (hd : 1 ≤ d) {v0 : Int} {h : AH} {r : AH} (hx : Ledger_init v0 h = some r) : Runs sc d 1 [(2, v0)] h none r := by
  obtain ⟨d, rfl⟩ : ∃ e, d = e + 1 := ⟨d - 1, by omega⟩
  have hd : 0 ≤ d := by omega
  unfold Ledger_init at hx
  refine ⟨⟨aM_1, rfl, Nat.le_of_ble_eq_true rfl⟩, ?_⟩
  show Ev sc d 1 0 [(2, v0)] [] h none r
  obtain ⟨u1, hg, he, hx⟩ := bgd hx
  refine Ev.blk (is := [.aload_n 0, .pop2]) (pc2 := 4) (L2 := [(2, v0)]) (S2 := []) (h2 := h) (by decide +kernel) (by subst he; rfl) (by exact hg) ?_
  clear hg he
  obtain ⟨h2, hg, he, hx⟩ := bgd hx
  refine Ev.blk (is := [.aload_n 0, .sipush 60, .anewarray 3]) (pc2 := 10) (L2 := [(2, v0)]) (S2 := [(2, hNx h), (2, v0)]) (h2 := h2) (by decide +kernel) (by subst he; rfl) (by exact hg) ?_
  clear hg he
  obtain ⟨h3, hg, he, hx⟩ := bgd hx
  refine Ev.blk (is := [.putfield 2200]) (pc2 := 13) (L2 := [(2, v0)]) (S2 := []) (h2 := h3) (by decide +kernel) (by subst he; rfl) (by exact hg) ?_
  clear hg he
  obtain ⟨h4, hg, he, hx⟩ := bgd hx
  refine Ev.blk (is := [.aload_n 0, .sipush 60, .newarray .int]) (pc2 := 18) (L2 := [(2, v0)]) (S2 := [(2, hNx h3), (2, v0)]) (h2 := h4) (by decide +kernel) (by subst he; rfl) (by exact hg) ?_
  clear hg he
  obtain ⟨h5, hg, he, hx⟩ := bgd hx
  refine Ev.blk (is := [.putfield 2201]) (pc2 := 21) (L2 := [(2, v0)]) (S2 := []) (h2 := h5) (by decide +kernel) (by subst he; rfl) (by exact hg) ?_
  clear hg he
  obtain ⟨h6, hg, he, hx⟩ := bgd hx
  refine Ev.blk (is := [.aload_n 0, .sipush 60, .newarray .long]) (pc2 := 26) (L2 := [(2, v0)]) (S2 := [(2, hNx h5), (2, v0)]) (h2 := h6) (by decide +kernel) (by subst he; rfl) (by exact hg) ?_
  clear hg he
  obtain ⟨h7, hg, he, hx⟩ := bgd hx
  refine Ev.blk (is := [.putfield 2202]) (pc2 := 29) (L2 := [(2, v0)]) (S2 := []) (h2 := h7) (by decide +kernel) (by subst he; rfl) (by exact hg) ?_
  clear hg he
  obtain ⟨h8, hg, he, hx⟩ := bgd hx
  refine Ev.blk (is := [.aload_n 0, .sipush 60, .newarray .int]) (pc2 := 34) (L2 := [(2, v0)]) (S2 := [(2, hNx h7), (2, v0)]) (h2 := h8) (by decide +kernel) (by subst he; rfl) (by exact hg) ?_
  clear hg he
  obtain ⟨h9, hg, he, hx⟩ := bgd hx
  refine Ev.blk (is := [.putfield 2203]) (pc2 := 37) (L2 := [(2, v0)]) (S2 := []) (h2 := h9) (by decide +kernel) (by subst he; rfl) (by exact hg) ?_
  clear hg he
  cases hx
  exact Ev.ret (i := .return_) (len := 1) (by decide +kernel) rfl (finOf (t := none) rfl (trivial))
theorem x_Factors_init {sc : AS} {d : Nat} (hd : 1 ≤ d) {v0 : Int} {h : AH} {r : AH} (hx : Factors_init v0 h = some r) : Runs sc d 3 [(2, v0)] h none r := by
  obtain ⟨d, rfl⟩ : ∃ e, d = e + 1 := ⟨d - 1, by omega⟩
  have hd : 0 ≤ d := by omega
  unfold Factors_init at hx
  refine ⟨⟨aM_3, rfl, Nat.le_of_ble_eq_true rfl⟩, ?_⟩
  show Ev sc d 3 0 [(2, v0)] [] h none r
  obtain ⟨u1, hg, he, hx⟩ := bgd hx
  refine Ev.blk (is := [.aload_n 0, .pop2]) (pc2 := 4) (L2 := [(2, v0)]) (S2 := []) (h2 := h) (by decide +kernel) (by subst he; rfl) (by exact hg) ?_
  clear hg he
  obtain ⟨h2, hg, he, hx⟩ := bgd hx
  refine Ev.blk (is := [.aload_n 0, .sipush 9, .newarray .int]) (pc2 := 9) (L2 := [(2, v0)]) (S2 := [(2, hNx h), (2, v0)]) (h2 := h2) (by decide +kernel) (by subst he; rfl) (by exact hg) ?_
  clear hg he
  obtain ⟨h3, hg, he, hx⟩ := bgd hx
  refine Ev.blk (is := [.putfield 200]) (pc2 := 12) (L2 := [(2, v0)]) (S2 := []) (h2 := h3) (by decide +kernel) (by subst he; rfl) (by exact hg) ?_
  clear hg he
  obtain ⟨h4, hg, he, hx⟩ := bgd hx
  refine Ev.blk (is := [.aload_n 0, .sipush 9, .newarray .int]) (pc2 := 17) (L2 := [(2, v0)]) (S2 := [(2, hNx h3), (2, v0)]) (h2 := h4) (by decide +kernel) (by subst he; rfl) (by exact hg) ?_
  clear hg he
  obtain ⟨h5, hg, he, hx⟩ := bgd hx
  refine Ev.blk (is := [.putfield 201]) (pc2 := 20) (L2 := [(2, v0)]) (S2 := []) (h2 := h5) (by decide +kernel) (by subst he; rfl) (by exact hg) ?_
  clear hg he
  cases hx
  exact Ev.ret (i := .return_) (len := 1) (by decide +kernel) rfl (finOf (t := none) rfl (trivial))
theorem x_Finder_init {sc : AS} {d : Nat} (hd : 2 ≤ d) {v0 : Int} {v1 : Int} {h : AH} {r : AH} (hx : Finder_init v0 v1 h = some r) : Runs sc d 2 [(2, v0), (2, v1)] h none r := by
  obtain ⟨d, rfl⟩ : ∃ e, d = e + 1 := ⟨d - 1, by omega⟩
  have hd : 1 ≤ d := by omega
  unfold Finder_init at hx
  refine ⟨⟨aM_2, rfl, Nat.le_of_ble_eq_true rfl⟩, ?_⟩
  show Ev sc d 2 0 [(2, v0), (2, v1)] [] h none r
  obtain ⟨u1, hg, he, hx⟩ := bgd hx
  refine Ev.blk (is := [.aload_n 0, .pop2]) (pc2 := 4) (L2 := [(2, v0), (2, v1)]) (S2 := []) (h2 := h) (by decide +kernel) (by subst he; rfl) (by exact hg) ?_
  clear hg he
  obtain ⟨h2, hg, he, hx⟩ := bgd hx
  refine Ev.blk (is := [.aload_n 0, .new 0]) (pc2 := 8) (L2 := [(2, v0), (2, v1)]) (S2 := [(2, hNx h), (2, v0)]) (h2 := h2) (by decide +kernel) (by subst he; rfl) (by exact trivial) ?_
  clear hg he
  refine Ev.blk (is := [.dup]) (pc2 := 9) (L2 := [(2, v0), (2, v1)]) (S2 := [(2, hNx h), (2, hNx h), (2, v0)]) (h2 := h2) (by decide +kernel) rfl trivial ?_
  obtain ⟨_, hg, -, hx⟩ := bgd hx
  obtain ⟨h4, hc, hx⟩ := bca hx
  refine Ev.call (args := [(2, hNx h)]) (S2 := [(2, hNx h), (2, v0)]) (r1 := none) (h1 := h4) (i := .invokespecial 3) (by decide +kernel) rfl rfl (Nat.le_of_ble_eq_true rfl) (Or.inr (Or.inr ⟨rfl, _, _, rfl, hg⟩)) (x_Factors_init (by omega) hc) ?_
  obtain ⟨h5, hg, he, hx⟩ := bgd hx
  refine Ev.blk (is := [.putfield 1201]) (pc2 := 15) (L2 := [(2, v0), (2, v1)]) (S2 := []) (h2 := h5) (by decide +kernel) (by subst he; rfl) (by exact hg) ?_
  clear hg he
  obtain ⟨h6, hg, he, hx⟩ := bgd hx
  refine Ev.blk (is := [.aload_n 0, .new 0]) (pc2 := 19) (L2 := [(2, v0), (2, v1)]) (S2 := [(2, hNx h5), (2, v0)]) (h2 := h6) (by decide +kernel) (by subst he; rfl) (by exact trivial) ?_
  clear hg he
  refine Ev.blk (is := [.dup]) (pc2 := 20) (L2 := [(2, v0), (2, v1)]) (S2 := [(2, hNx h5), (2, hNx h5), (2, v0)]) (h2 := h6) (by decide +kernel) rfl trivial ?_
  obtain ⟨_, hg, -, hx⟩ := bgd hx
  obtain ⟨h8, hc, hx⟩ := bca hx
  refine Ev.call (args := [(2, hNx h5)]) (S2 := [(2, hNx h5), (2, v0)]) (r1 := none) (h1 := h8) (i := .invokespecial 3) (by decide +kernel) rfl rfl (Nat.le_of_ble_eq_true rfl) (Or.inr (Or.inr ⟨rfl, _, _, rfl, hg⟩)) (x_Factors_init (by omega) hc) ?_
  obtain ⟨h9, hg, he, hx⟩ := bgd hx
  refine Ev.blk (is := [.putfield 1202]) (pc2 := 26) (L2 := [(2, v0), (2, v1)]) (S2 := []) (h2 := h9) (by decide +kernel) (by subst he; rfl) (by exact hg) ?_
  clear hg he
  obtain ⟨h10, hg, he, hx⟩ := bgd hx
  refine Ev.blk (is := [.aload_n 0, .sipush 40, .anewarray 3]) (pc2 := 32) (L2 := [(2, v0), (2, v1)]) (S2 := [(2, hNx h9), (2, v0)]) (h2 := h10) (by decide +kernel) (by subst he; rfl) (by exact hg) ?_
  clear hg he
  obtain ⟨h11, hg, he, hx⟩ := bgd hx
  refine Ev.blk (is := [.putfield 1203]) (pc2 := 35) (L2 := [(2, v0), (2, v1)]) (S2 := []) (h2 := h11) (by decide +kernel) (by subst he; rfl) (by exact hg) ?_
  clear hg he
  obtain ⟨h12, hg, he, hx⟩ := bgd hx
  refine Ev.blk (is := [.aload_n 0, .aload_n 1, .putfield 1200]) (pc2 := 40) (L2 := [(2, v0), (2, v1)]) (S2 := []) (h2 := h12) (by decide +kernel) (by subst he; rfl) (by exact hg) ?_
  clear hg he
  cases hx
  exact Ev.ret (i := .return_) (len := 1) (by decide +kernel) rfl (finOf (t := none) rfl (trivial))
theorem x_Tape_init {sc : AS} {d : Nat} (hd : 1 ≤ d) {v0 : Int} {h : AH} {r : AH} (hx : Tape_init v0 h = some r) : Runs sc d 4 [(2, v0)] h none r := by
  obtain ⟨d, rfl⟩ : ∃ e, d = e + 1 := ⟨d - 1, by omega⟩
  have hd : 0 ≤ d := by omega
  unfold Tape_init at hx
  refine ⟨⟨aM_4, rfl, Nat.le_of_ble_eq_true rfl⟩, ?_⟩
  show Ev sc d 4 0 [(2, v0)] [] h none r
  obtain ⟨u1, hg, he, hx⟩ := bgd hx
  refine Ev.blk (is := [.aload_n 0, .pop2]) (pc2 := 4) (L2 := [(2, v0)]) (S2 := []) (h2 := h) (by decide +kernel) (by subst he; rfl) (by exact hg) ?_
  clear hg he
  obtain ⟨h2, hg, he, hx⟩ := bgd hx
  refine Ev.blk (is := [.aload_n 0, .sipush 400, .newarray .char]) (pc2 := 10) (L2 := [(2, v0)]) (S2 := [(2, hNx h), (2, v0)]) (h2 := h2) (by decide +kernel) (by subst he; rfl) (by exact hg) ?_
  clear hg he
  obtain ⟨h3, hg, he, hx⟩ := bgd hx
  refine Ev.blk (is := [.putfield 7200]) (pc2 := 13) (L2 := [(2, v0)]) (S2 := []) (h2 := h3) (by decide +kernel) (by subst he; rfl) (by exact hg) ?_
  clear hg he
  cases hx
  exact Ev.ret (i := .return_) (len := 1) (by decide +kernel) rfl (finOf (t := none) rfl (trivial))
theorem x_Side_init {sc : AS} {d : Nat} (hd : 1 ≤ d) {v0 : Int} {h : AH} {r : AH} (hx : Side_init v0 h = some r) : Runs sc d 7 [(2, v0)] h none r := by
  obtain ⟨d, rfl⟩ : ∃ e, d = e + 1 := ⟨d - 1, by omega⟩
  have hd : 0 ≤ d := by omega
  unfold Side_init at hx
  refine ⟨⟨aM_7, rfl, Nat.le_of_ble_eq_true rfl⟩, ?_⟩
  show Ev sc d 7 0 [(2, v0)] [] h none r
  obtain ⟨u1, hg, he, hx⟩ := bgd hx
  refine Ev.blk (is := [.aload_n 0, .pop2]) (pc2 := 4) (L2 := [(2, v0)]) (S2 := []) (h2 := h) (by decide +kernel) (by subst he; rfl) (by exact hg) ?_
  clear hg he
  obtain ⟨h2, hg, he, hx⟩ := bgd hx
  refine Ev.blk (is := [.aload_n 0, .sipush 27, .newarray .int]) (pc2 := 9) (L2 := [(2, v0)]) (S2 := [(2, hNx h), (2, v0)]) (h2 := h2) (by decide +kernel) (by subst he; rfl) (by exact hg) ?_
  clear hg he
  obtain ⟨h3, hg, he, hx⟩ := bgd hx
  refine Ev.blk (is := [.putfield 5200]) (pc2 := 12) (L2 := [(2, v0)]) (S2 := []) (h2 := h3) (by decide +kernel) (by subst he; rfl) (by exact hg) ?_
  clear hg he
  cases hx
  exact Ev.ret (i := .return_) (len := 1) (by decide +kernel) rfl (finOf (t := none) rfl (trivial))
theorem x_Line_init {sc : AS} {d : Nat} (hd : 2 ≤ d) {v0 : Int} {h : AH} {r : AH} (hx : Line_init v0 h = some r) : Runs sc d 6 [(2, v0)] h none r := by
  obtain ⟨d, rfl⟩ : ∃ e, d = e + 1 := ⟨d - 1, by omega⟩
  have hd : 1 ≤ d := by omega
  unfold Line_init at hx
  refine ⟨⟨aM_6, rfl, Nat.le_of_ble_eq_true rfl⟩, ?_⟩
  show Ev sc d 6 0 [(2, v0)] [] h none r
  obtain ⟨u1, hg, he, hx⟩ := bgd hx
  refine Ev.blk (is := [.aload_n 0, .pop2]) (pc2 := 4) (L2 := [(2, v0)]) (S2 := []) (h2 := h) (by decide +kernel) (by subst he; rfl) (by exact hg) ?_
  clear hg he
  obtain ⟨h2, hg, he, hx⟩ := bgd hx
  refine Ev.blk (is := [.aload_n 0, .new 5]) (pc2 := 8) (L2 := [(2, v0)]) (S2 := [(2, hNx h), (2, v0)]) (h2 := h2) (by decide +kernel) (by subst he; rfl) (by exact trivial) ?_
  clear hg he
  refine Ev.blk (is := [.dup]) (pc2 := 9) (L2 := [(2, v0)]) (S2 := [(2, hNx h), (2, hNx h), (2, v0)]) (h2 := h2) (by decide +kernel) rfl trivial ?_
  obtain ⟨_, hg, -, hx⟩ := bgd hx
  obtain ⟨h4, hc, hx⟩ := bca hx
  refine Ev.call (args := [(2, hNx h)]) (S2 := [(2, hNx h), (2, v0)]) (r1 := none) (h1 := h4) (i := .invokespecial 7) (by decide +kernel) rfl rfl (Nat.le_of_ble_eq_true rfl) (Or.inr (Or.inr ⟨rfl, _, _, rfl, hg⟩)) (x_Side_init (by omega) hc) ?_
  obtain ⟨h5, hg, he, hx⟩ := bgd hx
  refine Ev.blk (is := [.putfield 3200]) (pc2 := 15) (L2 := [(2, v0)]) (S2 := []) (h2 := h5) (by decide +kernel) (by subst he; rfl) (by exact hg) ?_
  clear hg he
  obtain ⟨h6, hg, he, hx⟩ := bgd hx
  refine Ev.blk (is := [.aload_n 0, .new 5]) (pc2 := 19) (L2 := [(2, v0)]) (S2 := [(2, hNx h5), (2, v0)]) (h2 := h6) (by decide +kernel) (by subst he; rfl) (by exact trivial) ?_
  clear hg he
  refine Ev.blk (is := [.dup]) (pc2 := 20) (L2 := [(2, v0)]) (S2 := [(2, hNx h5), (2, hNx h5), (2, v0)]) (h2 := h6) (by decide +kernel) rfl trivial ?_
  obtain ⟨_, hg, -, hx⟩ := bgd hx
  obtain ⟨h8, hc, hx⟩ := bca hx
  refine Ev.call (args := [(2, hNx h5)]) (S2 := [(2, hNx h5), (2, v0)]) (r1 := none) (h1 := h8) (i := .invokespecial 7) (by decide +kernel) rfl rfl (Nat.le_of_ble_eq_true rfl) (Or.inr (Or.inr ⟨rfl, _, _, rfl, hg⟩)) (x_Side_init (by omega) hc) ?_
  obtain ⟨h9, hg, he, hx⟩ := bgd hx
  refine Ev.blk (is := [.putfield 3201]) (pc2 := 26) (L2 := [(2, v0)]) (S2 := []) (h2 := h9) (by decide +kernel) (by subst he; rfl) (by exact hg) ?_
  clear hg he
  obtain ⟨h10, hg, he, hx⟩ := bgd hx
  refine Ev.blk (is := [.aload_n 0, .iconst (-1), .putfield 3006]) (pc2 := 31) (L2 := [(2, v0)]) (S2 := []) (h2 := h10) (by decide +kernel) (by subst he; rfl) (by exact hg) ?_
  clear hg he
  cases hx
  exact Ev.ret (i := .return_) (len := 1) (by decide +kernel) rfl (finOf (t := none) rfl (trivial))
theorem x_Reader_init {sc : AS} {d : Nat} (hd : 3 ≤ d) {v0 : Int} {v1 : Int} {v2 : Int} {h : AH} {r : AH} (hx : Reader_init v0 v1 v2 h = some r) : Runs sc d 5 [(2, v0), (2, v1), (2, v2)] h none r := by
  obtain ⟨d, rfl⟩ : ∃ e, d = e + 1 := ⟨d - 1, by omega⟩
  have hd : 2 ≤ d := by omega
  unfold Reader_init at hx
  refine ⟨⟨aM_5, rfl, Nat.le_of_ble_eq_true rfl⟩, ?_⟩
  show Ev sc d 5 0 [(2, v0), (2, v1), (2, v2)] [] h none r
  obtain ⟨u1, hg, he, hx⟩ := bgd hx
  refine Ev.blk (is := [.aload_n 0, .pop2]) (pc2 := 4) (L2 := [(2, v0), (2, v1), (2, v2)]) (S2 := []) (h2 := h) (by decide +kernel) (by subst he; rfl) (by exact hg) ?_
  clear hg he
  obtain ⟨h2, hg, he, hx⟩ := bgd hx
  refine Ev.blk (is := [.aload_n 0, .new 3]) (pc2 := 8) (L2 := [(2, v0), (2, v1), (2, v2)]) (S2 := [(2, hNx h), (2, v0)]) (h2 := h2) (by decide +kernel) (by subst he; rfl) (by exact trivial) ?_
  clear hg he
  refine Ev.blk (is := [.dup]) (pc2 := 9) (L2 := [(2, v0), (2, v1), (2, v2)]) (S2 := [(2, hNx h), (2, hNx h), (2, v0)]) (h2 := h2) (by decide +kernel) rfl trivial ?_
  obtain ⟨_, hg, -, hx⟩ := bgd hx
  obtain ⟨h4, hc, hx⟩ := bca hx
  refine Ev.call (args := [(2, hNx h)]) (S2 := [(2, hNx h), (2, v0)]) (r1 := none) (h1 := h4) (i := .invokespecial 6) (by decide +kernel) rfl rfl (Nat.le_of_ble_eq_true rfl) (Or.inr (Or.inr ⟨rfl, _, _, rfl, hg⟩)) (x_Line_init (by omega) hc) ?_
  obtain ⟨h5, hg, he, hx⟩ := bgd hx
  refine Ev.blk (is := [.putfield 4202]) (pc2 := 15) (L2 := [(2, v0), (2, v1), (2, v2)]) (S2 := []) (h2 := h5) (by decide +kernel) (by subst he; rfl) (by exact hg) ?_
  clear hg he
  obtain ⟨h6, hg, he, hx⟩ := bgd hx
  refine Ev.blk (is := [.aload_n 0, .aload_n 1, .putfield 4200]) (pc2 := 20) (L2 := [(2, v0), (2, v1), (2, v2)]) (S2 := []) (h2 := h6) (by decide +kernel) (by subst he; rfl) (by exact hg) ?_
  clear hg he
  obtain ⟨h7, hg, he, hx⟩ := bgd hx
  refine Ev.blk (is := [.aload_n 0, .aload_n 2, .putfield 4201]) (pc2 := 25) (L2 := [(2, v0), (2, v1), (2, v2)]) (S2 := []) (h2 := h7) (by decide +kernel) (by subst he; rfl) (by exact hg) ?_
  clear hg he
  cases hx
  exact Ev.ret (i := .return_) (len := 1) (by decide +kernel) rfl (finOf (t := none) rfl (trivial))
theorem x_Speller_init {sc : AS} {d : Nat} (hd : 1 ≤ d) {v0 : Int} {h : AH} {r : AH} (hx : Speller_init v0 h = some r) : Runs sc d 8 [(2, v0)] h none r := by
  obtain ⟨d, rfl⟩ : ∃ e, d = e + 1 := ⟨d - 1, by omega⟩
  have hd : 0 ≤ d := by omega
  unfold Speller_init at hx
  refine ⟨⟨aM_8, rfl, Nat.le_of_ble_eq_true rfl⟩, ?_⟩
  show Ev sc d 8 0 [(2, v0)] [] h none r
  obtain ⟨u1, hg, he, hx⟩ := bgd hx
  refine Ev.blk (is := [.aload_n 0, .pop2]) (pc2 := 4) (L2 := [(2, v0)]) (S2 := []) (h2 := h) (by decide +kernel) (by subst he; rfl) (by exact hg) ?_
  clear hg he
  obtain ⟨h2, hg, he, hx⟩ := bgd hx
  refine Ev.blk (is := [.aload_n 0, .sipush 400, .newarray .char]) (pc2 := 10) (L2 := [(2, v0)]) (S2 := [(2, hNx h), (2, v0)]) (h2 := h2) (by decide +kernel) (by subst he; rfl) (by exact hg) ?_
  clear hg he
  obtain ⟨h3, hg, he, hx⟩ := bgd hx
  refine Ev.blk (is := [.putfield 6200]) (pc2 := 13) (L2 := [(2, v0)]) (S2 := []) (h2 := h3) (by decide +kernel) (by subst he; rfl) (by exact hg) ?_
  clear hg he
  cases hx
  exact Ev.ret (i := .return_) (len := 1) (by decide +kernel) rfl (finOf (t := none) rfl (trivial))
theorem x_X_init {sc : AS} {d : Nat} (hd : 4 ≤ d) {v0 : Int} {h : AH} {r : AH} (hx : X_init v0 h = some r) : Runs sc d 0 [(2, v0)] h none r := by
  obtain ⟨d, rfl⟩ : ∃ e, d = e + 1 := ⟨d - 1, by omega⟩
  have hd : 3 ≤ d := by omega
  unfold X_init at hx
  refine ⟨⟨aM_0, rfl, Nat.le_of_ble_eq_true rfl⟩, ?_⟩
  show Ev sc d 0 0 [(2, v0)] [] h none r
  obtain ⟨u1, hg, he, hx⟩ := bgd hx
  refine Ev.blk (is := [.aload_n 0, .pop2]) (pc2 := 4) (L2 := [(2, v0)]) (S2 := []) (h2 := h) (by decide +kernel) (by subst he; rfl) (by exact hg) ?_
  clear hg he
  obtain ⟨h2, hg, he, hx⟩ := bgd hx
  refine Ev.blk (is := [.aload_n 0, .new 2]) (pc2 := 8) (L2 := [(2, v0)]) (S2 := [(2, hNx h), (2, v0)]) (h2 := h2) (by decide +kernel) (by subst he; rfl) (by exact trivial) ?_
  clear hg he
  refine Ev.blk (is := [.dup]) (pc2 := 9) (L2 := [(2, v0)]) (S2 := [(2, hNx h), (2, hNx h), (2, v0)]) (h2 := h2) (by decide +kernel) rfl trivial ?_
  obtain ⟨_, hg, -, hx⟩ := bgd hx
  obtain ⟨h4, hc, hx⟩ := bca hx
  refine Ev.call (args := [(2, hNx h)]) (S2 := [(2, hNx h), (2, v0)]) (r1 := none) (h1 := h4) (i := .invokespecial 1) (by decide +kernel) rfl rfl (Nat.le_of_ble_eq_true rfl) (Or.inr (Or.inr ⟨rfl, _, _, rfl, hg⟩)) (x_Ledger_init (by omega) hc) ?_
  obtain ⟨h5, hg, he, hx⟩ := bgd hx
  refine Ev.blk (is := [.putfield 8200]) (pc2 := 15) (L2 := [(2, v0)]) (S2 := []) (h2 := h5) (by decide +kernel) (by subst he; rfl) (by exact hg) ?_
  clear hg he
  obtain ⟨h6, hg, he, hx⟩ := bgd hx
  refine Ev.blk (is := [.aload_n 0, .new 1]) (pc2 := 19) (L2 := [(2, v0)]) (S2 := [(2, hNx h5), (2, v0)]) (h2 := h6) (by decide +kernel) (by subst he; rfl) (by exact trivial) ?_
  clear hg he
  obtain ⟨u7, hg, he, hx⟩ := bgd hx
  refine Ev.blk (is := [.dup, .aload_n 0, .getfield 8200]) (pc2 := 24) (L2 := [(2, v0)]) (S2 := [(2, u7), (2, hNx h5), (2, hNx h5), (2, v0)]) (h2 := h6) (by decide +kernel) (by subst he; rfl) (by exact hg) ?_
  clear hg he
  obtain ⟨_, hg, -, hx⟩ := bgd hx
  obtain ⟨h9, hc, hx⟩ := bca hx
  refine Ev.call (args := [(2, hNx h5), (2, u7)]) (S2 := [(2, hNx h5), (2, v0)]) (r1 := none) (h1 := h9) (i := .invokespecial 2) (by decide +kernel) rfl rfl (Nat.le_of_ble_eq_true rfl) (Or.inr (Or.inr ⟨rfl, _, _, rfl, hg⟩)) (x_Finder_init (by omega) hc) ?_
  obtain ⟨h10, hg, he, hx⟩ := bgd hx
  refine Ev.blk (is := [.putfield 8201]) (pc2 := 30) (L2 := [(2, v0)]) (S2 := []) (h2 := h10) (by decide +kernel) (by subst he; rfl) (by exact hg) ?_
  clear hg he
  obtain ⟨h11, hg, he, hx⟩ := bgd hx
  refine Ev.blk (is := [.aload_n 0, .new 7]) (pc2 := 34) (L2 := [(2, v0)]) (S2 := [(2, hNx h10), (2, v0)]) (h2 := h11) (by decide +kernel) (by subst he; rfl) (by exact trivial) ?_
  clear hg he
  refine Ev.blk (is := [.dup]) (pc2 := 35) (L2 := [(2, v0)]) (S2 := [(2, hNx h10), (2, hNx h10), (2, v0)]) (h2 := h11) (by decide +kernel) rfl trivial ?_
  obtain ⟨_, hg, -, hx⟩ := bgd hx
  obtain ⟨h13, hc, hx⟩ := bca hx
  refine Ev.call (args := [(2, hNx h10)]) (S2 := [(2, hNx h10), (2, v0)]) (r1 := none) (h1 := h13) (i := .invokespecial 4) (by decide +kernel) rfl rfl (Nat.le_of_ble_eq_true rfl) (Or.inr (Or.inr ⟨rfl, _, _, rfl, hg⟩)) (x_Tape_init (by omega) hc) ?_
  obtain ⟨h14, hg, he, hx⟩ := bgd hx
  refine Ev.blk (is := [.putfield 8202]) (pc2 := 41) (L2 := [(2, v0)]) (S2 := []) (h2 := h14) (by decide +kernel) (by subst he; rfl) (by exact hg) ?_
  clear hg he
  obtain ⟨h15, hg, he, hx⟩ := bgd hx
  refine Ev.blk (is := [.aload_n 0, .new 4]) (pc2 := 45) (L2 := [(2, v0)]) (S2 := [(2, hNx h14), (2, v0)]) (h2 := h15) (by decide +kernel) (by subst he; rfl) (by exact trivial) ?_
  clear hg he
  obtain ⟨u16, hg, he, hx⟩ := bgd hx
  refine Ev.blk (is := [.dup, .aload_n 0, .getfield 8202]) (pc2 := 50) (L2 := [(2, v0)]) (S2 := [(2, u16), (2, hNx h14), (2, hNx h14), (2, v0)]) (h2 := h15) (by decide +kernel) (by subst he; rfl) (by exact hg) ?_
  clear hg he
  obtain ⟨u17, hg, he, hx⟩ := bgd hx
  refine Ev.blk (is := [.aload_n 0, .getfield 8200]) (pc2 := 54) (L2 := [(2, v0)]) (S2 := [(2, u17), (2, u16), (2, hNx h14), (2, hNx h14), (2, v0)]) (h2 := h15) (by decide +kernel) (by subst he; rfl) (by exact hg) ?_
  clear hg he
  obtain ⟨_, hg, -, hx⟩ := bgd hx
  obtain ⟨h19, hc, hx⟩ := bca hx
  refine Ev.call (args := [(2, hNx h14), (2, u16), (2, u17)]) (S2 := [(2, hNx h14), (2, v0)]) (r1 := none) (h1 := h19) (i := .invokespecial 5) (by decide +kernel) rfl rfl (Nat.le_of_ble_eq_true rfl) (Or.inr (Or.inr ⟨rfl, _, _, rfl, hg⟩)) (x_Reader_init (by omega) hc) ?_
  obtain ⟨h20, hg, he, hx⟩ := bgd hx
  refine Ev.blk (is := [.putfield 8203]) (pc2 := 60) (L2 := [(2, v0)]) (S2 := []) (h2 := h20) (by decide +kernel) (by subst he; rfl) (by exact hg) ?_
  clear hg he
  obtain ⟨h21, hg, he, hx⟩ := bgd hx
  refine Ev.blk (is := [.aload_n 0, .new 6]) (pc2 := 64) (L2 := [(2, v0)]) (S2 := [(2, hNx h20), (2, v0)]) (h2 := h21) (by decide +kernel) (by subst he; rfl) (by exact trivial) ?_
  clear hg he
  refine Ev.blk (is := [.dup]) (pc2 := 65) (L2 := [(2, v0)]) (S2 := [(2, hNx h20), (2, hNx h20), (2, v0)]) (h2 := h21) (by decide +kernel) rfl trivial ?_
  obtain ⟨_, hg, -, hx⟩ := bgd hx
  obtain ⟨h23, hc, hx⟩ := bca hx
  refine Ev.call (args := [(2, hNx h20)]) (S2 := [(2, hNx h20), (2, v0)]) (r1 := none) (h1 := h23) (i := .invokespecial 8) (by decide +kernel) rfl rfl (Nat.le_of_ble_eq_true rfl) (Or.inr (Or.inr ⟨rfl, _, _, rfl, hg⟩)) (x_Speller_init (by omega) hc) ?_
  obtain ⟨h24, hg, he, hx⟩ := bgd hx
  refine Ev.blk (is := [.putfield 8204]) (pc2 := 71) (L2 := [(2, v0)]) (S2 := []) (h2 := h24) (by decide +kernel) (by subst he; rfl) (by exact hg) ?_
  clear hg he
  obtain ⟨h25, hg, he, hx⟩ := bgd hx
  refine Ev.blk (is := [.aload_n 0, .new 0]) (pc2 := 75) (L2 := [(2, v0)]) (S2 := [(2, hNx h24), (2, v0)]) (h2 := h25) (by decide +kernel) (by subst he; rfl) (by exact trivial) ?_
  clear hg he
  refine Ev.blk (is := [.dup]) (pc2 := 76) (L2 := [(2, v0)]) (S2 := [(2, hNx h24), (2, hNx h24), (2, v0)]) (h2 := h25) (by decide +kernel) rfl trivial ?_
  obtain ⟨_, hg, -, hx⟩ := bgd hx
  obtain ⟨h27, hc, hx⟩ := bca hx
  refine Ev.call (args := [(2, hNx h24)]) (S2 := [(2, hNx h24), (2, v0)]) (r1 := none) (h1 := h27) (i := .invokespecial 3) (by decide +kernel) rfl rfl (Nat.le_of_ble_eq_true rfl) (Or.inr (Or.inr ⟨rfl, _, _, rfl, hg⟩)) (x_Factors_init (by omega) hc) ?_
  obtain ⟨h28, hg, he, hx⟩ := bgd hx
  refine Ev.blk (is := [.putfield 8205]) (pc2 := 82) (L2 := [(2, v0)]) (S2 := []) (h2 := h28) (by decide +kernel) (by subst he; rfl) (by exact hg) ?_
  clear hg he
  cases hx
  exact Ev.ret (i := .return_) (len := 1) (by decide +kernel) rfl (finOf (t := none) rfl (trivial))
theorem x_Arithmetic_isNumber {sc : AS} {d : Nat} (hd : 1 ≤ d) {v0 : Int} {h : AH} {r : Int} (hx : Arithmetic_isNumber v0 = some r) : Runs sc d 10 [(0, v0)] h (some (0, r)) h := by
  obtain ⟨d, rfl⟩ : ∃ e, d = e + 1 := ⟨d - 1, by omega⟩
  have hd : 0 ≤ d := by omega
  unfold Arithmetic_isNumber at hx
  refine ⟨⟨aM_10, rfl, Nat.le_of_ble_eq_true rfl⟩, ?_⟩
  show Ev sc d 10 0 [(0, v0)] [] h (some (0, r)) h
  refine Ev.blk (is := [.iload_n 0, .iconst 2]) (pc2 := 2) (L2 := [(0, v0)]) (S2 := [(0, 2), (0, v0)]) (h2 := h) (by decide +kernel) rfl trivial ?_
  obtain ⟨ha, hb⟩ := bite hx
  clear hx
  refine Ev.br (i := .if_icmp .lt 13) (len := 3) (a := 15) (b := 5) (by decide +kernel) rfl Iff.rfl (fun hc => ?_) (fun hc => ?_)
  · have hx := ha hc
    clear ha hb hc
    refine Ev.blk (is := [.iconst 0]) (pc2 := 16) (L2 := [(0, v0)]) (S2 := [(0, 0)]) (h2 := h) (by decide +kernel) rfl trivial ?_
    cases hx
    exact Ev.ret (i := .ireturn) (len := 1) (by decide +kernel) rfl (finOf (t := some .boolean) rfl (bz0))
  · have hx := hb hc
    clear ha hb hc
    refine Ev.blk (is := [.iload_n 0, .sipush 1000000000]) (pc2 := 8) (L2 := [(0, v0)]) (S2 := [(0, 1000000000), (0, v0)]) (h2 := h) (by decide +kernel) rfl trivial ?_
    obtain ⟨ha, hb⟩ := bite hx
    clear hx
    refine Ev.br (i := .if_icmp .gt 7) (len := 3) (a := 15) (b := 11) (by decide +kernel) rfl Iff.rfl (fun hc => ?_) (fun hc => ?_)
    · have hx := ha hc
      clear ha hb hc
      refine Ev.blk (is := [.iconst 0]) (pc2 := 16) (L2 := [(0, v0)]) (S2 := [(0, 0)]) (h2 := h) (by decide +kernel) rfl trivial ?_
      cases hx
      exact Ev.ret (i := .ireturn) (len := 1) (by decide +kernel) rfl (finOf (t := some .boolean) rfl (bz0))
    · have hx := hb hc
      clear ha hb hc
      refine Ev.blk (is := [.iconst 1]) (pc2 := 12) (L2 := [(0, v0)]) (S2 := [(0, 1)]) (h2 := h) (by decide +kernel) rfl trivial ?_
      refine Ev.jp (i := .goto 4) (len := 3) (pc2 := 16) (by decide +kernel) rfl ?_
      cases hx
      exact Ev.ret (i := .ireturn) (len := 1) (by decide +kernel) rfl (finOf (t := some .boolean) rfl (bz1))
theorem x_Ledger_has {sc : AS} {d : Nat} (hd : 1 ≤ d) {v0 : Int} {v1 : Int} {h : AH} {r : Int} (hx : Ledger_has v0 v1 h = some r) : Runs sc d 13 [(2, v0), (0, v1)] h (some (0, r)) h := by
  obtain ⟨d, rfl⟩ : ∃ e, d = e + 1 := ⟨d - 1, by omega⟩
  have hd : 0 ≤ d := by omega
  unfold Ledger_has at hx
  refine ⟨⟨aM_13, rfl, Nat.le_of_ble_eq_true rfl⟩, ?_⟩
  show Ev sc d 13 0 [(2, v0), (0, v1)] [] h (some (0, r)) h
  refine Ev.blk (is := [.iload_n 1]) (pc2 := 1) (L2 := [(2, v0), (0, v1)]) (S2 := [(0, v1)]) (h2 := h) (by decide +kernel) rfl trivial ?_
  obtain ⟨ha, hb⟩ := bite hx
  clear hx
  refine Ev.br (i := .ifCond .lt 24) (len := 3) (a := 25) (b := 4) (by decide +kernel) rfl Iff.rfl (fun hc => ?_) (fun hc => ?_)
  · have hx := ha hc
    clear ha hb hc
    refine Ev.blk (is := [.iconst 0]) (pc2 := 26) (L2 := [(2, v0), (0, v1)]) (S2 := [(0, 0)]) (h2 := h) (by decide +kernel) rfl trivial ?_
    cases hx
    exact Ev.ret (i := .ireturn) (len := 1) (by decide +kernel) rfl (finOf (t := some .boolean) rfl (bz0))
  · have hx := hb hc
    clear ha hb hc
    obtain ⟨u1, hg, he, hx⟩ := bgd hx
    refine Ev.blk (is := [.iload_n 1, .aload_n 0, .getfield 2005]) (pc2 := 9) (L2 := [(2, v0), (0, v1)]) (S2 := [(0, u1), (0, v1)]) (h2 := h) (by decide +kernel) (by subst he; rfl) (by exact hg) ?_
    clear hg he
    obtain ⟨ha, hb⟩ := bite hx
    clear hx
    refine Ev.br (i := .if_icmp .ge 16) (len := 3) (a := 12) (b := 25) (by decide +kernel) rfl Iff.rfl (fun hc => ?_) (fun hc => ?_)
    · have hx := ha hc
      clear ha hb hc
      obtain ⟨u2, hg, he, hx⟩ := bgd hx
      refine Ev.blk (is := [.aload_n 0, .getfield 2200]) (pc2 := 16) (L2 := [(2, v0), (0, v1)]) (S2 := [(2, u2)]) (h2 := h) (by decide +kernel) (by subst he; rfl) (by exact hg) ?_
      clear hg he
      obtain ⟨u3, hg, he, hx⟩ := bgd hx
      refine Ev.blk (is := [.iload_n 1, .aaload]) (pc2 := 18) (L2 := [(2, v0), (0, v1)]) (S2 := [(2, u3)]) (h2 := h) (by decide +kernel) (by subst he; rfl) (by exact hg) ?_
      clear hg he
      obtain ⟨ha, hb⟩ := bite hx
      clear hx
      refine Ev.br (i := .ifnull 7) (len := 3) (a := 25) (b := 21) (by decide +kernel) rfl Iff.rfl (fun hc => ?_) (fun hc => ?_)
      · have hx := ha hc
        clear ha hb hc
        refine Ev.blk (is := [.iconst 0]) (pc2 := 26) (L2 := [(2, v0), (0, v1)]) (S2 := [(0, 0)]) (h2 := h) (by decide +kernel) rfl trivial ?_
        cases hx
        exact Ev.ret (i := .ireturn) (len := 1) (by decide +kernel) rfl (finOf (t := some .boolean) rfl (bz0))
      · have hx := hb hc
        clear ha hb hc
        refine Ev.blk (is := [.iconst 1]) (pc2 := 22) (L2 := [(2, v0), (0, v1)]) (S2 := [(0, 1)]) (h2 := h) (by decide +kernel) rfl trivial ?_
        refine Ev.jp (i := .goto 4) (len := 3) (pc2 := 26) (by decide +kernel) rfl ?_
        cases hx
        exact Ev.ret (i := .ireturn) (len := 1) (by decide +kernel) rfl (finOf (t := some .boolean) rfl (bz1))
    · have hx := hb hc
      clear ha hb hc
      refine Ev.blk (is := [.iconst 0]) (pc2 := 26) (L2 := [(2, v0), (0, v1)]) (S2 := [(0, 0)]) (h2 := h) (by decide +kernel) rfl trivial ?_
      cases hx
      exact Ev.ret (i := .ireturn) (len := 1) (by decide +kernel) rfl (finOf (t := some .boolean) rfl (bz0))
theorem x_Ledger_isIn {sc : AS} {d : Nat} (hd : 1 ≤ d) {v0 : Int} {v2 : Int} {h : AH} {r : Int} (hx : Ledger_isIn v0 v2 = some r) : Runs sc d 14 [(1, v0), (0, v2)] h (some (0, r)) h := by
  obtain ⟨d, rfl⟩ : ∃ e, d = e + 1 := ⟨d - 1, by omega⟩
  have hd : 0 ≤ d := by omega
  unfold Ledger_isIn at hx
  refine ⟨⟨aM_14, rfl, Nat.le_of_ble_eq_true rfl⟩, ?_⟩
  show Ev sc d 14 0 [(1, v0), (8, 0), (0, v2)] [] h (some (0, r)) h
  refine Ev.blk (is := [.lload_n 0, .iload_n 2, .lshr, .lconst 1, .land, .lconst 1, .lcmp]) (pc2 := 7) (L2 := [(1, v0), (8, 0), (0, v2)]) (S2 := [(0, cmpL (andL (shrL v0 v2) 1) 1)]) (h2 := h) (by decide +kernel) rfl trivial ?_
  obtain ⟨ha, hb⟩ := bite hx
  clear hx
  refine Ev.br (i := .ifCond .ne 7) (len := 3) (a := 10) (b := 14) (by decide +kernel) rfl cmpL_eq (fun hc => ?_) (fun hc => ?_)
  · have hx := ha hc
    clear ha hb hc
    refine Ev.blk (is := [.iconst 1]) (pc2 := 11) (L2 := [(1, v0), (8, 0), (0, v2)]) (S2 := [(0, 1)]) (h2 := h) (by decide +kernel) rfl trivial ?_
    refine Ev.jp (i := .goto 4) (len := 3) (pc2 := 15) (by decide +kernel) rfl ?_
    cases hx
    exact Ev.ret (i := .ireturn) (len := 1) (by decide +kernel) rfl (finOf (t := some .boolean) rfl (bz1))
  · have hx := hb hc
    clear ha hb hc
    refine Ev.blk (is := [.iconst 0]) (pc2 := 15) (L2 := [(1, v0), (8, 0), (0, v2)]) (S2 := [(0, 0)]) (h2 := h) (by decide +kernel) rfl trivial ?_
    cases hx
    exact Ev.ret (i := .ireturn) (len := 1) (by decide +kernel) rfl (finOf (t := some .boolean) rfl (bz0))
theorem x_Ledger_isRight {sc : AS} {d : Nat} (hd : 2 ≤ d) {v0 : Int} {v1 : Int} {h : AH} {r : Int} (hx : Ledger_isRight v0 v1 h = some r) : Runs sc d 12 [(2, v0), (0, v1)] h (some (0, r)) h := by
  obtain ⟨d, rfl⟩ : ∃ e, d = e + 1 := ⟨d - 1, by omega⟩
  have hd : 1 ≤ d := by omega
  unfold Ledger_isRight at hx
  refine ⟨⟨aM_12, rfl, Nat.le_of_ble_eq_true rfl⟩, ?_⟩
  show Ev sc d 12 0 [(2, v0), (0, v1)] [] h (some (0, r)) h
  refine Ev.blk (is := [.aload_n 0, .iload_n 1]) (pc2 := 2) (L2 := [(2, v0), (0, v1)]) (S2 := [(0, v1), (2, v0)]) (h2 := h) (by decide +kernel) rfl trivial ?_
  obtain ⟨_, hg, -, hx⟩ := bgd hx
  obtain ⟨u1, hc, hx⟩ := bca hx
  refine Ev.call (args := [(2, v0), (0, v1)]) (S2 := []) (r1 := (some (0, u1))) (h1 := h) (i := .invokevirtual 13) (by decide +kernel) rfl rfl (Nat.le_of_ble_eq_true rfl) (Or.inr (Or.inl ⟨rfl, hg, by decide +kernel⟩)) (x_Ledger_has (by omega) hc) ?_
  obtain ⟨ha, hb⟩ := bite hx
  clear hx
  refine Ev.br (i := .ifCond .eq 18) (len := 3) (a := 23) (b := 8) (by decide +kernel) rfl Iff.rfl (fun hc => ?_) (fun hc => ?_)
  · have hx := ha hc
    clear ha hb hc
    refine Ev.blk (is := [.iconst 0]) (pc2 := 24) (L2 := [(2, v0), (0, v1)]) (S2 := [(0, 0)]) (h2 := h) (by decide +kernel) rfl trivial ?_
    cases hx
    exact Ev.ret (i := .ireturn) (len := 1) (by decide +kernel) rfl (finOf (t := some .boolean) rfl (bz0))
  · have hx := hb hc
    clear ha hb hc
    obtain ⟨u2, hg, he, hx⟩ := bgd hx
    refine Ev.blk (is := [.aload_n 0, .getfield 2104]) (pc2 := 12) (L2 := [(2, v0), (0, v1)]) (S2 := [(1, u2)]) (h2 := h) (by decide +kernel) (by subst he; rfl) (by exact hg) ?_
    clear hg he
    refine Ev.blk (is := [.iload_n 1]) (pc2 := 13) (L2 := [(2, v0), (0, v1)]) (S2 := [(0, v1), (1, u2)]) (h2 := h) (by decide +kernel) rfl trivial ?_
    obtain ⟨u3, hc, hx⟩ := bca hx
    refine Ev.call (args := [(1, u2), (0, v1)]) (S2 := []) (r1 := (some (0, u3))) (h1 := h) (i := .invokestatic 14) (by decide +kernel) rfl rfl (Nat.le_of_ble_eq_true rfl) (Or.inl rfl) (x_Ledger_isIn (by omega) hc) ?_
    obtain ⟨ha, hb⟩ := bite hx
    clear hx
    refine Ev.br (i := .ifCond .eq 7) (len := 3) (a := 23) (b := 19) (by decide +kernel) rfl Iff.rfl (fun hc => ?_) (fun hc => ?_)
    · have hx := ha hc
      clear ha hb hc
      refine Ev.blk (is := [.iconst 0]) (pc2 := 24) (L2 := [(2, v0), (0, v1)]) (S2 := [(0, 0)]) (h2 := h) (by decide +kernel) rfl trivial ?_
      cases hx
      exact Ev.ret (i := .ireturn) (len := 1) (by decide +kernel) rfl (finOf (t := some .boolean) rfl (bz0))
    · have hx := hb hc
      clear ha hb hc
      refine Ev.blk (is := [.iconst 1]) (pc2 := 20) (L2 := [(2, v0), (0, v1)]) (S2 := [(0, 1)]) (h2 := h) (by decide +kernel) rfl trivial ?_
      refine Ev.jp (i := .goto 4) (len := 3) (pc2 := 24) (by decide +kernel) rfl ?_
      cases hx
      exact Ev.ret (i := .ireturn) (len := 1) (by decide +kernel) rfl (finOf (t := some .boolean) rfl (bz1))
theorem y_Ledger_leastOfSort_2 {sc : AS} {d : Nat} (hd : 2 ≤ d) : ∀ (fu : Nat) (v0 : Int) (v1 : Int) (v2 : Int) (v3 : Int) (h : AH) (r : Int), Ledger_leastOfSort_2 fu v0 v1 v2 v3 h = some r → Ev sc d 11 2 [(2, v0), (0, v1), (0, v2), (0, v3)] [] h (some (0, r)) h := by
  intro fu
  induction fu with
  | zero => intro v0 v1 v2 v3 h r hx; unfold Ledger_leastOfSort_2 at hx; cases hx
  | succ fu ih =>
    intro v0 v1 v2 v3 h r hx
    unfold Ledger_leastOfSort_2 at hx
    obtain ⟨u1, hg, he, hx⟩ := bgd hx
    refine Ev.blk (is := [.iload_n 3, .aload_n 0, .getfield 2005]) (pc2 := 7) (L2 := [(2, v0), (0, v1), (0, v2), (0, v3)]) (S2 := [(0, u1), (0, v3)]) (h2 := h) (by decide +kernel) (by subst he; rfl) (by exact hg) ?_
    clear hg he
    obtain ⟨ha, hb⟩ := bite hx
    clear hx
    refine Ev.br (i := .if_icmp .ge 45) (len := 3) (a := 10) (b := 52) (by decide +kernel) rfl Iff.rfl (fun hc => ?_) (fun hc => ?_)
    · have hx := ha hc
      clear ha hb hc
      refine Ev.blk (is := [.aload_n 0, .iload_n 3]) (pc2 := 12) (L2 := [(2, v0), (0, v1), (0, v2), (0, v3)]) (S2 := [(0, v3), (2, v0)]) (h2 := h) (by decide +kernel) rfl trivial ?_
      obtain ⟨_, hg, -, hx⟩ := bgd hx
      obtain ⟨u2, hc, hx⟩ := bca hx
      refine Ev.call (args := [(2, v0), (0, v3)]) (S2 := []) (r1 := (some (0, u2))) (h1 := h) (i := .invokevirtual 12) (by decide +kernel) rfl rfl (Nat.le_of_ble_eq_true rfl) (Or.inr (Or.inl ⟨rfl, hg, by decide +kernel⟩)) (x_Ledger_isRight (by omega) hc) ?_
      obtain ⟨ha, hb⟩ := bite hx
      clear hx
      refine Ev.br (i := .ifCond .eq 31) (len := 3) (a := 46) (b := 18) (by decide +kernel) rfl Iff.rfl (fun hc => ?_) (fun hc => ?_)
      · have hx := ha hc
        clear ha hb hc
        refine Ev.blk (is := [.iinc 3 1]) (pc2 := 49) (L2 := [(2, v0), (0, v1), (0, v2), (0, w32 (v3 + 1))]) (S2 := []) (h2 := h) (by decide +kernel) rfl trivial ?_
        refine Ev.jp (i := .goto (-47)) (len := 3) (pc2 := 2) (by decide +kernel) rfl ?_
        exact ih v0 v1 v2 (w32 (v3 + 1)) h _ hx
      · have hx := hb hc
        clear ha hb hc
        obtain ⟨u3, hg, he, hx⟩ := bgd hx
        refine Ev.blk (is := [.aload_n 0, .getfield 2200]) (pc2 := 22) (L2 := [(2, v0), (0, v1), (0, v2), (0, v3)]) (S2 := [(2, u3)]) (h2 := h) (by decide +kernel) (by subst he; rfl) (by exact hg) ?_
        clear hg he
        obtain ⟨u4, hg, he, hx⟩ := bgd hx
        refine Ev.blk (is := [.iload_n 3, .aaload]) (pc2 := 24) (L2 := [(2, v0), (0, v1), (0, v2), (0, v3)]) (S2 := [(2, u4)]) (h2 := h) (by decide +kernel) (by subst he; rfl) (by exact hg) ?_
        clear hg he
        obtain ⟨u5, hg, he, hx⟩ := bgd hx
        refine Ev.blk (is := [.getfield 3002]) (pc2 := 27) (L2 := [(2, v0), (0, v1), (0, v2), (0, v3)]) (S2 := [(0, u5)]) (h2 := h) (by decide +kernel) (by subst he; rfl) (by exact hg) ?_
        clear hg he
        refine Ev.blk (is := [.iload_n 1]) (pc2 := 28) (L2 := [(2, v0), (0, v1), (0, v2), (0, v3)]) (S2 := [(0, v1), (0, u5)]) (h2 := h) (by decide +kernel) rfl trivial ?_
        obtain ⟨ha, hb⟩ := bite hx
        clear hx
        refine Ev.br (i := .if_icmp .ne 18) (len := 3) (a := 31) (b := 46) (by decide +kernel) rfl Iff.rfl (fun hc => ?_) (fun hc => ?_)
        · have hx := ha hc
          clear ha hb hc
          obtain ⟨u6, hg, he, hx⟩ := bgd hx
          refine Ev.blk (is := [.aload_n 0, .getfield 2200]) (pc2 := 35) (L2 := [(2, v0), (0, v1), (0, v2), (0, v3)]) (S2 := [(2, u6)]) (h2 := h) (by decide +kernel) (by subst he; rfl) (by exact hg) ?_
          clear hg he
          obtain ⟨u7, hg, he, hx⟩ := bgd hx
          refine Ev.blk (is := [.iload_n 3, .aaload]) (pc2 := 37) (L2 := [(2, v0), (0, v1), (0, v2), (0, v3)]) (S2 := [(2, u7)]) (h2 := h) (by decide +kernel) (by subst he; rfl) (by exact hg) ?_
          clear hg he
          obtain ⟨u8, hg, he, hx⟩ := bgd hx
          refine Ev.blk (is := [.getfield 3003]) (pc2 := 40) (L2 := [(2, v0), (0, v1), (0, v2), (0, v3)]) (S2 := [(0, u8)]) (h2 := h) (by decide +kernel) (by subst he; rfl) (by exact hg) ?_
          clear hg he
          refine Ev.blk (is := [.iload_n 2]) (pc2 := 41) (L2 := [(2, v0), (0, v1), (0, v2), (0, v3)]) (S2 := [(0, v2), (0, u8)]) (h2 := h) (by decide +kernel) rfl trivial ?_
          obtain ⟨ha, hb⟩ := bite hx
          clear hx
          refine Ev.br (i := .if_icmp .ne 5) (len := 3) (a := 44) (b := 46) (by decide +kernel) rfl Iff.rfl (fun hc => ?_) (fun hc => ?_)
          · have hx := ha hc
            clear ha hb hc
            refine Ev.blk (is := [.iload_n 3]) (pc2 := 45) (L2 := [(2, v0), (0, v1), (0, v2), (0, v3)]) (S2 := [(0, v3)]) (h2 := h) (by decide +kernel) rfl trivial ?_
            cases hx
            exact Ev.ret (i := .ireturn) (len := 1) (by decide +kernel) rfl (finOf (t := some .int) rfl (trivial))
          · have hx := hb hc
            clear ha hb hc
            refine Ev.blk (is := [.iinc 3 1]) (pc2 := 49) (L2 := [(2, v0), (0, v1), (0, v2), (0, w32 (v3 + 1))]) (S2 := []) (h2 := h) (by decide +kernel) rfl trivial ?_
            refine Ev.jp (i := .goto (-47)) (len := 3) (pc2 := 2) (by decide +kernel) rfl ?_
            exact ih v0 v1 v2 (w32 (v3 + 1)) h _ hx
        · have hx := hb hc
          clear ha hb hc
          refine Ev.blk (is := [.iinc 3 1]) (pc2 := 49) (L2 := [(2, v0), (0, v1), (0, v2), (0, w32 (v3 + 1))]) (S2 := []) (h2 := h) (by decide +kernel) rfl trivial ?_
          refine Ev.jp (i := .goto (-47)) (len := 3) (pc2 := 2) (by decide +kernel) rfl ?_
          exact ih v0 v1 v2 (w32 (v3 + 1)) h _ hx
    · have hx := hb hc
      clear ha hb hc
      refine Ev.blk (is := [.iconst (-1)]) (pc2 := 53) (L2 := [(2, v0), (0, v1), (0, v2), (0, v3)]) (S2 := [(0, (-1))]) (h2 := h) (by decide +kernel) rfl trivial ?_
      cases hx
      exact Ev.ret (i := .ireturn) (len := 1) (by decide +kernel) rfl (finOf (t := some .int) rfl (trivial))
theorem x_Ledger_leastOfSort {sc : AS} {d : Nat} (hd : 3 ≤ d) {v0 : Int} {v1 : Int} {v2 : Int} {h : AH} {r : Int} (hx : Ledger_leastOfSort v0 v1 v2 h = some r) : Runs sc d 11 [(2, v0), (0, v1), (0, v2)] h (some (0, r)) h := by
  obtain ⟨d, rfl⟩ : ∃ e, d = e + 1 := ⟨d - 1, by omega⟩
  have hd : 2 ≤ d := by omega
  unfold Ledger_leastOfSort at hx
  refine ⟨⟨aM_11, rfl, Nat.le_of_ble_eq_true rfl⟩, ?_⟩
  show Ev sc d 11 0 [(2, v0), (0, v1), (0, v2), (9, 0)] [] h (some (0, r)) h
  refine Ev.blk (is := [.iconst 0, .istore_n 3]) (pc2 := 2) (L2 := [(2, v0), (0, v1), (0, v2), (0, 0)]) (S2 := []) (h2 := h) (by decide +kernel) rfl trivial ?_
  exact y_Ledger_leastOfSort_2 hd FU v0 v1 v2 0 h _ hx
theorem x_Finder_draftAt {sc : AS} {d : Nat} (hd : 3 ≤ d) {v0 : Int} {v1 : Int} {h : AH} {r : (Int × AH)} (hx : Finder_draftAt v0 v1 h = some r) : Runs sc d 17 [(2, v0), (0, v1)] h (some (2, r.1)) r.2 := by
  obtain ⟨d, rfl⟩ : ∃ e, d = e + 1 := ⟨d - 1, by omega⟩
  have hd : 2 ≤ d := by omega
  unfold Finder_draftAt at hx
  refine ⟨⟨aM_17, rfl, Nat.le_of_ble_eq_true rfl⟩, ?_⟩
  show Ev sc d 17 0 [(2, v0), (0, v1)] [] h (some (2, r.1)) r.2
  refine Ev.blk (is := [.iload_n 1]) (pc2 := 1) (L2 := [(2, v0), (0, v1)]) (S2 := [(0, v1)]) (h2 := h) (by decide +kernel) rfl trivial ?_
  obtain ⟨ha, hb⟩ := bite hx
  clear hx
  refine Ev.br (i := .ifCond .lt 9) (len := 3) (a := 10) (b := 4) (by decide +kernel) rfl Iff.rfl (fun hc => ?_) (fun hc => ?_)
  · have hx := ha hc
    clear ha hb hc
    refine Ev.blk (is := [.aconst_null]) (pc2 := 11) (L2 := [(2, v0), (0, v1)]) (S2 := [(2, (-1))]) (h2 := h) (by decide +kernel) rfl trivial ?_
    cases hx
    exact Ev.ret (i := .areturn) (len := 1) (by decide +kernel) rfl (finOf (t := some (.object "PrimeProofs$Line")) rfl (trivial))
  · have hx := hb hc
    clear ha hb hc
    refine Ev.blk (is := [.iload_n 1, .sipush 40]) (pc2 := 7) (L2 := [(2, v0), (0, v1)]) (S2 := [(0, 40), (0, v1)]) (h2 := h) (by decide +kernel) rfl trivial ?_
    obtain ⟨ha, hb⟩ := bite hx
    clear hx
    refine Ev.br (i := .if_icmp .lt 5) (len := 3) (a := 12) (b := 10) (by decide +kernel) rfl Iff.rfl (fun hc => ?_) (fun hc => ?_)
    · have hx := ha hc
      clear ha hb hc
      obtain ⟨u1, hg, he, hx⟩ := bgd hx
      refine Ev.blk (is := [.aload_n 0, .getfield 1203]) (pc2 := 16) (L2 := [(2, v0), (0, v1)]) (S2 := [(2, u1)]) (h2 := h) (by decide +kernel) (by subst he; rfl) (by exact hg) ?_
      clear hg he
      obtain ⟨u2, hg, he, hx⟩ := bgd hx
      refine Ev.blk (is := [.iload_n 1, .aaload]) (pc2 := 18) (L2 := [(2, v0), (0, v1)]) (S2 := [(2, u2)]) (h2 := h) (by decide +kernel) (by subst he; rfl) (by exact hg) ?_
      clear hg he
      obtain ⟨ha, hb⟩ := bite hx
      clear hx
      refine Ev.br (i := .ifnonnull 16) (len := 3) (a := 21) (b := 34) (by decide +kernel) rfl Iff.rfl (fun hc => ?_) (fun hc => ?_)
      · have hx := ha hc
        clear ha hb hc
        obtain ⟨u3, hg, he, hx⟩ := bgd hx
        refine Ev.blk (is := [.aload_n 0, .getfield 1203]) (pc2 := 25) (L2 := [(2, v0), (0, v1)]) (S2 := [(2, u3)]) (h2 := h) (by decide +kernel) (by subst he; rfl) (by exact hg) ?_
        clear hg he
        obtain ⟨h4, hg, he, hx⟩ := bgd hx
        refine Ev.blk (is := [.iload_n 1, .new 3]) (pc2 := 29) (L2 := [(2, v0), (0, v1)]) (S2 := [(2, hNx h), (0, v1), (2, u3)]) (h2 := h4) (by decide +kernel) (by subst he; rfl) (by exact trivial) ?_
        clear hg he
        refine Ev.blk (is := [.dup]) (pc2 := 30) (L2 := [(2, v0), (0, v1)]) (S2 := [(2, hNx h), (2, hNx h), (0, v1), (2, u3)]) (h2 := h4) (by decide +kernel) rfl trivial ?_
        obtain ⟨_, hg, -, hx⟩ := bgd hx
        obtain ⟨h6, hc, hx⟩ := bca hx
        refine Ev.call (args := [(2, hNx h)]) (S2 := [(2, hNx h), (0, v1), (2, u3)]) (r1 := none) (h1 := h6) (i := .invokespecial 6) (by decide +kernel) rfl rfl (Nat.le_of_ble_eq_true rfl) (Or.inr (Or.inr ⟨rfl, _, _, rfl, hg⟩)) (x_Line_init (by omega) hc) ?_
        obtain ⟨h7, hg, he, hx⟩ := bgd hx
        refine Ev.blk (is := [.aastore]) (pc2 := 34) (L2 := [(2, v0), (0, v1)]) (S2 := []) (h2 := h7) (by decide +kernel) (by subst he; rfl) (by exact hg) ?_
        clear hg he
        obtain ⟨u8, hg, he, hx⟩ := bgd hx
        refine Ev.blk (is := [.aload_n 0, .getfield 1203]) (pc2 := 38) (L2 := [(2, v0), (0, v1)]) (S2 := [(2, u8)]) (h2 := h7) (by decide +kernel) (by subst he; rfl) (by exact hg) ?_
        clear hg he
        obtain ⟨u9, hg, he, hx⟩ := bgd hx
        refine Ev.blk (is := [.iload_n 1, .aaload]) (pc2 := 40) (L2 := [(2, v0), (0, v1)]) (S2 := [(2, u9)]) (h2 := h7) (by decide +kernel) (by subst he; rfl) (by exact hg) ?_
        clear hg he
        cases hx
        exact Ev.ret (i := .areturn) (len := 1) (by decide +kernel) rfl (finOf (t := some (.object "PrimeProofs$Line")) rfl (trivial))
      · have hx := hb hc
        clear ha hb hc
        obtain ⟨u10, hg, he, hx⟩ := bgd hx
        refine Ev.blk (is := [.aload_n 0, .getfield 1203]) (pc2 := 38) (L2 := [(2, v0), (0, v1)]) (S2 := [(2, u10)]) (h2 := h) (by decide +kernel) (by subst he; rfl) (by exact hg) ?_
        clear hg he
        obtain ⟨u11, hg, he, hx⟩ := bgd hx
        refine Ev.blk (is := [.iload_n 1, .aaload]) (pc2 := 40) (L2 := [(2, v0), (0, v1)]) (S2 := [(2, u11)]) (h2 := h) (by decide +kernel) (by subst he; rfl) (by exact hg) ?_
        clear hg he
        cases hx
        exact Ev.ret (i := .areturn) (len := 1) (by decide +kernel) rfl (finOf (t := some (.object "PrimeProofs$Line")) rfl (trivial))
    · have hx := hb hc
      clear ha hb hc
      refine Ev.blk (is := [.aconst_null]) (pc2 := 11) (L2 := [(2, v0), (0, v1)]) (S2 := [(2, (-1))]) (h2 := h) (by decide +kernel) rfl trivial ?_
      cases hx
      exact Ev.ret (i := .areturn) (len := 1) (by decide +kernel) rfl (finOf (t := some (.object "PrimeProofs$Line")) rfl (trivial))
theorem x_Line_begin {sc : AS} {d : Nat} (hd : 1 ≤ d) {v0 : Int} {v1 : Int} {v2 : Int} {h : AH} {r : AH} (hx : Line_begin v0 v1 v2 h = some r) : Runs sc d 19 [(2, v0), (0, v1), (0, v2)] h none r := by
  obtain ⟨d, rfl⟩ : ∃ e, d = e + 1 := ⟨d - 1, by omega⟩
  have hd : 0 ≤ d := by omega
  unfold Line_begin at hx
  refine ⟨⟨aM_19, rfl, Nat.le_of_ble_eq_true rfl⟩, ?_⟩
  show Ev sc d 19 0 [(2, v0), (0, v1), (0, v2)] [] h none r
  obtain ⟨h1, hg, he, hx⟩ := bgd hx
  refine Ev.blk (is := [.aload_n 0, .iload_n 1, .putfield 3002]) (pc2 := 5) (L2 := [(2, v0), (0, v1), (0, v2)]) (S2 := []) (h2 := h1) (by decide +kernel) (by subst he; rfl) (by exact hg) ?_
  clear hg he
  obtain ⟨h2, hg, he, hx⟩ := bgd hx
  refine Ev.blk (is := [.aload_n 0, .iload_n 2, .putfield 3003]) (pc2 := 10) (L2 := [(2, v0), (0, v1), (0, v2)]) (S2 := []) (h2 := h2) (by decide +kernel) (by subst he; rfl) (by exact hg) ?_
  clear hg he
  obtain ⟨h3, hg, he, hx⟩ := bgd hx
  refine Ev.blk (is := [.aload_n 0, .iconst 0, .putfield 3004]) (pc2 := 15) (L2 := [(2, v0), (0, v1), (0, v2)]) (S2 := []) (h2 := h3) (by decide +kernel) (by subst he; rfl) (by exact hg) ?_
  clear hg he
  obtain ⟨h4, hg, he, hx⟩ := bgd hx
  refine Ev.blk (is := [.aload_n 0, .iconst 0, .putfield 3005]) (pc2 := 20) (L2 := [(2, v0), (0, v1), (0, v2)]) (S2 := []) (h2 := h4) (by decide +kernel) (by subst he; rfl) (by exact hg) ?_
  clear hg he
  obtain ⟨u5, hg, he, hx⟩ := bgd hx
  refine Ev.blk (is := [.aload_n 0, .getfield 3200]) (pc2 := 24) (L2 := [(2, v0), (0, v1), (0, v2)]) (S2 := [(2, u5)]) (h2 := h4) (by decide +kernel) (by subst he; rfl) (by exact hg) ?_
  clear hg he
  obtain ⟨h6, hg, he, hx⟩ := bgd hx
  refine Ev.blk (is := [.iconst 0, .putfield 5001]) (pc2 := 28) (L2 := [(2, v0), (0, v1), (0, v2)]) (S2 := []) (h2 := h6) (by decide +kernel) (by subst he; rfl) (by exact hg) ?_
  clear hg he
  obtain ⟨u7, hg, he, hx⟩ := bgd hx
  refine Ev.blk (is := [.aload_n 0, .getfield 3201]) (pc2 := 32) (L2 := [(2, v0), (0, v1), (0, v2)]) (S2 := [(2, u7)]) (h2 := h6) (by decide +kernel) (by subst he; rfl) (by exact hg) ?_
  clear hg he
  obtain ⟨h8, hg, he, hx⟩ := bgd hx
  refine Ev.blk (is := [.iconst 0, .putfield 5001]) (pc2 := 36) (L2 := [(2, v0), (0, v1), (0, v2)]) (S2 := []) (h2 := h8) (by decide +kernel) (by subst he; rfl) (by exact hg) ?_
  clear hg he
  obtain ⟨h9, hg, he, hx⟩ := bgd hx
  refine Ev.blk (is := [.aload_n 0, .iconst (-1), .putfield 3006]) (pc2 := 41) (L2 := [(2, v0), (0, v1), (0, v2)]) (S2 := []) (h2 := h9) (by decide +kernel) (by subst he; rfl) (by exact hg) ?_
  clear hg he
  cases hx
  exact Ev.ret (i := .return_) (len := 1) (by decide +kernel) rfl (finOf (t := none) rfl (trivial))
theorem y_Arithmetic_powerLeft_24 {sc : AS} {d : Nat} (hd : 0 ≤ d) : ∀ (fu : Nat) (v4 : Int) (v6 : Int) (v8 : Int) (v10 : Int) (h : AH) (r : Int), Arithmetic_powerLeft_24 fu v4 v6 v8 v10 = some r → Ev sc d 22 24 [(9, 0), (9, 0), (9, 0), (9, 0), (1, v4), (8, 0), (1, v6), (8, 0), (1, v8), (8, 0), (1, v10), (8, 0)] [] h (some (1, r)) h := by
  intro fu
  induction fu with
  | zero => intro v4 v6 v8 v10 h r hx; unfold Arithmetic_powerLeft_24 at hx; cases hx
  | succ fu ih =>
    intro v4 v6 v8 v10 h r hx
    unfold Arithmetic_powerLeft_24 at hx
    refine Ev.blk (is := [.lload 10, .lconst 0, .lcmp]) (pc2 := 28) (L2 := [(9, 0), (9, 0), (9, 0), (9, 0), (1, v4), (8, 0), (1, v6), (8, 0), (1, v8), (8, 0), (1, v10), (8, 0)]) (S2 := [(0, cmpL v10 0)]) (h2 := h) (by decide +kernel) rfl trivial ?_
    obtain ⟨ha, hb⟩ := bite hx
    clear hx
    refine Ev.br (i := .ifCond .le 41) (len := 3) (a := 31) (b := 69) (by decide +kernel) rfl cmpL_gt (fun hc => ?_) (fun hc => ?_)
    · have hx := ha hc
      clear ha hb hc
      refine Ev.blk (is := [.lload 10, .lconst 1, .land, .lconst 1, .lcmp]) (pc2 := 37) (L2 := [(9, 0), (9, 0), (9, 0), (9, 0), (1, v4), (8, 0), (1, v6), (8, 0), (1, v8), (8, 0), (1, v10), (8, 0)]) (S2 := [(0, cmpL (andL v10 1) 1)]) (h2 := h) (by decide +kernel) rfl trivial ?_
      obtain ⟨ha, hb⟩ := bite hx
      clear hx
      refine Ev.br (i := .ifCond .ne 13) (len := 3) (a := 40) (b := 50) (by decide +kernel) rfl cmpL_eq (fun hc => ?_) (fun hc => ?_)
      · have hx := ha hc
        clear ha hb hc
        obtain ⟨u1, hg, he, hx⟩ := bgd hx
        refine Ev.blk (is := [.lload 6, .lload 8, .lmul, .lload 4, .lrem]) (pc2 := 48) (L2 := [(9, 0), (9, 0), (9, 0), (9, 0), (1, v4), (8, 0), (1, v6), (8, 0), (1, v8), (8, 0), (1, v10), (8, 0)]) (S2 := [(1, u1)]) (h2 := h) (by decide +kernel) (by subst he; rfl) (by exact hg) ?_
        clear hg he
        obtain ⟨u2, hg, he, hx⟩ := bgd hx
        refine Ev.blk (is := [.lstore 6, .lload 8, .lload 8, .lmul, .lload 4, .lrem]) (pc2 := 58) (L2 := [(9, 0), (9, 0), (9, 0), (9, 0), (1, v4), (8, 0), (1, u1), (8, 0), (1, v8), (8, 0), (1, v10), (8, 0)]) (S2 := [(1, u2)]) (h2 := h) (by decide +kernel) (by subst he; rfl) (by exact hg) ?_
        clear hg he
        refine Ev.blk (is := [.lstore 8, .lload 10, .iconst 1, .lshr, .lstore 10]) (pc2 := 66) (L2 := [(9, 0), (9, 0), (9, 0), (9, 0), (1, v4), (8, 0), (1, u1), (8, 0), (1, u2), (8, 0), (1, shrL v10 1), (8, 0)]) (S2 := []) (h2 := h) (by decide +kernel) rfl trivial ?_
        refine Ev.jp (i := .goto (-42)) (len := 3) (pc2 := 24) (by decide +kernel) rfl ?_
        exact ih v4 u1 u2 (shrL v10 1) h _ hx
      · have hx := hb hc
        clear ha hb hc
        obtain ⟨u3, hg, he, hx⟩ := bgd hx
        refine Ev.blk (is := [.lload 8, .lload 8, .lmul, .lload 4, .lrem]) (pc2 := 58) (L2 := [(9, 0), (9, 0), (9, 0), (9, 0), (1, v4), (8, 0), (1, v6), (8, 0), (1, v8), (8, 0), (1, v10), (8, 0)]) (S2 := [(1, u3)]) (h2 := h) (by decide +kernel) (by subst he; rfl) (by exact hg) ?_
        clear hg he
        refine Ev.blk (is := [.lstore 8, .lload 10, .iconst 1, .lshr, .lstore 10]) (pc2 := 66) (L2 := [(9, 0), (9, 0), (9, 0), (9, 0), (1, v4), (8, 0), (1, v6), (8, 0), (1, u3), (8, 0), (1, shrL v10 1), (8, 0)]) (S2 := []) (h2 := h) (by decide +kernel) rfl trivial ?_
        refine Ev.jp (i := .goto (-42)) (len := 3) (pc2 := 24) (by decide +kernel) rfl ?_
        exact ih v4 v6 u3 (shrL v10 1) h _ hx
    · have hx := hb hc
      clear ha hb hc
      refine Ev.blk (is := [.lload 6]) (pc2 := 71) (L2 := [(9, 0), (9, 0), (9, 0), (9, 0), (1, v4), (8, 0), (1, v6), (8, 0), (1, v8), (8, 0), (1, v10), (8, 0)]) (S2 := [(1, v6)]) (h2 := h) (by decide +kernel) rfl trivial ?_
      cases hx
      exact Ev.ret (i := .lreturn) (len := 1) (by decide +kernel) rfl (finOf (t := some .long) rfl (trivial))
theorem x_Arithmetic_powerLeft {sc : AS} {d : Nat} (hd : 1 ≤ d) {v0 : Int} {v2 : Int} {v4 : Int} {h : AH} {r : Int} (hx : Arithmetic_powerLeft v0 v2 v4 = some r) : Runs sc d 22 [(1, v0), (1, v2), (1, v4)] h (some (1, r)) h := by
  obtain ⟨d, rfl⟩ : ∃ e, d = e + 1 := ⟨d - 1, by omega⟩
  have hd : 0 ≤ d := by omega
  unfold Arithmetic_powerLeft at hx
  refine ⟨⟨aM_22, rfl, Nat.le_of_ble_eq_true rfl⟩, ?_⟩
  show Ev sc d 22 0 [(1, v0), (8, 0), (1, v2), (8, 0), (1, v4), (8, 0), (9, 0), (9, 0), (9, 0), (9, 0), (9, 0), (9, 0)] [] h (some (1, r)) h
  refine Ev.blk (is := [.lload 4, .lconst 1, .lcmp]) (pc2 := 4) (L2 := [(1, v0), (8, 0), (1, v2), (8, 0), (1, v4), (8, 0), (9, 0), (9, 0), (9, 0), (9, 0), (9, 0), (9, 0)]) (S2 := [(0, cmpL v4 1)]) (h2 := h) (by decide +kernel) rfl trivial ?_
  obtain ⟨ha, hb⟩ := bite hx
  clear hx
  refine Ev.br (i := .ifCond .ge 5) (len := 3) (a := 7) (b := 9) (by decide +kernel) rfl cmpL_lt (fun hc => ?_) (fun hc => ?_)
  · have hx := ha hc
    clear ha hb hc
    refine Ev.blk (is := [.lconst 0]) (pc2 := 8) (L2 := [(1, v0), (8, 0), (1, v2), (8, 0), (1, v4), (8, 0), (9, 0), (9, 0), (9, 0), (9, 0), (9, 0), (9, 0)]) (S2 := [(1, 0)]) (h2 := h) (by decide +kernel) rfl trivial ?_
    cases hx
    exact Ev.ret (i := .lreturn) (len := 1) (by decide +kernel) rfl (finOf (t := some .long) rfl (trivial))
  · have hx := hb hc
    clear ha hb hc
    obtain ⟨u1, hg, he, hx⟩ := bgd hx
    refine Ev.blk (is := [.lconst 1, .lload 4, .lrem]) (pc2 := 13) (L2 := [(1, v0), (8, 0), (1, v2), (8, 0), (1, v4), (8, 0), (9, 0), (9, 0), (9, 0), (9, 0), (9, 0), (9, 0)]) (S2 := [(1, u1)]) (h2 := h) (by decide +kernel) (by subst he; rfl) (by exact hg) ?_
    clear hg he
    obtain ⟨u2, hg, he, hx⟩ := bgd hx
    refine Ev.blk (is := [.lstore 6, .lload_n 0, .lload 4, .lrem]) (pc2 := 19) (L2 := [(1, v0), (8, 0), (1, v2), (8, 0), (1, v4), (8, 0), (1, u1), (8, 0), (9, 0), (9, 0), (9, 0), (9, 0)]) (S2 := [(1, u2)]) (h2 := h) (by decide +kernel) (by subst he; rfl) (by exact hg) ?_
    clear hg he
    refine Ev.blk (is := [.lstore 8, .lload_n 2, .lstore 10]) (pc2 := 24) (L2 := [(1, v0), (8, 0), (1, v2), (8, 0), (1, v4), (8, 0), (1, u1), (8, 0), (1, u2), (8, 0), (1, v2), (8, 0)]) (S2 := []) (h2 := h) (by decide +kernel) rfl trivial ?_
    refine Ev.wk (L2 := [(9, 0), (9, 0), (9, 0), (9, 0), (1, v4), (8, 0), (1, u1), (8, 0), (1, u2), (8, 0), (1, v2), (8, 0)]) (wkL_of ⟨Or.inr rfl, ⟨Or.inr rfl, ⟨Or.inr rfl, ⟨Or.inr rfl, ⟨Or.inl rfl, ⟨Or.inl rfl, ⟨Or.inl rfl, ⟨Or.inl rfl, ⟨Or.inl rfl, ⟨Or.inl rfl, ⟨Or.inl rfl, ⟨Or.inl rfl, trivial⟩⟩⟩⟩⟩⟩⟩⟩⟩⟩⟩⟩) ?_
    exact y_Arithmetic_powerLeft_24 hd FU v4 u1 u2 v2 h _ hx
theorem y_Arithmetic_passesBy_73 {sc : AS} {d : Nat} (hd : 1 ≤ d) : ∀ (fu : Nat) (v0 : Int) (v3 : Int) (v4 : Int) (v6 : Int) (v7 : Int) (h : AH) (r : Int), Arithmetic_passesBy_73 fu v0 v3 v4 v6 v7 = some r → Ev sc d 21 73 [(0, v0), (9, 0), (9, 0), (0, v3), (1, v4), (8, 0), (0, v6), (0, v7)] [] h (some (0, r)) h := by
  intro fu
  induction fu with
  | zero => intro v0 v3 v4 v6 v7 h r hx; unfold Arithmetic_passesBy_73 at hx; cases hx
  | succ fu ih =>
    intro v0 v3 v4 v6 v7 h r hx
    unfold Arithmetic_passesBy_73 at hx
    refine Ev.blk (is := [.iload 7, .iload_n 3]) (pc2 := 76) (L2 := [(0, v0), (9, 0), (9, 0), (0, v3), (1, v4), (8, 0), (0, v6), (0, v7)]) (S2 := [(0, v3), (0, v7)]) (h2 := h) (by decide +kernel) rfl trivial ?_
    obtain ⟨ha, hb⟩ := bite hx
    clear hx
    refine Ev.br (i := .if_icmp .ge 43) (len := 3) (a := 79) (b := 119) (by decide +kernel) rfl Iff.rfl (fun hc => ?_) (fun hc => ?_)
    · have hx := ha hc
      clear ha hb hc
      refine Ev.blk (is := [.iload 6]) (pc2 := 81) (L2 := [(0, v0), (9, 0), (9, 0), (0, v3), (1, v4), (8, 0), (0, v6), (0, v7)]) (S2 := [(0, v6)]) (h2 := h) (by decide +kernel) rfl trivial ?_
      obtain ⟨ha, hb⟩ := bite hx
      clear hx
      refine Ev.br (i := .ifCond .ne 38) (len := 3) (a := 84) (b := 119) (by decide +kernel) rfl Iff.rfl (fun hc => ?_) (fun hc => ?_)
      · have hx := ha hc
        clear ha hb hc
        refine Ev.blk (is := [.lload 4, .jsr_w 2, .iload_n 0, .i2l]) (pc2 := 91) (L2 := [(0, v0), (9, 0), (9, 0), (0, v3), (1, v4), (8, 0), (0, v6), (0, v7)]) (S2 := [(1, v0), (1, 2), (1, v4)]) (h2 := h) (by decide +kernel) rfl trivial ?_
        obtain ⟨u1, hc, hx⟩ := bca hx
        refine Ev.call (args := [(1, v4), (1, 2), (1, v0)]) (S2 := []) (r1 := (some (1, u1))) (h1 := h) (i := .invokestatic 22) (by decide +kernel) rfl rfl (Nat.le_of_ble_eq_true rfl) (Or.inl rfl) (x_Arithmetic_powerLeft (by omega) hc) ?_
        refine Ev.blk (is := [.lstore 4, .lload 4, .iload_n 0, .iconst 1, .isub, .i2l, .lcmp]) (pc2 := 103) (L2 := [(0, v0), (9, 0), (9, 0), (0, v3), (1, u1), (8, 0), (0, v6), (0, v7)]) (S2 := [(0, cmpL u1 (w32 (v0 - 1)))]) (h2 := h) (by decide +kernel) rfl trivial ?_
        obtain ⟨ha, hb⟩ := bite hx
        clear hx
        refine Ev.br (i := .ifCond .ne 7) (len := 3) (a := 106) (b := 110) (by decide +kernel) rfl cmpL_eq (fun hc => ?_) (fun hc => ?_)
        · have hx := ha hc
          clear ha hb hc
          refine Ev.blk (is := [.iconst 1]) (pc2 := 107) (L2 := [(0, v0), (9, 0), (9, 0), (0, v3), (1, u1), (8, 0), (0, v6), (0, v7)]) (S2 := [(0, 1)]) (h2 := h) (by decide +kernel) rfl trivial ?_
          refine Ev.jp (i := .goto 4) (len := 3) (pc2 := 111) (by decide +kernel) rfl ?_
          refine Ev.blk (is := [.istore 6, .iinc 7 1]) (pc2 := 116) (L2 := [(0, v0), (9, 0), (9, 0), (0, v3), (1, u1), (8, 0), (0, 1), (0, w32 (v7 + 1))]) (S2 := []) (h2 := h) (by decide +kernel) rfl trivial ?_
          refine Ev.jp (i := .goto (-43)) (len := 3) (pc2 := 73) (by decide +kernel) rfl ?_
          exact ih v0 v3 u1 1 (w32 (v7 + 1)) h _ hx
        · have hx := hb hc
          clear ha hb hc
          refine Ev.blk (is := [.iconst 0, .istore 6, .iinc 7 1]) (pc2 := 116) (L2 := [(0, v0), (9, 0), (9, 0), (0, v3), (1, u1), (8, 0), (0, 0), (0, w32 (v7 + 1))]) (S2 := []) (h2 := h) (by decide +kernel) rfl trivial ?_
          refine Ev.jp (i := .goto (-43)) (len := 3) (pc2 := 73) (by decide +kernel) rfl ?_
          exact ih v0 v3 u1 0 (w32 (v7 + 1)) h _ hx
      · have hx := hb hc
        clear ha hb hc
        obtain ⟨_, hg, -, hx⟩ := bgd hx
        refine Ev.blk (is := [.iload 6]) (pc2 := 121) (L2 := [(0, v0), (9, 0), (9, 0), (0, v3), (1, v4), (8, 0), (0, v6), (0, v7)]) (S2 := [(0, v6)]) (h2 := h) (by decide +kernel) rfl trivial ?_
        cases hx
        exact Ev.ret (i := .ireturn) (len := 1) (by decide +kernel) rfl (finOf (t := some .boolean) rfl (hg))
    · have hx := hb hc
      clear ha hb hc
      obtain ⟨_, hg, -, hx⟩ := bgd hx
      refine Ev.blk (is := [.iload 6]) (pc2 := 121) (L2 := [(0, v0), (9, 0), (9, 0), (0, v3), (1, v4), (8, 0), (0, v6), (0, v7)]) (S2 := [(0, v6)]) (h2 := h) (by decide +kernel) rfl trivial ?_
      cases hx
      exact Ev.ret (i := .ireturn) (len := 1) (by decide +kernel) rfl (finOf (t := some .boolean) rfl (hg))
theorem y_Arithmetic_passesBy_35 {sc : AS} {d : Nat} (hd : 1 ≤ d) : ∀ (v0 : Int) (v1 : Int) (v2 : Int) (v3 : Int) (h : AH) (r : Int), Arithmetic_passesBy_35 v0 v1 v2 v3 = some r → Ev sc d 21 35 [(0, v0), (0, v1), (0, v2), (0, v3), (9, 0), (9, 0), (9, 0), (9, 0)] [] h (some (0, r)) h := by
  intro v0 v1 v2 v3 h r hx
  unfold Arithmetic_passesBy_35 at hx
  refine Ev.blk (is := [.iload_n 1, .i2l, .iload_n 2, .i2l, .iload_n 0, .i2l]) (pc2 := 41) (L2 := [(0, v0), (0, v1), (0, v2), (0, v3), (9, 0), (9, 0), (9, 0), (9, 0)]) (S2 := [(1, v0), (1, v2), (1, v1)]) (h2 := h) (by decide +kernel) rfl trivial ?_
  obtain ⟨u1, hc, hx⟩ := bca hx
  refine Ev.call (args := [(1, v1), (1, v2), (1, v0)]) (S2 := []) (r1 := (some (1, u1))) (h1 := h) (i := .invokestatic 22) (by decide +kernel) rfl rfl (Nat.le_of_ble_eq_true rfl) (Or.inl rfl) (x_Arithmetic_powerLeft (by omega) hc) ?_
  refine Ev.blk (is := [.lstore 4, .lload 4, .lconst 1, .lcmp]) (pc2 := 50) (L2 := [(0, v0), (0, v1), (0, v2), (0, v3), (1, u1), (8, 0), (9, 0), (9, 0)]) (S2 := [(0, cmpL u1 1)]) (h2 := h) (by decide +kernel) rfl trivial ?_
  obtain ⟨ha, hb⟩ := bite hx
  clear hx
  refine Ev.br (i := .ifCond .eq 13) (len := 3) (a := 63) (b := 53) (by decide +kernel) rfl cmpL_eq (fun hc => ?_) (fun hc => ?_)
  · have hx := ha hc
    clear ha hb hc
    refine Ev.blk (is := [.iconst 1]) (pc2 := 64) (L2 := [(0, v0), (0, v1), (0, v2), (0, v3), (1, u1), (8, 0), (9, 0), (9, 0)]) (S2 := [(0, 1)]) (h2 := h) (by decide +kernel) rfl trivial ?_
    refine Ev.jp (i := .goto 4) (len := 3) (pc2 := 68) (by decide +kernel) rfl ?_
    refine Ev.blk (is := [.istore 6, .iconst 1, .istore 7]) (pc2 := 73) (L2 := [(0, v0), (0, v1), (0, v2), (0, v3), (1, u1), (8, 0), (0, 1), (0, 1)]) (S2 := []) (h2 := h) (by decide +kernel) rfl trivial ?_
    refine Ev.wk (L2 := [(0, v0), (9, 0), (9, 0), (0, v3), (1, u1), (8, 0), (0, 1), (0, 1)]) (wkL_of ⟨Or.inl rfl, ⟨Or.inr rfl, ⟨Or.inr rfl, ⟨Or.inl rfl, ⟨Or.inl rfl, ⟨Or.inl rfl, ⟨Or.inl rfl, ⟨Or.inl rfl, trivial⟩⟩⟩⟩⟩⟩⟩⟩) ?_
    exact y_Arithmetic_passesBy_73 hd FU v0 v3 u1 1 1 h _ hx
  · have hx := hb hc
    clear ha hb hc
    refine Ev.blk (is := [.lload 4, .iload_n 0, .iconst 1, .isub, .i2l, .lcmp]) (pc2 := 60) (L2 := [(0, v0), (0, v1), (0, v2), (0, v3), (1, u1), (8, 0), (9, 0), (9, 0)]) (S2 := [(0, cmpL u1 (w32 (v0 - 1)))]) (h2 := h) (by decide +kernel) rfl trivial ?_
    obtain ⟨ha, hb⟩ := bite hx
    clear hx
    refine Ev.br (i := .ifCond .ne 7) (len := 3) (a := 63) (b := 67) (by decide +kernel) rfl cmpL_eq (fun hc => ?_) (fun hc => ?_)
    · have hx := ha hc
      clear ha hb hc
      refine Ev.blk (is := [.iconst 1]) (pc2 := 64) (L2 := [(0, v0), (0, v1), (0, v2), (0, v3), (1, u1), (8, 0), (9, 0), (9, 0)]) (S2 := [(0, 1)]) (h2 := h) (by decide +kernel) rfl trivial ?_
      refine Ev.jp (i := .goto 4) (len := 3) (pc2 := 68) (by decide +kernel) rfl ?_
      refine Ev.blk (is := [.istore 6, .iconst 1, .istore 7]) (pc2 := 73) (L2 := [(0, v0), (0, v1), (0, v2), (0, v3), (1, u1), (8, 0), (0, 1), (0, 1)]) (S2 := []) (h2 := h) (by decide +kernel) rfl trivial ?_
      refine Ev.wk (L2 := [(0, v0), (9, 0), (9, 0), (0, v3), (1, u1), (8, 0), (0, 1), (0, 1)]) (wkL_of ⟨Or.inl rfl, ⟨Or.inr rfl, ⟨Or.inr rfl, ⟨Or.inl rfl, ⟨Or.inl rfl, ⟨Or.inl rfl, ⟨Or.inl rfl, ⟨Or.inl rfl, trivial⟩⟩⟩⟩⟩⟩⟩⟩) ?_
      exact y_Arithmetic_passesBy_73 hd FU v0 v3 u1 1 1 h _ hx
    · have hx := hb hc
      clear ha hb hc
      refine Ev.blk (is := [.iconst 0, .istore 6, .iconst 1, .istore 7]) (pc2 := 73) (L2 := [(0, v0), (0, v1), (0, v2), (0, v3), (1, u1), (8, 0), (0, 0), (0, 1)]) (S2 := []) (h2 := h) (by decide +kernel) rfl trivial ?_
      refine Ev.wk (L2 := [(0, v0), (9, 0), (9, 0), (0, v3), (1, u1), (8, 0), (0, 0), (0, 1)]) (wkL_of ⟨Or.inl rfl, ⟨Or.inr rfl, ⟨Or.inr rfl, ⟨Or.inl rfl, ⟨Or.inl rfl, ⟨Or.inl rfl, ⟨Or.inl rfl, ⟨Or.inl rfl, trivial⟩⟩⟩⟩⟩⟩⟩⟩) ?_
      exact y_Arithmetic_passesBy_73 hd FU v0 v3 u1 0 1 h _ hx
theorem y_Arithmetic_passesBy_9 {sc : AS} {d : Nat} (hd : 1 ≤ d) : ∀ (fu : Nat) (v0 : Int) (v1 : Int) (v2 : Int) (v3 : Int) (v4 : Int) (h : AH) (r : Int), Arithmetic_passesBy_9 fu v0 v1 v2 v3 v4 = some r → Ev sc d 21 9 [(0, v0), (0, v1), (0, v2), (0, v3), (0, v4), (9, 0), (9, 0), (9, 0)] [] h (some (0, r)) h := by
  intro fu
  induction fu with
  | zero => intro v0 v1 v2 v3 v4 h r hx; unfold Arithmetic_passesBy_9 at hx; cases hx
  | succ fu ih =>
    intro v0 v1 v2 v3 v4 h r hx
    unfold Arithmetic_passesBy_9 at hx
    refine Ev.blk (is := [.iload 4, .sipush 31]) (pc2 := 13) (L2 := [(0, v0), (0, v1), (0, v2), (0, v3), (0, v4), (9, 0), (9, 0), (9, 0)]) (S2 := [(0, 31), (0, v4)]) (h2 := h) (by decide +kernel) rfl trivial ?_
    obtain ⟨ha, hb⟩ := bite hx
    clear hx
    refine Ev.br (i := .if_icmp .ge 22) (len := 3) (a := 16) (b := 35) (by decide +kernel) rfl Iff.rfl (fun hc => ?_) (fun hc => ?_)
    · have hx := ha hc
      clear ha hb hc
      obtain ⟨u1, hg, he, hx⟩ := bgd hx
      refine Ev.blk (is := [.iload_n 2, .iconst 2, .irem]) (pc2 := 19) (L2 := [(0, v0), (0, v1), (0, v2), (0, v3), (0, v4), (9, 0), (9, 0), (9, 0)]) (S2 := [(0, u1)]) (h2 := h) (by decide +kernel) (by subst he; rfl) (by exact hg) ?_
      clear hg he
      obtain ⟨ha, hb⟩ := bite hx
      clear hx
      refine Ev.br (i := .ifCond .ne 16) (len := 3) (a := 22) (b := 35) (by decide +kernel) rfl Iff.rfl (fun hc => ?_) (fun hc => ?_)
      · have hx := ha hc
        clear ha hb hc
        obtain ⟨u2, hg, he, hx⟩ := bgd hx
        refine Ev.blk (is := [.iload_n 2, .iconst 2, .idiv]) (pc2 := 25) (L2 := [(0, v0), (0, v1), (0, v2), (0, v3), (0, v4), (9, 0), (9, 0), (9, 0)]) (S2 := [(0, u2)]) (h2 := h) (by decide +kernel) (by subst he; rfl) (by exact hg) ?_
        clear hg he
        refine Ev.blk (is := [.istore_n 2, .iinc 3 1, .iinc 4 1]) (pc2 := 32) (L2 := [(0, v0), (0, v1), (0, u2), (0, w32 (v3 + 1)), (0, w32 (v4 + 1)), (9, 0), (9, 0), (9, 0)]) (S2 := []) (h2 := h) (by decide +kernel) rfl trivial ?_
        refine Ev.jp (i := .goto (-23)) (len := 3) (pc2 := 9) (by decide +kernel) rfl ?_
        exact ih v0 v1 u2 (w32 (v3 + 1)) (w32 (v4 + 1)) h _ hx
      · have hx := hb hc
        clear ha hb hc
        refine Ev.wk (L2 := [(0, v0), (0, v1), (0, v2), (0, v3), (9, 0), (9, 0), (9, 0), (9, 0)]) (wkL_of ⟨Or.inl rfl, ⟨Or.inl rfl, ⟨Or.inl rfl, ⟨Or.inl rfl, ⟨Or.inr rfl, ⟨Or.inl rfl, ⟨Or.inl rfl, ⟨Or.inl rfl, trivial⟩⟩⟩⟩⟩⟩⟩⟩) ?_
        exact y_Arithmetic_passesBy_35 hd v0 v1 v2 v3 h _ hx
    · have hx := hb hc
      clear ha hb hc
      refine Ev.wk (L2 := [(0, v0), (0, v1), (0, v2), (0, v3), (9, 0), (9, 0), (9, 0), (9, 0)]) (wkL_of ⟨Or.inl rfl, ⟨Or.inl rfl, ⟨Or.inl rfl, ⟨Or.inl rfl, ⟨Or.inr rfl, ⟨Or.inl rfl, ⟨Or.inl rfl, ⟨Or.inl rfl, trivial⟩⟩⟩⟩⟩⟩⟩⟩) ?_
      exact y_Arithmetic_passesBy_35 hd v0 v1 v2 v3 h _ hx
theorem x_Arithmetic_passesBy {sc : AS} {d : Nat} (hd : 2 ≤ d) {v0 : Int} {v1 : Int} {h : AH} {r : Int} (hx : Arithmetic_passesBy v0 v1 = some r) : Runs sc d 21 [(0, v0), (0, v1)] h (some (0, r)) h := by
  obtain ⟨d, rfl⟩ : ∃ e, d = e + 1 := ⟨d - 1, by omega⟩
  have hd : 1 ≤ d := by omega
  unfold Arithmetic_passesBy at hx
  refine ⟨⟨aM_21, rfl, Nat.le_of_ble_eq_true rfl⟩, ?_⟩
  show Ev sc d 21 0 [(0, v0), (0, v1), (9, 0), (9, 0), (9, 0), (9, 0), (9, 0), (9, 0)] [] h (some (0, r)) h
  refine Ev.blk (is := [.iload_n 0, .iconst 1, .isub, .istore_n 2, .iconst 0, .istore_n 3, .iconst 0, .istore 4]) (pc2 := 9) (L2 := [(0, v0), (0, v1), (0, w32 (v0 - 1)), (0, 0), (0, 0), (9, 0), (9, 0), (9, 0)]) (S2 := []) (h2 := h) (by decide +kernel) rfl trivial ?_
  exact y_Arithmetic_passesBy_9 hd FU v0 v1 (w32 (v0 - 1)) 0 0 h _ hx
theorem y_Arithmetic_isPrime_60 {sc : AS} {d : Nat} (hd : 2 ≤ d) : ∀ (fu : Nat) (v0 : Int) (v2 : Int) (v3 : Int) (h : AH) (r : Int), Arithmetic_isPrime_60 fu v0 v2 v3 = some r → Ev sc d 20 60 [(0, v0), (4, 0), (0, v2), (0, v3), (9, 0)] [] h (some (0, r)) h := by
  intro fu
  induction fu with
  | zero => intro v0 v2 v3 h r hx; unfold Arithmetic_isPrime_60 at hx; cases hx
  | succ fu ih =>
    intro v0 v2 v3 h r hx
    unfold Arithmetic_isPrime_60 at hx
    refine Ev.blk (is := [.iload_n 3, .iload_n 2]) (pc2 := 62) (L2 := [(0, v0), (4, 0), (0, v2), (0, v3), (9, 0)]) (S2 := [(0, v2), (0, v3)]) (h2 := h) (by decide +kernel) rfl trivial ?_
    obtain ⟨ha, hb⟩ := bite hx
    clear hx
    refine Ev.br (i := .if_icmp .ge 25) (len := 3) (a := 65) (b := 87) (by decide +kernel) rfl Iff.rfl (fun hc => ?_) (fun hc => ?_)
    · have hx := ha hc
      clear ha hb hc
      obtain ⟨u1, hg, he, hx⟩ := bgd hx
      refine Ev.blk (is := [.aload_n 1, .iload_n 3, .iaload]) (pc2 := 68) (L2 := [(0, v0), (4, 0), (0, v2), (0, v3), (9, 0)]) (S2 := [(0, u1)]) (h2 := h) (by decide +kernel) (by subst he; rfl) (by exact hg) ?_
      clear hg he
      refine Ev.blk (is := [.istore 4, .iload_n 0, .iload 4]) (pc2 := 73) (L2 := [(0, v0), (4, 0), (0, v2), (0, v3), (0, u1)]) (S2 := [(0, u1), (0, v0)]) (h2 := h) (by decide +kernel) rfl trivial ?_
      obtain ⟨u2, hc, hx⟩ := bca hx
      refine Ev.call (args := [(0, v0), (0, u1)]) (S2 := []) (r1 := (some (0, u2))) (h1 := h) (i := .invokestatic 21) (by decide +kernel) rfl rfl (Nat.le_of_ble_eq_true rfl) (Or.inl rfl) (x_Arithmetic_passesBy (by omega) hc) ?_
      obtain ⟨ha, hb⟩ := bite hx
      clear hx
      refine Ev.br (i := .ifCond .ne 5) (len := 3) (a := 79) (b := 81) (by decide +kernel) rfl Iff.rfl (fun hc => ?_) (fun hc => ?_)
      · have hx := ha hc
        clear ha hb hc
        refine Ev.blk (is := [.iconst 0]) (pc2 := 80) (L2 := [(0, v0), (4, 0), (0, v2), (0, v3), (0, u1)]) (S2 := [(0, 0)]) (h2 := h) (by decide +kernel) rfl trivial ?_
        cases hx
        exact Ev.ret (i := .ireturn) (len := 1) (by decide +kernel) rfl (finOf (t := some .boolean) rfl (bz0))
      · have hx := hb hc
        clear ha hb hc
        refine Ev.blk (is := [.iinc 3 1]) (pc2 := 84) (L2 := [(0, v0), (4, 0), (0, v2), (0, w32 (v3 + 1)), (0, u1)]) (S2 := []) (h2 := h) (by decide +kernel) rfl trivial ?_
        refine Ev.jp (i := .goto (-24)) (len := 3) (pc2 := 60) (by decide +kernel) rfl ?_
        refine Ev.wk (L2 := [(0, v0), (4, 0), (0, v2), (0, w32 (v3 + 1)), (9, 0)]) (wkL_of ⟨Or.inl rfl, ⟨Or.inl rfl, ⟨Or.inl rfl, ⟨Or.inl rfl, ⟨Or.inr rfl, trivial⟩⟩⟩⟩⟩) ?_
        exact ih v0 v2 (w32 (v3 + 1)) h _ hx
    · have hx := hb hc
      clear ha hb hc
      refine Ev.blk (is := [.iconst 1]) (pc2 := 88) (L2 := [(0, v0), (4, 0), (0, v2), (0, v3), (9, 0)]) (S2 := [(0, 1)]) (h2 := h) (by decide +kernel) rfl trivial ?_
      cases hx
      exact Ev.ret (i := .ireturn) (len := 1) (by decide +kernel) rfl (finOf (t := some .boolean) rfl (bz1))
theorem y_Arithmetic_isPrime_16 {sc : AS} {d : Nat} (hd : 2 ≤ d) : ∀ (fu : Nat) (v0 : Int) (v2 : Int) (v3 : Int) (h : AH) (r : Int), Arithmetic_isPrime_16 fu v0 v2 v3 = some r → Ev sc d 20 16 [(0, v0), (4, 0), (0, v2), (0, v3), (9, 0)] [] h (some (0, r)) h := by
  intro fu
  induction fu with
  | zero => intro v0 v2 v3 h r hx; unfold Arithmetic_isPrime_16 at hx; cases hx
  | succ fu ih =>
    intro v0 v2 v3 h r hx
    unfold Arithmetic_isPrime_16 at hx
    refine Ev.blk (is := [.iload_n 3, .iload_n 2]) (pc2 := 18) (L2 := [(0, v0), (4, 0), (0, v2), (0, v3), (9, 0)]) (S2 := [(0, v2), (0, v3)]) (h2 := h) (by decide +kernel) rfl trivial ?_
    obtain ⟨ha, hb⟩ := bite hx
    clear hx
    refine Ev.br (i := .if_icmp .ge 33) (len := 3) (a := 21) (b := 51) (by decide +kernel) rfl Iff.rfl (fun hc => ?_) (fun hc => ?_)
    · have hx := ha hc
      clear ha hb hc
      obtain ⟨u1, hg, he, hx⟩ := bgd hx
      refine Ev.blk (is := [.aload_n 1, .iload_n 3, .iaload]) (pc2 := 24) (L2 := [(0, v0), (4, 0), (0, v2), (0, v3), (9, 0)]) (S2 := [(0, u1)]) (h2 := h) (by decide +kernel) (by subst he; rfl) (by exact hg) ?_
      clear hg he
      obtain ⟨u2, hg, he, hx⟩ := bgd hx
      refine Ev.blk (is := [.istore 4, .iload_n 0, .iload 4, .irem]) (pc2 := 30) (L2 := [(0, v0), (4, 0), (0, v2), (0, v3), (0, u1)]) (S2 := [(0, u2)]) (h2 := h) (by decide +kernel) (by subst he; rfl) (by exact hg) ?_
      clear hg he
      obtain ⟨ha, hb⟩ := bite hx
      clear hx
      refine Ev.br (i := .ifCond .ne 15) (len := 3) (a := 33) (b := 45) (by decide +kernel) rfl Iff.rfl (fun hc => ?_) (fun hc => ?_)
      · have hx := ha hc
        clear ha hb hc
        refine Ev.blk (is := [.iload_n 0, .iload 4]) (pc2 := 36) (L2 := [(0, v0), (4, 0), (0, v2), (0, v3), (0, u1)]) (S2 := [(0, u1), (0, v0)]) (h2 := h) (by decide +kernel) rfl trivial ?_
        obtain ⟨ha, hb⟩ := bite hx
        clear hx
        refine Ev.br (i := .if_icmp .ne 7) (len := 3) (a := 39) (b := 43) (by decide +kernel) rfl Iff.rfl (fun hc => ?_) (fun hc => ?_)
        · have hx := ha hc
          clear ha hb hc
          refine Ev.blk (is := [.iconst 1]) (pc2 := 40) (L2 := [(0, v0), (4, 0), (0, v2), (0, v3), (0, u1)]) (S2 := [(0, 1)]) (h2 := h) (by decide +kernel) rfl trivial ?_
          refine Ev.jp (i := .goto 4) (len := 3) (pc2 := 44) (by decide +kernel) rfl ?_
          cases hx
          exact Ev.ret (i := .ireturn) (len := 1) (by decide +kernel) rfl (finOf (t := some .boolean) rfl (bz1))
        · have hx := hb hc
          clear ha hb hc
          refine Ev.blk (is := [.iconst 0]) (pc2 := 44) (L2 := [(0, v0), (4, 0), (0, v2), (0, v3), (0, u1)]) (S2 := [(0, 0)]) (h2 := h) (by decide +kernel) rfl trivial ?_
          cases hx
          exact Ev.ret (i := .ireturn) (len := 1) (by decide +kernel) rfl (finOf (t := some .boolean) rfl (bz0))
      · have hx := hb hc
        clear ha hb hc
        refine Ev.blk (is := [.iinc 3 1]) (pc2 := 48) (L2 := [(0, v0), (4, 0), (0, v2), (0, w32 (v3 + 1)), (0, u1)]) (S2 := []) (h2 := h) (by decide +kernel) rfl trivial ?_
        refine Ev.jp (i := .goto (-32)) (len := 3) (pc2 := 16) (by decide +kernel) rfl ?_
        refine Ev.wk (L2 := [(0, v0), (4, 0), (0, v2), (0, w32 (v3 + 1)), (9, 0)]) (wkL_of ⟨Or.inl rfl, ⟨Or.inl rfl, ⟨Or.inl rfl, ⟨Or.inl rfl, ⟨Or.inr rfl, trivial⟩⟩⟩⟩⟩) ?_
        exact ih v0 v2 (w32 (v3 + 1)) h _ hx
    · have hx := hb hc
      clear ha hb hc
      refine Ev.blk (is := [.getstatic 0, .astore_n 1, .aload_n 1, .arraylength, .istore_n 2, .iconst 0, .istore_n 3]) (pc2 := 60) (L2 := [(0, v0), (4, 0), (0, 4), (0, 0), (9, 0)]) (S2 := []) (h2 := h) (by decide +kernel) rfl trivial ?_
      exact y_Arithmetic_isPrime_60 hd FU v0 4 0 h _ hx
theorem x_Arithmetic_isPrime {sc : AS} {d : Nat} (hd : 3 ≤ d) {v0 : Int} {h : AH} {r : Int} (hx : Arithmetic_isPrime v0 = some r) : Runs sc d 20 [(0, v0)] h (some (0, r)) h := by
  obtain ⟨d, rfl⟩ : ∃ e, d = e + 1 := ⟨d - 1, by omega⟩
  have hd : 2 ≤ d := by omega
  unfold Arithmetic_isPrime at hx
  refine ⟨⟨aM_20, rfl, Nat.le_of_ble_eq_true rfl⟩, ?_⟩
  show Ev sc d 20 0 [(0, v0), (9, 0), (9, 0), (9, 0), (9, 0)] [] h (some (0, r)) h
  refine Ev.blk (is := [.iload_n 0, .iconst 2]) (pc2 := 2) (L2 := [(0, v0), (9, 0), (9, 0), (9, 0), (9, 0)]) (S2 := [(0, 2), (0, v0)]) (h2 := h) (by decide +kernel) rfl trivial ?_
  obtain ⟨ha, hb⟩ := bite hx
  clear hx
  refine Ev.br (i := .if_icmp .ge 5) (len := 3) (a := 5) (b := 7) (by decide +kernel) rfl Iff.rfl (fun hc => ?_) (fun hc => ?_)
  · have hx := ha hc
    clear ha hb hc
    refine Ev.blk (is := [.iconst 0]) (pc2 := 6) (L2 := [(0, v0), (9, 0), (9, 0), (9, 0), (9, 0)]) (S2 := [(0, 0)]) (h2 := h) (by decide +kernel) rfl trivial ?_
    cases hx
    exact Ev.ret (i := .ireturn) (len := 1) (by decide +kernel) rfl (finOf (t := some .boolean) rfl (bz0))
  · have hx := hb hc
    clear ha hb hc
    refine Ev.blk (is := [.getstatic 0, .astore_n 1, .aload_n 1, .arraylength, .istore_n 2, .iconst 0, .istore_n 3]) (pc2 := 16) (L2 := [(0, v0), (4, 0), (0, 4), (0, 0), (9, 0)]) (S2 := []) (h2 := h) (by decide +kernel) rfl trivial ?_
    exact y_Arithmetic_isPrime_16 hd FU v0 4 0 h _ hx
theorem y_Arithmetic_timesDivides_19 {sc : AS} {d : Nat} (hd : 0 ≤ d) : ∀ (fu : Nat) (v1 : Int) (v2 : Int) (v3 : Int) (v4 : Int) (h : AH) (r : Int), Arithmetic_timesDivides_19 fu v1 v2 v3 v4 = some r → Ev sc d 25 19 [(9, 0), (0, v1), (0, v2), (0, v3), (0, v4)] [] h (some (0, r)) h := by
  intro fu
  induction fu with
  | zero => intro v1 v2 v3 v4 h r hx; unfold Arithmetic_timesDivides_19 at hx; cases hx
  | succ fu ih =>
    intro v1 v2 v3 v4 h r hx
    unfold Arithmetic_timesDivides_19 at hx
    refine Ev.blk (is := [.iload 4, .sipush 31]) (pc2 := 23) (L2 := [(9, 0), (0, v1), (0, v2), (0, v3), (0, v4)]) (S2 := [(0, 31), (0, v4)]) (h2 := h) (by decide +kernel) rfl trivial ?_
    obtain ⟨ha, hb⟩ := bite hx
    clear hx
    refine Ev.br (i := .if_icmp .ge 22) (len := 3) (a := 26) (b := 45) (by decide +kernel) rfl Iff.rfl (fun hc => ?_) (fun hc => ?_)
    · have hx := ha hc
      clear ha hb hc
      obtain ⟨u1, hg, he, hx⟩ := bgd hx
      refine Ev.blk (is := [.iload_n 2, .iload_n 1, .irem]) (pc2 := 29) (L2 := [(9, 0), (0, v1), (0, v2), (0, v3), (0, v4)]) (S2 := [(0, u1)]) (h2 := h) (by decide +kernel) (by subst he; rfl) (by exact hg) ?_
      clear hg he
      obtain ⟨ha, hb⟩ := bite hx
      clear hx
      refine Ev.br (i := .ifCond .ne 16) (len := 3) (a := 32) (b := 45) (by decide +kernel) rfl Iff.rfl (fun hc => ?_) (fun hc => ?_)
      · have hx := ha hc
        clear ha hb hc
        obtain ⟨u2, hg, he, hx⟩ := bgd hx
        refine Ev.blk (is := [.iload_n 2, .iload_n 1, .idiv]) (pc2 := 35) (L2 := [(9, 0), (0, v1), (0, v2), (0, v3), (0, v4)]) (S2 := [(0, u2)]) (h2 := h) (by decide +kernel) (by subst he; rfl) (by exact hg) ?_
        clear hg he
        refine Ev.blk (is := [.istore_n 2, .iinc 3 1, .iinc 4 1]) (pc2 := 42) (L2 := [(9, 0), (0, v1), (0, u2), (0, w32 (v3 + 1)), (0, w32 (v4 + 1))]) (S2 := []) (h2 := h) (by decide +kernel) rfl trivial ?_
        refine Ev.jp (i := .goto (-23)) (len := 3) (pc2 := 19) (by decide +kernel) rfl ?_
        exact ih v1 u2 (w32 (v3 + 1)) (w32 (v4 + 1)) h _ hx
      · have hx := hb hc
        clear ha hb hc
        refine Ev.blk (is := [.iload_n 3]) (pc2 := 46) (L2 := [(9, 0), (0, v1), (0, v2), (0, v3), (0, v4)]) (S2 := [(0, v3)]) (h2 := h) (by decide +kernel) rfl trivial ?_
        cases hx
        exact Ev.ret (i := .ireturn) (len := 1) (by decide +kernel) rfl (finOf (t := some .int) rfl (trivial))
    · have hx := hb hc
      clear ha hb hc
      refine Ev.blk (is := [.iload_n 3]) (pc2 := 46) (L2 := [(9, 0), (0, v1), (0, v2), (0, v3), (0, v4)]) (S2 := [(0, v3)]) (h2 := h) (by decide +kernel) rfl trivial ?_
      cases hx
      exact Ev.ret (i := .ireturn) (len := 1) (by decide +kernel) rfl (finOf (t := some .int) rfl (trivial))
theorem x_Arithmetic_timesDivides {sc : AS} {d : Nat} (hd : 1 ≤ d) {v0 : Int} {v1 : Int} {h : AH} {r : Int} (hx : Arithmetic_timesDivides v0 v1 = some r) : Runs sc d 25 [(0, v0), (0, v1)] h (some (0, r)) h := by
  obtain ⟨d, rfl⟩ : ∃ e, d = e + 1 := ⟨d - 1, by omega⟩
  have hd : 0 ≤ d := by omega
  unfold Arithmetic_timesDivides at hx
  refine ⟨⟨aM_25, rfl, Nat.le_of_ble_eq_true rfl⟩, ?_⟩
  show Ev sc d 25 0 [(0, v0), (0, v1), (9, 0), (9, 0), (9, 0)] [] h (some (0, r)) h
  refine Ev.blk (is := [.iload_n 0, .iconst 1]) (pc2 := 2) (L2 := [(0, v0), (0, v1), (9, 0), (9, 0), (9, 0)]) (S2 := [(0, 1), (0, v0)]) (h2 := h) (by decide +kernel) rfl trivial ?_
  obtain ⟨ha, hb⟩ := bite hx
  clear hx
  refine Ev.br (i := .if_icmp .lt 8) (len := 3) (a := 10) (b := 5) (by decide +kernel) rfl Iff.rfl (fun hc => ?_) (fun hc => ?_)
  · have hx := ha hc
    clear ha hb hc
    refine Ev.blk (is := [.iconst 0]) (pc2 := 11) (L2 := [(0, v0), (0, v1), (9, 0), (9, 0), (9, 0)]) (S2 := [(0, 0)]) (h2 := h) (by decide +kernel) rfl trivial ?_
    cases hx
    exact Ev.ret (i := .ireturn) (len := 1) (by decide +kernel) rfl (finOf (t := some .int) rfl (trivial))
  · have hx := hb hc
    clear ha hb hc
    refine Ev.blk (is := [.iload_n 1, .iconst 2]) (pc2 := 7) (L2 := [(0, v0), (0, v1), (9, 0), (9, 0), (9, 0)]) (S2 := [(0, 2), (0, v1)]) (h2 := h) (by decide +kernel) rfl trivial ?_
    obtain ⟨ha, hb⟩ := bite hx
    clear hx
    refine Ev.br (i := .if_icmp .ge 5) (len := 3) (a := 10) (b := 12) (by decide +kernel) rfl Iff.rfl (fun hc => ?_) (fun hc => ?_)
    · have hx := ha hc
      clear ha hb hc
      refine Ev.blk (is := [.iconst 0]) (pc2 := 11) (L2 := [(0, v0), (0, v1), (9, 0), (9, 0), (9, 0)]) (S2 := [(0, 0)]) (h2 := h) (by decide +kernel) rfl trivial ?_
      cases hx
      exact Ev.ret (i := .ireturn) (len := 1) (by decide +kernel) rfl (finOf (t := some .int) rfl (trivial))
    · have hx := hb hc
      clear ha hb hc
      refine Ev.blk (is := [.iload_n 0, .istore_n 2, .iconst 0, .istore_n 3, .iconst 0, .istore 4]) (pc2 := 19) (L2 := [(0, v0), (0, v1), (0, v0), (0, 0), (0, 0)]) (S2 := []) (h2 := h) (by decide +kernel) rfl trivial ?_
      refine Ev.wk (L2 := [(9, 0), (0, v1), (0, v0), (0, 0), (0, 0)]) (wkL_of ⟨Or.inr rfl, ⟨Or.inl rfl, ⟨Or.inl rfl, ⟨Or.inl rfl, ⟨Or.inl rfl, trivial⟩⟩⟩⟩⟩) ?_
      exact y_Arithmetic_timesDivides_19 hd FU v1 v0 0 0 h _ hx
theorem x_Factors_add {sc : AS} {d : Nat} (hd : 1 ≤ d) {v0 : Int} {v1 : Int} {v2 : Int} {h : AH} {r : AH} (hx : Factors_add v0 v1 v2 h = some r) : Runs sc d 26 [(2, v0), (0, v1), (0, v2)] h none r := by
  obtain ⟨d, rfl⟩ : ∃ e, d = e + 1 := ⟨d - 1, by omega⟩
  have hd : 0 ≤ d := by omega
  unfold Factors_add at hx
  refine ⟨⟨aM_26, rfl, Nat.le_of_ble_eq_true rfl⟩, ?_⟩
  show Ev sc d 26 0 [(2, v0), (0, v1), (0, v2)] [] h none r
  obtain ⟨u1, hg, he, hx⟩ := bgd hx
  refine Ev.blk (is := [.aload_n 0, .getfield 2]) (pc2 := 4) (L2 := [(2, v0), (0, v1), (0, v2)]) (S2 := [(0, u1)]) (h2 := h) (by decide +kernel) (by subst he; rfl) (by exact hg) ?_
  clear hg he
  obtain ⟨u2, hg, he, hx⟩ := bgd hx
  refine Ev.blk (is := [.aload_n 0, .getfield 200]) (pc2 := 8) (L2 := [(2, v0), (0, v1), (0, v2)]) (S2 := [(2, u2), (0, u1)]) (h2 := h) (by decide +kernel) (by subst he; rfl) (by exact hg) ?_
  clear hg he
  obtain ⟨u3, hg, he, hx⟩ := bgd hx
  refine Ev.blk (is := [.arraylength]) (pc2 := 9) (L2 := [(2, v0), (0, v1), (0, v2)]) (S2 := [(0, u3), (0, u1)]) (h2 := h) (by decide +kernel) (by subst he; rfl) (by exact hg) ?_
  clear hg he
  obtain ⟨ha, hb⟩ := bite hx
  clear hx
  refine Ev.br (i := .if_icmp .ge 33) (len := 3) (a := 12) (b := 42) (by decide +kernel) rfl Iff.rfl (fun hc => ?_) (fun hc => ?_)
  · have hx := ha hc
    clear ha hb hc
    obtain ⟨u4, hg, he, hx⟩ := bgd hx
    refine Ev.blk (is := [.aload_n 0, .getfield 200]) (pc2 := 16) (L2 := [(2, v0), (0, v1), (0, v2)]) (S2 := [(2, u4)]) (h2 := h) (by decide +kernel) (by subst he; rfl) (by exact hg) ?_
    clear hg he
    obtain ⟨u5, hg, he, hx⟩ := bgd hx
    refine Ev.blk (is := [.aload_n 0, .getfield 2]) (pc2 := 20) (L2 := [(2, v0), (0, v1), (0, v2)]) (S2 := [(0, u5), (2, u4)]) (h2 := h) (by decide +kernel) (by subst he; rfl) (by exact hg) ?_
    clear hg he
    obtain ⟨h6, hg, he, hx⟩ := bgd hx
    refine Ev.blk (is := [.iload_n 1, .iastore]) (pc2 := 22) (L2 := [(2, v0), (0, v1), (0, v2)]) (S2 := []) (h2 := h6) (by decide +kernel) (by subst he; rfl) (by exact hg) ?_
    clear hg he
    obtain ⟨u7, hg, he, hx⟩ := bgd hx
    refine Ev.blk (is := [.aload_n 0, .getfield 201]) (pc2 := 26) (L2 := [(2, v0), (0, v1), (0, v2)]) (S2 := [(2, u7)]) (h2 := h6) (by decide +kernel) (by subst he; rfl) (by exact hg) ?_
    clear hg he
    obtain ⟨u8, hg, he, hx⟩ := bgd hx
    refine Ev.blk (is := [.aload_n 0, .getfield 2]) (pc2 := 30) (L2 := [(2, v0), (0, v1), (0, v2)]) (S2 := [(0, u8), (2, u7)]) (h2 := h6) (by decide +kernel) (by subst he; rfl) (by exact hg) ?_
    clear hg he
    obtain ⟨h9, hg, he, hx⟩ := bgd hx
    refine Ev.blk (is := [.iload_n 2, .iastore]) (pc2 := 32) (L2 := [(2, v0), (0, v1), (0, v2)]) (S2 := []) (h2 := h9) (by decide +kernel) (by subst he; rfl) (by exact hg) ?_
    clear hg he
    obtain ⟨u10, hg, he, hx⟩ := bgd hx
    refine Ev.blk (is := [.aload_n 0, .dup, .getfield 2]) (pc2 := 37) (L2 := [(2, v0), (0, v1), (0, v2)]) (S2 := [(0, u10), (2, v0)]) (h2 := h9) (by decide +kernel) (by subst he; rfl) (by exact hg) ?_
    clear hg he
    obtain ⟨h11, hg, he, hx⟩ := bgd hx
    refine Ev.blk (is := [.iconst 1, .iadd, .putfield 2]) (pc2 := 42) (L2 := [(2, v0), (0, v1), (0, v2)]) (S2 := []) (h2 := h11) (by decide +kernel) (by subst he; rfl) (by exact hg) ?_
    clear hg he
    cases hx
    exact Ev.ret (i := .return_) (len := 1) (by decide +kernel) rfl (finOf (t := none) rfl (trivial))
  · have hx := hb hc
    clear ha hb hc
    cases hx
    exact Ev.ret (i := .return_) (len := 1) (by decide +kernel) rfl (finOf (t := none) rfl (trivial))
theorem y_Factors_takeAll_18 {sc : AS} {d : Nat} (hd : 1 ≤ d) : ∀ (fu : Nat) (v2 : Int) (v3 : Int) (v4 : Int) (v5 : Int) (h : AH) (r : (Int × AH)), Factors_takeAll_18 fu v2 v3 v4 v5 h = some r → Ev sc d 24 18 [(9, 0), (9, 0), (0, v2), (0, v3), (0, v4), (0, v5)] [] h (some (0, r.1)) r.2 := by
  intro fu
  induction fu with
  | zero => intro v2 v3 v4 v5 h r hx; unfold Factors_takeAll_18 at hx; cases hx
  | succ fu ih =>
    intro v2 v3 v4 v5 h r hx
    unfold Factors_takeAll_18 at hx
    refine Ev.blk (is := [.iload 5, .iload_n 3]) (pc2 := 21) (L2 := [(9, 0), (9, 0), (0, v2), (0, v3), (0, v4), (0, v5)]) (S2 := [(0, v3), (0, v5)]) (h2 := h) (by decide +kernel) rfl trivial ?_
    obtain ⟨ha, hb⟩ := bite hx
    clear hx
    refine Ev.br (i := .if_icmp .ge 20) (len := 3) (a := 24) (b := 41) (by decide +kernel) rfl Iff.rfl (fun hc => ?_) (fun hc => ?_)
    · have hx := ha hc
      clear ha hb hc
      refine Ev.blk (is := [.iload_n 2, .iconst 1]) (pc2 := 26) (L2 := [(9, 0), (9, 0), (0, v2), (0, v3), (0, v4), (0, v5)]) (S2 := [(0, 1), (0, v2)]) (h2 := h) (by decide +kernel) rfl trivial ?_
      obtain ⟨ha, hb⟩ := bite hx
      clear hx
      refine Ev.br (i := .if_icmp .le 15) (len := 3) (a := 29) (b := 41) (by decide +kernel) rfl Iff.rfl (fun hc => ?_) (fun hc => ?_)
      · have hx := ha hc
        clear ha hb hc
        obtain ⟨u1, hg, he, hx⟩ := bgd hx
        refine Ev.blk (is := [.iload 4, .iload_n 2, .idiv]) (pc2 := 33) (L2 := [(9, 0), (9, 0), (0, v2), (0, v3), (0, v4), (0, v5)]) (S2 := [(0, u1)]) (h2 := h) (by decide +kernel) (by subst he; rfl) (by exact hg) ?_
        clear hg he
        refine Ev.blk (is := [.istore 4, .iinc 5 1]) (pc2 := 38) (L2 := [(9, 0), (9, 0), (0, v2), (0, v3), (0, u1), (0, w32 (v5 + 1))]) (S2 := []) (h2 := h) (by decide +kernel) rfl trivial ?_
        refine Ev.jp (i := .goto (-20)) (len := 3) (pc2 := 18) (by decide +kernel) rfl ?_
        exact ih v2 v3 u1 (w32 (v5 + 1)) h _ hx
      · have hx := hb hc
        clear ha hb hc
        refine Ev.blk (is := [.iload 4]) (pc2 := 43) (L2 := [(9, 0), (9, 0), (0, v2), (0, v3), (0, v4), (0, v5)]) (S2 := [(0, v4)]) (h2 := h) (by decide +kernel) rfl trivial ?_
        cases hx
        exact Ev.ret (i := .ireturn) (len := 1) (by decide +kernel) rfl (finOf (t := some .int) rfl (trivial))
    · have hx := hb hc
      clear ha hb hc
      refine Ev.blk (is := [.iload 4]) (pc2 := 43) (L2 := [(9, 0), (9, 0), (0, v2), (0, v3), (0, v4), (0, v5)]) (S2 := [(0, v4)]) (h2 := h) (by decide +kernel) rfl trivial ?_
      cases hx
      exact Ev.ret (i := .ireturn) (len := 1) (by decide +kernel) rfl (finOf (t := some .int) rfl (trivial))
theorem x_Factors_takeAll {sc : AS} {d : Nat} (hd : 2 ≤ d) {v0 : Int} {v1 : Int} {v2 : Int} {h : AH} {r : (Int × AH)} (hx : Factors_takeAll v0 v1 v2 h = some r) : Runs sc d 24 [(2, v0), (0, v1), (0, v2)] h (some (0, r.1)) r.2 := by
  obtain ⟨d, rfl⟩ : ∃ e, d = e + 1 := ⟨d - 1, by omega⟩
  have hd : 1 ≤ d := by omega
  unfold Factors_takeAll at hx
  refine ⟨⟨aM_24, rfl, Nat.le_of_ble_eq_true rfl⟩, ?_⟩
  show Ev sc d 24 0 [(2, v0), (0, v1), (0, v2), (9, 0), (9, 0), (9, 0)] [] h (some (0, r.1)) r.2
  refine Ev.blk (is := [.iload_n 1, .iload_n 2]) (pc2 := 2) (L2 := [(2, v0), (0, v1), (0, v2), (9, 0), (9, 0), (9, 0)]) (S2 := [(0, v2), (0, v1)]) (h2 := h) (by decide +kernel) rfl trivial ?_
  obtain ⟨u1, hc, hx⟩ := bca hx
  refine Ev.call (args := [(0, v1), (0, v2)]) (S2 := []) (r1 := (some (0, u1))) (h1 := h) (i := .invokestatic 25) (by decide +kernel) rfl rfl (Nat.le_of_ble_eq_true rfl) (Or.inl rfl) (x_Arithmetic_timesDivides (by omega) hc) ?_
  refine Ev.blk (is := [.istore_n 3, .aload_n 0, .iload_n 2, .iload_n 3]) (pc2 := 9) (L2 := [(2, v0), (0, v1), (0, v2), (0, u1), (9, 0), (9, 0)]) (S2 := [(0, u1), (0, v2), (2, v0)]) (h2 := h) (by decide +kernel) rfl trivial ?_
  obtain ⟨_, hg, -, hx⟩ := bgd hx
  obtain ⟨h3, hc, hx⟩ := bca hx
  refine Ev.call (args := [(2, v0), (0, v2), (0, u1)]) (S2 := []) (r1 := none) (h1 := h3) (i := .invokevirtual 26) (by decide +kernel) rfl rfl (Nat.le_of_ble_eq_true rfl) (Or.inr (Or.inl ⟨rfl, hg, by decide +kernel⟩)) (x_Factors_add (by omega) hc) ?_
  refine Ev.blk (is := [.iload_n 1, .istore 4, .iconst 0, .istore 5]) (pc2 := 18) (L2 := [(2, v0), (0, v1), (0, v2), (0, u1), (0, v1), (0, 0)]) (S2 := []) (h2 := h3) (by decide +kernel) rfl trivial ?_
  refine Ev.wk (L2 := [(9, 0), (9, 0), (0, v2), (0, u1), (0, v1), (0, 0)]) (wkL_of ⟨Or.inr rfl, ⟨Or.inr rfl, ⟨Or.inl rfl, ⟨Or.inl rfl, ⟨Or.inl rfl, ⟨Or.inl rfl, trivial⟩⟩⟩⟩⟩⟩) ?_
  exact y_Factors_takeAll_18 hd FU v2 u1 v1 0 h3 _ hx
theorem y_Factors_split_71 {sc : AS} {d : Nat} (hd : 3 ≤ d) : ∀ (v0 : Int) (v2 : Int) (h : AH) (r : AH), Factors_split_71 v0 v2 h = some r → Ev sc d 23 71 [(2, v0), (9, 0), (0, v2), (9, 0), (9, 0)] [] h none r := by
  intro v0 v2 h r hx
  unfold Factors_split_71 at hx
  refine Ev.blk (is := [.iload_n 2, .iconst 1]) (pc2 := 73) (L2 := [(2, v0), (9, 0), (0, v2), (9, 0), (9, 0)]) (S2 := [(0, 1), (0, v2)]) (h2 := h) (by decide +kernel) rfl trivial ?_
  obtain ⟨ha, hb⟩ := bite hx
  clear hx
  refine Ev.br (i := .if_icmp .le 9) (len := 3) (a := 76) (b := 82) (by decide +kernel) rfl Iff.rfl (fun hc => ?_) (fun hc => ?_)
  · have hx := ha hc
    clear ha hb hc
    refine Ev.blk (is := [.aload_n 0, .iload_n 2, .iconst 1]) (pc2 := 79) (L2 := [(2, v0), (9, 0), (0, v2), (9, 0), (9, 0)]) (S2 := [(0, 1), (0, v2), (2, v0)]) (h2 := h) (by decide +kernel) rfl trivial ?_
    obtain ⟨_, hg, -, hx⟩ := bgd hx
    obtain ⟨h2, hc, hx⟩ := bca hx
    refine Ev.call (args := [(2, v0), (0, v2), (0, 1)]) (S2 := []) (r1 := none) (h1 := h2) (i := .invokevirtual 26) (by decide +kernel) rfl rfl (Nat.le_of_ble_eq_true rfl) (Or.inr (Or.inl ⟨rfl, hg, by decide +kernel⟩)) (x_Factors_add (by omega) hc) ?_
    cases hx
    exact Ev.ret (i := .return_) (len := 1) (by decide +kernel) rfl (finOf (t := none) rfl (trivial))
  · have hx := hb hc
    clear ha hb hc
    cases hx
    exact Ev.ret (i := .return_) (len := 1) (by decide +kernel) rfl (finOf (t := none) rfl (trivial))
theorem y_Factors_split_15 {sc : AS} {d : Nat} (hd : 3 ≤ d) : ∀ (fu : Nat) (v0 : Int) (v2 : Int) (v3 : Int) (v4 : Int) (h : AH) (r : AH), Factors_split_15 fu v0 v2 v3 v4 h = some r → Ev sc d 23 15 [(2, v0), (9, 0), (0, v2), (0, v3), (0, v4)] [] h none r := by
  intro fu
  induction fu with
  | zero => intro v0 v2 v3 v4 h r hx; unfold Factors_split_15 at hx; cases hx
  | succ fu ih =>
    intro v0 v2 v3 v4 h r hx
    unfold Factors_split_15 at hx
    refine Ev.blk (is := [.iload_n 3]) (pc2 := 16) (L2 := [(2, v0), (9, 0), (0, v2), (0, v3), (0, v4)]) (S2 := [(0, v3)]) (h2 := h) (by decide +kernel) rfl trivial ?_
    obtain ⟨ha, hb⟩ := bite hx
    clear hx
    refine Ev.br (i := .ifCond .ne 55) (len := 3) (a := 19) (b := 71) (by decide +kernel) rfl Iff.rfl (fun hc => ?_) (fun hc => ?_)
    · have hx := ha hc
      clear ha hb hc
      refine Ev.blk (is := [.iload 4, .i2l, .iload 4, .i2l, .lmul, .iload_n 2, .i2l, .lcmp]) (pc2 := 29) (L2 := [(2, v0), (9, 0), (0, v2), (0, v3), (0, v4)]) (S2 := [(0, cmpL (w64 (v4 * v4)) v2)]) (h2 := h) (by decide +kernel) rfl trivial ?_
      obtain ⟨ha, hb⟩ := bite hx
      clear hx
      refine Ev.br (i := .ifCond .gt 42) (len := 3) (a := 71) (b := 32) (by decide +kernel) rfl cmpL_gt (fun hc => ?_) (fun hc => ?_)
      · have hx := ha hc
        clear ha hb hc
        refine Ev.wk (L2 := [(2, v0), (9, 0), (0, v2), (9, 0), (9, 0)]) (wkL_of ⟨Or.inl rfl, ⟨Or.inl rfl, ⟨Or.inl rfl, ⟨Or.inr rfl, ⟨Or.inr rfl, trivial⟩⟩⟩⟩⟩) ?_
        exact y_Factors_split_71 hd v0 v2 h _ hx
      · have hx := hb hc
        clear ha hb hc
        obtain ⟨u1, hg, he, hx⟩ := bgd hx
        refine Ev.blk (is := [.iload_n 2, .iload 4, .irem]) (pc2 := 36) (L2 := [(2, v0), (9, 0), (0, v2), (0, v3), (0, v4)]) (S2 := [(0, u1)]) (h2 := h) (by decide +kernel) (by subst he; rfl) (by exact hg) ?_
        clear hg he
        obtain ⟨ha, hb⟩ := bite hx
        clear hx
        refine Ev.br (i := .ifCond .ne 16) (len := 3) (a := 39) (b := 52) (by decide +kernel) rfl Iff.rfl (fun hc => ?_) (fun hc => ?_)
        · have hx := ha hc
          clear ha hb hc
          refine Ev.blk (is := [.aload_n 0, .iload_n 2, .iload 4]) (pc2 := 43) (L2 := [(2, v0), (9, 0), (0, v2), (0, v3), (0, v4)]) (S2 := [(0, v4), (0, v2), (2, v0)]) (h2 := h) (by decide +kernel) rfl trivial ?_
          obtain ⟨_, hg, -, hx⟩ := bgd hx
          obtain ⟨u2, hc, hx⟩ := bca hx
          refine Ev.call (args := [(2, v0), (0, v2), (0, v4)]) (S2 := []) (r1 := (some (0, u2.1))) (h1 := u2.2) (i := .invokevirtual 24) (by decide +kernel) rfl rfl (Nat.le_of_ble_eq_true rfl) (Or.inr (Or.inl ⟨rfl, hg, by decide +kernel⟩)) (x_Factors_takeAll (by omega) hc) ?_
          refine Ev.blk (is := [.istore_n 2, .iload_n 2]) (pc2 := 48) (L2 := [(2, v0), (9, 0), (0, u2.1), (0, v3), (0, v4)]) (S2 := [(0, u2.1)]) (h2 := u2.2) (by decide +kernel) rfl trivial ?_
          obtain ⟨u3, hc, hx⟩ := bca hx
          refine Ev.call (args := [(0, u2.1)]) (S2 := []) (r1 := (some (0, u3))) (h1 := u2.2) (i := .invokestatic 20) (by decide +kernel) rfl rfl (Nat.le_of_ble_eq_true rfl) (Or.inl rfl) (x_Arithmetic_isPrime (by omega) hc) ?_
          refine Ev.blk (is := [.istore_n 3, .iload 4, .iload 4, .iconst 2]) (pc2 := 57) (L2 := [(2, v0), (9, 0), (0, u2.1), (0, u3), (0, v4)]) (S2 := [(0, 2), (0, v4), (0, v4)]) (h2 := u2.2) (by decide +kernel) rfl trivial ?_
          obtain ⟨ha, hb⟩ := bite hx
          clear hx
          refine Ev.br (i := .if_icmp .ne 7) (len := 3) (a := 60) (b := 64) (by decide +kernel) rfl Iff.rfl (fun hc => ?_) (fun hc => ?_)
          · have hx := ha hc
            clear ha hb hc
            refine Ev.blk (is := [.iconst 1]) (pc2 := 61) (L2 := [(2, v0), (9, 0), (0, u2.1), (0, u3), (0, v4)]) (S2 := [(0, 1), (0, v4)]) (h2 := u2.2) (by decide +kernel) rfl trivial ?_
            refine Ev.jp (i := .goto 4) (len := 3) (pc2 := 65) (by decide +kernel) rfl ?_
            refine Ev.blk (is := [.iadd, .istore 4]) (pc2 := 68) (L2 := [(2, v0), (9, 0), (0, u2.1), (0, u3), (0, w32 (v4 + 1))]) (S2 := []) (h2 := u2.2) (by decide +kernel) rfl trivial ?_
            refine Ev.jp (i := .goto (-53)) (len := 3) (pc2 := 15) (by decide +kernel) rfl ?_
            exact ih v0 u2.1 u3 (w32 (v4 + 1)) u2.2 _ hx
          · have hx := hb hc
            clear ha hb hc
            refine Ev.blk (is := [.iconst 2, .iadd, .istore 4]) (pc2 := 68) (L2 := [(2, v0), (9, 0), (0, u2.1), (0, u3), (0, w32 (v4 + 2))]) (S2 := []) (h2 := u2.2) (by decide +kernel) rfl trivial ?_
            refine Ev.jp (i := .goto (-53)) (len := 3) (pc2 := 15) (by decide +kernel) rfl ?_
            exact ih v0 u2.1 u3 (w32 (v4 + 2)) u2.2 _ hx
        · have hx := hb hc
          clear ha hb hc
          refine Ev.blk (is := [.iload 4, .iload 4, .iconst 2]) (pc2 := 57) (L2 := [(2, v0), (9, 0), (0, v2), (0, v3), (0, v4)]) (S2 := [(0, 2), (0, v4), (0, v4)]) (h2 := h) (by decide +kernel) rfl trivial ?_
          obtain ⟨ha, hb⟩ := bite hx
          clear hx
          refine Ev.br (i := .if_icmp .ne 7) (len := 3) (a := 60) (b := 64) (by decide +kernel) rfl Iff.rfl (fun hc => ?_) (fun hc => ?_)
          · have hx := ha hc
            clear ha hb hc
            refine Ev.blk (is := [.iconst 1]) (pc2 := 61) (L2 := [(2, v0), (9, 0), (0, v2), (0, v3), (0, v4)]) (S2 := [(0, 1), (0, v4)]) (h2 := h) (by decide +kernel) rfl trivial ?_
            refine Ev.jp (i := .goto 4) (len := 3) (pc2 := 65) (by decide +kernel) rfl ?_
            refine Ev.blk (is := [.iadd, .istore 4]) (pc2 := 68) (L2 := [(2, v0), (9, 0), (0, v2), (0, v3), (0, w32 (v4 + 1))]) (S2 := []) (h2 := h) (by decide +kernel) rfl trivial ?_
            refine Ev.jp (i := .goto (-53)) (len := 3) (pc2 := 15) (by decide +kernel) rfl ?_
            exact ih v0 v2 v3 (w32 (v4 + 1)) h _ hx
          · have hx := hb hc
            clear ha hb hc
            refine Ev.blk (is := [.iconst 2, .iadd, .istore 4]) (pc2 := 68) (L2 := [(2, v0), (9, 0), (0, v2), (0, v3), (0, w32 (v4 + 2))]) (S2 := []) (h2 := h) (by decide +kernel) rfl trivial ?_
            refine Ev.jp (i := .goto (-53)) (len := 3) (pc2 := 15) (by decide +kernel) rfl ?_
            exact ih v0 v2 v3 (w32 (v4 + 2)) h _ hx
    · have hx := hb hc
      clear ha hb hc
      refine Ev.wk (L2 := [(2, v0), (9, 0), (0, v2), (9, 0), (9, 0)]) (wkL_of ⟨Or.inl rfl, ⟨Or.inl rfl, ⟨Or.inl rfl, ⟨Or.inr rfl, ⟨Or.inr rfl, trivial⟩⟩⟩⟩⟩) ?_
      exact y_Factors_split_71 hd v0 v2 h _ hx
theorem x_Factors_split {sc : AS} {d : Nat} (hd : 4 ≤ d) {v0 : Int} {v1 : Int} {h : AH} {r : AH} (hx : Factors_split v0 v1 h = some r) : Runs sc d 23 [(2, v0), (0, v1)] h none r := by
  obtain ⟨d, rfl⟩ : ∃ e, d = e + 1 := ⟨d - 1, by omega⟩
  have hd : 3 ≤ d := by omega
  unfold Factors_split at hx
  refine ⟨⟨aM_23, rfl, Nat.le_of_ble_eq_true rfl⟩, ?_⟩
  show Ev sc d 23 0 [(2, v0), (0, v1), (9, 0), (9, 0), (9, 0)] [] h none r
  obtain ⟨h1, hg, he, hx⟩ := bgd hx
  refine Ev.blk (is := [.aload_n 0, .iconst 0, .putfield 2]) (pc2 := 5) (L2 := [(2, v0), (0, v1), (9, 0), (9, 0), (9, 0)]) (S2 := []) (h2 := h1) (by decide +kernel) (by subst he; rfl) (by exact hg) ?_
  clear hg he
  refine Ev.blk (is := [.iload_n 1, .istore_n 2, .iload_n 2]) (pc2 := 8) (L2 := [(2, v0), (0, v1), (0, v1), (9, 0), (9, 0)]) (S2 := [(0, v1)]) (h2 := h1) (by decide +kernel) rfl trivial ?_
  obtain ⟨u2, hc, hx⟩ := bca hx
  refine Ev.call (args := [(0, v1)]) (S2 := []) (r1 := (some (0, u2))) (h1 := h1) (i := .invokestatic 20) (by decide +kernel) rfl rfl (Nat.le_of_ble_eq_true rfl) (Or.inl rfl) (x_Arithmetic_isPrime (by omega) hc) ?_
  refine Ev.blk (is := [.istore_n 3, .iconst 2, .istore 4]) (pc2 := 15) (L2 := [(2, v0), (0, v1), (0, v1), (0, u2), (0, 2)]) (S2 := []) (h2 := h1) (by decide +kernel) rfl trivial ?_
  refine Ev.wk (L2 := [(2, v0), (9, 0), (0, v1), (0, u2), (0, 2)]) (wkL_of ⟨Or.inl rfl, ⟨Or.inr rfl, ⟨Or.inl rfl, ⟨Or.inl rfl, ⟨Or.inl rfl, trivial⟩⟩⟩⟩⟩) ?_
  exact y_Factors_split_15 hd FU v0 v1 u2 2 h1 _ hx
theorem x_Side_put {sc : AS} {d : Nat} (hd : 1 ≤ d) {v0 : Int} {v1 : Int} {v2 : Int} {v3 : Int} {h : AH} {r : AH} (hx : Side_put v0 v1 v2 v3 h = some r) : Runs sc d 30 [(2, v0), (0, v1), (0, v2), (0, v3)] h none r := by
  obtain ⟨d, rfl⟩ : ∃ e, d = e + 1 := ⟨d - 1, by omega⟩
  have hd : 0 ≤ d := by omega
  unfold Side_put at hx
  refine ⟨⟨aM_30, rfl, Nat.le_of_ble_eq_true rfl⟩, ?_⟩
  show Ev sc d 30 0 [(2, v0), (0, v1), (0, v2), (0, v3)] [] h none r
  refine Ev.blk (is := [.iload_n 1]) (pc2 := 1) (L2 := [(2, v0), (0, v1), (0, v2), (0, v3)]) (S2 := [(0, v1)]) (h2 := h) (by decide +kernel) rfl trivial ?_
  obtain ⟨ha, hb⟩ := bite hx
  clear hx
  refine Ev.br (i := .ifCond .lt 31) (len := 3) (a := 32) (b := 4) (by decide +kernel) rfl Iff.rfl (fun hc => ?_) (fun hc => ?_)
  · have hx := ha hc
    clear ha hb hc
    cases hx
    exact Ev.ret (i := .return_) (len := 1) (by decide +kernel) rfl (finOf (t := none) rfl (trivial))
  · have hx := hb hc
    clear ha hb hc
    obtain ⟨u1, hg, he, hx⟩ := bgd hx
    refine Ev.blk (is := [.iload_n 1, .aload_n 0, .getfield 5001]) (pc2 := 9) (L2 := [(2, v0), (0, v1), (0, v2), (0, v3)]) (S2 := [(0, u1), (0, v1)]) (h2 := h) (by decide +kernel) (by subst he; rfl) (by exact hg) ?_
    clear hg he
    obtain ⟨ha, hb⟩ := bite hx
    clear hx
    refine Ev.br (i := .if_icmp .ge 23) (len := 3) (a := 12) (b := 32) (by decide +kernel) rfl Iff.rfl (fun hc => ?_) (fun hc => ?_)
    · have hx := ha hc
      clear ha hb hc
      refine Ev.blk (is := [.iload_n 2]) (pc2 := 13) (L2 := [(2, v0), (0, v1), (0, v2), (0, v3)]) (S2 := [(0, v2)]) (h2 := h) (by decide +kernel) rfl trivial ?_
      obtain ⟨ha, hb⟩ := bite hx
      clear hx
      refine Ev.br (i := .ifCond .lt 19) (len := 3) (a := 32) (b := 16) (by decide +kernel) rfl Iff.rfl (fun hc => ?_) (fun hc => ?_)
      · have hx := ha hc
        clear ha hb hc
        cases hx
        exact Ev.ret (i := .return_) (len := 1) (by decide +kernel) rfl (finOf (t := none) rfl (trivial))
      · have hx := hb hc
        clear ha hb hc
        refine Ev.blk (is := [.iload_n 2, .iconst 3]) (pc2 := 18) (L2 := [(2, v0), (0, v1), (0, v2), (0, v3)]) (S2 := [(0, 3), (0, v2)]) (h2 := h) (by decide +kernel) rfl trivial ?_
        obtain ⟨ha, hb⟩ := bite hx
        clear hx
        refine Ev.br (i := .if_icmp .ge 14) (len := 3) (a := 21) (b := 32) (by decide +kernel) rfl Iff.rfl (fun hc => ?_) (fun hc => ?_)
        · have hx := ha hc
          clear ha hb hc
          obtain ⟨u2, hg, he, hx⟩ := bgd hx
          refine Ev.blk (is := [.aload_n 0, .getfield 5200]) (pc2 := 25) (L2 := [(2, v0), (0, v1), (0, v2), (0, v3)]) (S2 := [(2, u2)]) (h2 := h) (by decide +kernel) (by subst he; rfl) (by exact hg) ?_
          clear hg he
          obtain ⟨h3, hg, he, hx⟩ := bgd hx
          refine Ev.blk (is := [.iload_n 1, .iconst 3, .imul, .iload_n 2, .iadd, .iload_n 3, .iastore]) (pc2 := 32) (L2 := [(2, v0), (0, v1), (0, v2), (0, v3)]) (S2 := []) (h2 := h3) (by decide +kernel) (by subst he; rfl) (by exact hg) ?_
          clear hg he
          cases hx
          exact Ev.ret (i := .return_) (len := 1) (by decide +kernel) rfl (finOf (t := none) rfl (trivial))
        · have hx := hb hc
          clear ha hb hc
          cases hx
          exact Ev.ret (i := .return_) (len := 1) (by decide +kernel) rfl (finOf (t := none) rfl (trivial))
    · have hx := hb hc
      clear ha hb hc
      cases hx
      exact Ev.ret (i := .return_) (len := 1) (by decide +kernel) rfl (finOf (t := none) rfl (trivial))
theorem x_Side_append {sc : AS} {d : Nat} (hd : 2 ≤ d) {v0 : Int} {v1 : Int} {v2 : Int} {v3 : Int} {h : AH} {r : AH} (hx : Side_append v0 v1 v2 v3 h = some r) : Runs sc d 29 [(2, v0), (0, v1), (0, v2), (0, v3)] h none r := by
  obtain ⟨d, rfl⟩ : ∃ e, d = e + 1 := ⟨d - 1, by omega⟩
  have hd : 1 ≤ d := by omega
  unfold Side_append at hx
  refine ⟨⟨aM_29, rfl, Nat.le_of_ble_eq_true rfl⟩, ?_⟩
  show Ev sc d 29 0 [(2, v0), (0, v1), (0, v2), (0, v3)] [] h none r
  obtain ⟨u1, hg, he, hx⟩ := bgd hx
  refine Ev.blk (is := [.aload_n 0, .getfield 5001]) (pc2 := 4) (L2 := [(2, v0), (0, v1), (0, v2), (0, v3)]) (S2 := [(0, u1)]) (h2 := h) (by decide +kernel) (by subst he; rfl) (by exact hg) ?_
  clear hg he
  refine Ev.blk (is := [.sipush 9]) (pc2 := 6) (L2 := [(2, v0), (0, v1), (0, v2), (0, v3)]) (S2 := [(0, 9), (0, u1)]) (h2 := h) (by decide +kernel) rfl trivial ?_
  obtain ⟨ha, hb⟩ := bite hx
  clear hx
  refine Ev.br (i := .if_icmp .ge 49) (len := 3) (a := 9) (b := 55) (by decide +kernel) rfl Iff.rfl (fun hc => ?_) (fun hc => ?_)
  · have hx := ha hc
    clear ha hb hc
    obtain ⟨u2, hg, he, hx⟩ := bgd hx
    refine Ev.blk (is := [.aload_n 0, .dup, .getfield 5001]) (pc2 := 14) (L2 := [(2, v0), (0, v1), (0, v2), (0, v3)]) (S2 := [(0, u2), (2, v0)]) (h2 := h) (by decide +kernel) (by subst he; rfl) (by exact hg) ?_
    clear hg he
    obtain ⟨h3, hg, he, hx⟩ := bgd hx
    refine Ev.blk (is := [.iconst 1, .iadd, .putfield 5001]) (pc2 := 19) (L2 := [(2, v0), (0, v1), (0, v2), (0, v3)]) (S2 := []) (h2 := h3) (by decide +kernel) (by subst he; rfl) (by exact hg) ?_
    clear hg he
    obtain ⟨u4, hg, he, hx⟩ := bgd hx
    refine Ev.blk (is := [.aload_n 0, .aload_n 0, .getfield 5001]) (pc2 := 24) (L2 := [(2, v0), (0, v1), (0, v2), (0, v3)]) (S2 := [(0, u4), (2, v0)]) (h2 := h3) (by decide +kernel) (by subst he; rfl) (by exact hg) ?_
    clear hg he
    refine Ev.blk (is := [.iconst 1, .isub, .iconst 0, .iload_n 1]) (pc2 := 28) (L2 := [(2, v0), (0, v1), (0, v2), (0, v3)]) (S2 := [(0, v1), (0, 0), (0, w32 (u4 - 1)), (2, v0)]) (h2 := h3) (by decide +kernel) rfl trivial ?_
    obtain ⟨_, hg, -, hx⟩ := bgd hx
    obtain ⟨h6, hc, hx⟩ := bca hx
    refine Ev.call (args := [(2, v0), (0, w32 (u4 - 1)), (0, 0), (0, v1)]) (S2 := []) (r1 := none) (h1 := h6) (i := .invokevirtual 30) (by decide +kernel) rfl rfl (Nat.le_of_ble_eq_true rfl) (Or.inr (Or.inl ⟨rfl, hg, by decide +kernel⟩)) (x_Side_put (by omega) hc) ?_
    obtain ⟨u7, hg, he, hx⟩ := bgd hx
    refine Ev.blk (is := [.aload_n 0, .aload_n 0, .getfield 5001]) (pc2 := 36) (L2 := [(2, v0), (0, v1), (0, v2), (0, v3)]) (S2 := [(0, u7), (2, v0)]) (h2 := h6) (by decide +kernel) (by subst he; rfl) (by exact hg) ?_
    clear hg he
    refine Ev.blk (is := [.iconst 1, .isub, .iconst 1, .iload_n 2]) (pc2 := 40) (L2 := [(2, v0), (0, v1), (0, v2), (0, v3)]) (S2 := [(0, v2), (0, 1), (0, w32 (u7 - 1)), (2, v0)]) (h2 := h6) (by decide +kernel) rfl trivial ?_
    obtain ⟨_, hg, -, hx⟩ := bgd hx
    obtain ⟨h9, hc, hx⟩ := bca hx
    refine Ev.call (args := [(2, v0), (0, w32 (u7 - 1)), (0, 1), (0, v2)]) (S2 := []) (r1 := none) (h1 := h9) (i := .invokevirtual 30) (by decide +kernel) rfl rfl (Nat.le_of_ble_eq_true rfl) (Or.inr (Or.inl ⟨rfl, hg, by decide +kernel⟩)) (x_Side_put (by omega) hc) ?_
    obtain ⟨u10, hg, he, hx⟩ := bgd hx
    refine Ev.blk (is := [.aload_n 0, .aload_n 0, .getfield 5001]) (pc2 := 48) (L2 := [(2, v0), (0, v1), (0, v2), (0, v3)]) (S2 := [(0, u10), (2, v0)]) (h2 := h9) (by decide +kernel) (by subst he; rfl) (by exact hg) ?_
    clear hg he
    refine Ev.blk (is := [.iconst 1, .isub, .iconst 2, .iload_n 3]) (pc2 := 52) (L2 := [(2, v0), (0, v1), (0, v2), (0, v3)]) (S2 := [(0, v3), (0, 2), (0, w32 (u10 - 1)), (2, v0)]) (h2 := h9) (by decide +kernel) rfl trivial ?_
    obtain ⟨_, hg, -, hx⟩ := bgd hx
    obtain ⟨h12, hc, hx⟩ := bca hx
    refine Ev.call (args := [(2, v0), (0, w32 (u10 - 1)), (0, 2), (0, v3)]) (S2 := []) (r1 := none) (h1 := h12) (i := .invokevirtual 30) (by decide +kernel) rfl rfl (Nat.le_of_ble_eq_true rfl) (Or.inr (Or.inl ⟨rfl, hg, by decide +kernel⟩)) (x_Side_put (by omega) hc) ?_
    cases hx
    exact Ev.ret (i := .return_) (len := 1) (by decide +kernel) rfl (finOf (t := none) rfl (trivial))
  · have hx := hb hc
    clear ha hb hc
    cases hx
    exact Ev.ret (i := .return_) (len := 1) (by decide +kernel) rfl (finOf (t := none) rfl (trivial))
theorem x_Finder_layOne {sc : AS} {d : Nat} (hd : 3 ≤ d) {v0 : Int} {v1 : Int} {v2 : Int} {h : AH} {r : AH} (hx : Finder_layOne v0 v1 v2 h = some r) : Runs sc d 28 [(2, v0), (2, v1), (0, v2)] h none r := by
  obtain ⟨d, rfl⟩ : ∃ e, d = e + 1 := ⟨d - 1, by omega⟩
  have hd : 2 ≤ d := by omega
  unfold Finder_layOne at hx
  refine ⟨⟨aM_28, rfl, Nat.le_of_ble_eq_true rfl⟩, ?_⟩
  show Ev sc d 28 0 [(2, v0), (2, v1), (0, v2)] [] h none r
  refine Ev.blk (is := [.iload_n 2]) (pc2 := 1) (L2 := [(2, v0), (2, v1), (0, v2)]) (S2 := [(0, v2)]) (h2 := h) (by decide +kernel) rfl trivial ?_
  obtain ⟨ha, hb⟩ := bite hx
  clear hx
  refine Ev.br (i := .ifCond .lt 28) (len := 3) (a := 29) (b := 4) (by decide +kernel) rfl Iff.rfl (fun hc => ?_) (fun hc => ?_)
  · have hx := ha hc
    clear ha hb hc
    cases hx
    exact Ev.ret (i := .return_) (len := 1) (by decide +kernel) rfl (finOf (t := none) rfl (trivial))
  · have hx := hb hc
    clear ha hb hc
    obtain ⟨u1, hg, he, hx⟩ := bgd hx
    refine Ev.blk (is := [.iload_n 2, .aload_n 1, .getfield 2]) (pc2 := 9) (L2 := [(2, v0), (2, v1), (0, v2)]) (S2 := [(0, u1), (0, v2)]) (h2 := h) (by decide +kernel) (by subst he; rfl) (by exact hg) ?_
    clear hg he
    obtain ⟨ha, hb⟩ := bite hx
    clear hx
    refine Ev.br (i := .if_icmp .ge 20) (len := 3) (a := 12) (b := 29) (by decide +kernel) rfl Iff.rfl (fun hc => ?_) (fun hc => ?_)
    · have hx := ha hc
      clear ha hb hc
      obtain ⟨u2, hg, he, hx⟩ := bgd hx
      refine Ev.blk (is := [.aload_n 0, .aload_n 1, .getfield 200]) (pc2 := 17) (L2 := [(2, v0), (2, v1), (0, v2)]) (S2 := [(2, u2), (2, v0)]) (h2 := h) (by decide +kernel) (by subst he; rfl) (by exact hg) ?_
      clear hg he
      obtain ⟨u3, hg, he, hx⟩ := bgd hx
      refine Ev.blk (is := [.iload_n 2, .iaload]) (pc2 := 19) (L2 := [(2, v0), (2, v1), (0, v2)]) (S2 := [(0, u3), (2, v0)]) (h2 := h) (by decide +kernel) (by subst he; rfl) (by exact hg) ?_
      clear hg he
      obtain ⟨u4, hg, he, hx⟩ := bgd hx
      refine Ev.blk (is := [.aload_n 1, .getfield 201]) (pc2 := 23) (L2 := [(2, v0), (2, v1), (0, v2)]) (S2 := [(2, u4), (0, u3), (2, v0)]) (h2 := h) (by decide +kernel) (by subst he; rfl) (by exact hg) ?_
      clear hg he
      obtain ⟨u5, hg, he, hx⟩ := bgd hx
      refine Ev.blk (is := [.iload_n 2, .iaload]) (pc2 := 25) (L2 := [(2, v0), (2, v1), (0, v2)]) (S2 := [(0, u5), (0, u3), (2, v0)]) (h2 := h) (by decide +kernel) (by subst he; rfl) (by exact hg) ?_
      clear hg he
      refine Ev.blk (is := [.iconst 0]) (pc2 := 26) (L2 := [(2, v0), (2, v1), (0, v2)]) (S2 := [(0, 0), (0, u5), (0, u3), (2, v0)]) (h2 := h) (by decide +kernel) rfl trivial ?_
      obtain ⟨_, hg, -, hx⟩ := bgd hx
      obtain ⟨h7, hc, hx⟩ := bca hx
      refine Ev.call (args := [(2, v0), (0, u3), (0, u5), (0, 0)]) (S2 := []) (r1 := none) (h1 := h7) (i := .invokevirtual 29) (by decide +kernel) rfl rfl (Nat.le_of_ble_eq_true rfl) (Or.inr (Or.inl ⟨rfl, hg, by decide +kernel⟩)) (x_Side_append (by omega) hc) ?_
      cases hx
      exact Ev.ret (i := .return_) (len := 1) (by decide +kernel) rfl (finOf (t := none) rfl (trivial))
    · have hx := hb hc
      clear ha hb hc
      cases hx
      exact Ev.ret (i := .return_) (len := 1) (by decide +kernel) rfl (finOf (t := none) rfl (trivial))
theorem y_Finder_layAll_2 {sc : AS} {d : Nat} (hd : 3 ≤ d) : ∀ (fu : Nat) (v0 : Int) (v1 : Int) (v2 : Int) (h : AH) (r : AH), Finder_layAll_2 fu v0 v1 v2 h = some r → Ev sc d 27 2 [(2, v0), (2, v1), (0, v2)] [] h none r := by
  intro fu
  induction fu with
  | zero => intro v0 v1 v2 h r hx; unfold Finder_layAll_2 at hx; cases hx
  | succ fu ih =>
    intro v0 v1 v2 h r hx
    unfold Finder_layAll_2 at hx
    obtain ⟨u1, hg, he, hx⟩ := bgd hx
    refine Ev.blk (is := [.iload_n 2, .aload_n 1, .getfield 2]) (pc2 := 7) (L2 := [(2, v0), (2, v1), (0, v2)]) (S2 := [(0, u1), (0, v2)]) (h2 := h) (by decide +kernel) (by subst he; rfl) (by exact hg) ?_
    clear hg he
    obtain ⟨ha, hb⟩ := bite hx
    clear hx
    refine Ev.br (i := .if_icmp .ge 15) (len := 3) (a := 10) (b := 22) (by decide +kernel) rfl Iff.rfl (fun hc => ?_) (fun hc => ?_)
    · have hx := ha hc
      clear ha hb hc
      refine Ev.blk (is := [.aload_n 0, .aload_n 1, .iload_n 2]) (pc2 := 13) (L2 := [(2, v0), (2, v1), (0, v2)]) (S2 := [(0, v2), (2, v1), (2, v0)]) (h2 := h) (by decide +kernel) rfl trivial ?_
      obtain ⟨h3, hc, hx⟩ := bca hx
      refine Ev.call (args := [(2, v0), (2, v1), (0, v2)]) (S2 := []) (r1 := none) (h1 := h3) (i := .invokestatic 28) (by decide +kernel) rfl rfl (Nat.le_of_ble_eq_true rfl) (Or.inl rfl) (x_Finder_layOne (by omega) hc) ?_
      refine Ev.blk (is := [.iinc 2 1]) (pc2 := 19) (L2 := [(2, v0), (2, v1), (0, w32 (v2 + 1))]) (S2 := []) (h2 := h3) (by decide +kernel) rfl trivial ?_
      refine Ev.jp (i := .goto (-17)) (len := 3) (pc2 := 2) (by decide +kernel) rfl ?_
      exact ih v0 v1 (w32 (v2 + 1)) h3 _ hx
    · have hx := hb hc
      clear ha hb hc
      cases hx
      exact Ev.ret (i := .return_) (len := 1) (by decide +kernel) rfl (finOf (t := none) rfl (trivial))
theorem x_Finder_layAll {sc : AS} {d : Nat} (hd : 4 ≤ d) {v0 : Int} {v1 : Int} {h : AH} {r : AH} (hx : Finder_layAll v0 v1 h = some r) : Runs sc d 27 [(2, v0), (2, v1)] h none r := by
  obtain ⟨d, rfl⟩ : ∃ e, d = e + 1 := ⟨d - 1, by omega⟩
  have hd : 3 ≤ d := by omega
  unfold Finder_layAll at hx
  refine ⟨⟨aM_27, rfl, Nat.le_of_ble_eq_true rfl⟩, ?_⟩
  show Ev sc d 27 0 [(2, v0), (2, v1), (9, 0)] [] h none r
  refine Ev.blk (is := [.iconst 0, .istore_n 2]) (pc2 := 2) (L2 := [(2, v0), (2, v1), (0, 0)]) (S2 := []) (h2 := h) (by decide +kernel) rfl trivial ?_
  exact y_Finder_layAll_2 hd FU v0 v1 0 h _ hx
theorem x_Side_cell {sc : AS} {d : Nat} (hd : 1 ≤ d) {v0 : Int} {v1 : Int} {v2 : Int} {h : AH} {r : Int} (hx : Side_cell v0 v1 v2 h = some r) : Runs sc d 34 [(2, v0), (0, v1), (0, v2)] h (some (0, r)) h := by
  obtain ⟨d, rfl⟩ : ∃ e, d = e + 1 := ⟨d - 1, by omega⟩
  have hd : 0 ≤ d := by omega
  unfold Side_cell at hx
  refine ⟨⟨aM_34, rfl, Nat.le_of_ble_eq_true rfl⟩, ?_⟩
  show Ev sc d 34 0 [(2, v0), (0, v1), (0, v2)] [] h (some (0, r)) h
  refine Ev.blk (is := [.iload_n 1]) (pc2 := 1) (L2 := [(2, v0), (0, v1), (0, v2)]) (S2 := [(0, v1)]) (h2 := h) (by decide +kernel) rfl trivial ?_
  obtain ⟨ha, hb⟩ := bite hx
  clear hx
  refine Ev.br (i := .ifCond .lt 33) (len := 3) (a := 34) (b := 4) (by decide +kernel) rfl Iff.rfl (fun hc => ?_) (fun hc => ?_)
  · have hx := ha hc
    clear ha hb hc
    refine Ev.blk (is := [.iconst 0]) (pc2 := 35) (L2 := [(2, v0), (0, v1), (0, v2)]) (S2 := [(0, 0)]) (h2 := h) (by decide +kernel) rfl trivial ?_
    cases hx
    exact Ev.ret (i := .ireturn) (len := 1) (by decide +kernel) rfl (finOf (t := some .int) rfl (trivial))
  · have hx := hb hc
    clear ha hb hc
    obtain ⟨u1, hg, he, hx⟩ := bgd hx
    refine Ev.blk (is := [.iload_n 1, .aload_n 0, .getfield 5001]) (pc2 := 9) (L2 := [(2, v0), (0, v1), (0, v2)]) (S2 := [(0, u1), (0, v1)]) (h2 := h) (by decide +kernel) (by subst he; rfl) (by exact hg) ?_
    clear hg he
    obtain ⟨ha, hb⟩ := bite hx
    clear hx
    refine Ev.br (i := .if_icmp .ge 25) (len := 3) (a := 12) (b := 34) (by decide +kernel) rfl Iff.rfl (fun hc => ?_) (fun hc => ?_)
    · have hx := ha hc
      clear ha hb hc
      refine Ev.blk (is := [.iload_n 2]) (pc2 := 13) (L2 := [(2, v0), (0, v1), (0, v2)]) (S2 := [(0, v2)]) (h2 := h) (by decide +kernel) rfl trivial ?_
      obtain ⟨ha, hb⟩ := bite hx
      clear hx
      refine Ev.br (i := .ifCond .lt 21) (len := 3) (a := 34) (b := 16) (by decide +kernel) rfl Iff.rfl (fun hc => ?_) (fun hc => ?_)
      · have hx := ha hc
        clear ha hb hc
        refine Ev.blk (is := [.iconst 0]) (pc2 := 35) (L2 := [(2, v0), (0, v1), (0, v2)]) (S2 := [(0, 0)]) (h2 := h) (by decide +kernel) rfl trivial ?_
        cases hx
        exact Ev.ret (i := .ireturn) (len := 1) (by decide +kernel) rfl (finOf (t := some .int) rfl (trivial))
      · have hx := hb hc
        clear ha hb hc
        refine Ev.blk (is := [.iload_n 2, .iconst 3]) (pc2 := 18) (L2 := [(2, v0), (0, v1), (0, v2)]) (S2 := [(0, 3), (0, v2)]) (h2 := h) (by decide +kernel) rfl trivial ?_
        obtain ⟨ha, hb⟩ := bite hx
        clear hx
        refine Ev.br (i := .if_icmp .ge 16) (len := 3) (a := 21) (b := 34) (by decide +kernel) rfl Iff.rfl (fun hc => ?_) (fun hc => ?_)
        · have hx := ha hc
          clear ha hb hc
          obtain ⟨u2, hg, he, hx⟩ := bgd hx
          refine Ev.blk (is := [.aload_n 0, .getfield 5200]) (pc2 := 25) (L2 := [(2, v0), (0, v1), (0, v2)]) (S2 := [(2, u2)]) (h2 := h) (by decide +kernel) (by subst he; rfl) (by exact hg) ?_
          clear hg he
          obtain ⟨u3, hg, he, hx⟩ := bgd hx
          refine Ev.blk (is := [.iload_n 1, .iconst 3, .imul, .iload_n 2, .iadd, .iaload]) (pc2 := 31) (L2 := [(2, v0), (0, v1), (0, v2)]) (S2 := [(0, u3)]) (h2 := h) (by decide +kernel) (by subst he; rfl) (by exact hg) ?_
          clear hg he
          refine Ev.jp (i := .goto 4) (len := 3) (pc2 := 35) (by decide +kernel) rfl ?_
          cases hx
          exact Ev.ret (i := .ireturn) (len := 1) (by decide +kernel) rfl (finOf (t := some .int) rfl (trivial))
        · have hx := hb hc
          clear ha hb hc
          refine Ev.blk (is := [.iconst 0]) (pc2 := 35) (L2 := [(2, v0), (0, v1), (0, v2)]) (S2 := [(0, 0)]) (h2 := h) (by decide +kernel) rfl trivial ?_
          cases hx
          exact Ev.ret (i := .ireturn) (len := 1) (by decide +kernel) rfl (finOf (t := some .int) rfl (trivial))
    · have hx := hb hc
      clear ha hb hc
      refine Ev.blk (is := [.iconst 0]) (pc2 := 35) (L2 := [(2, v0), (0, v1), (0, v2)]) (S2 := [(0, 0)]) (h2 := h) (by decide +kernel) rfl trivial ?_
      cases hx
      exact Ev.ret (i := .ireturn) (len := 1) (by decide +kernel) rfl (finOf (t := some .int) rfl (trivial))
theorem y_Side_product_15 {sc : AS} {d : Nat} (hd : 1 ≤ d) {k4 : Int → Int → Int → AH → Option Int} (hk4 : ∀ (v0 : Int) (v1 : Int) (v3 : Int) (h : AH) (r : Int), k4 v0 v1 v3 h = some r → Ev sc d 33 4 [(2, v0), (1, v1), (8, 0), (0, v3), (9, 0)] [] h (some (1, r)) h) : ∀ (fu : Nat) (v0 : Int) (v1 : Int) (v3 : Int) (v4 : Int) (h : AH) (r : Int), Side_product_15 k4 fu v0 v1 v3 v4 h = some r → Ev sc d 33 15 [(2, v0), (1, v1), (8, 0), (0, v3), (0, v4)] [] h (some (1, r)) h := by
  intro fu
  induction fu with
  | zero => intro v0 v1 v3 v4 h r hx; unfold Side_product_15 at hx; cases hx
  | succ fu ih =>
    intro v0 v1 v3 v4 h r hx
    unfold Side_product_15 at hx
    refine Ev.blk (is := [.iload 4, .aload_n 0, .iload_n 3, .iconst 1]) (pc2 := 20) (L2 := [(2, v0), (1, v1), (8, 0), (0, v3), (0, v4)]) (S2 := [(0, 1), (0, v3), (2, v0), (0, v4)]) (h2 := h) (by decide +kernel) rfl trivial ?_
    obtain ⟨_, hg, -, hx⟩ := bgd hx
    obtain ⟨u1, hc, hx⟩ := bca hx
    refine Ev.call (args := [(2, v0), (0, v3), (0, 1)]) (S2 := [(0, v4)]) (r1 := (some (0, u1))) (h1 := h) (i := .invokevirtual 34) (by decide +kernel) rfl rfl (Nat.le_of_ble_eq_true rfl) (Or.inr (Or.inl ⟨rfl, hg, by decide +kernel⟩)) (x_Side_cell (by omega) hc) ?_
    obtain ⟨ha, hb⟩ := bite hx
    clear hx
    refine Ev.br (i := .if_icmp .ge 31) (len := 3) (a := 26) (b := 54) (by decide +kernel) rfl Iff.rfl (fun hc => ?_) (fun hc => ?_)
    · have hx := ha hc
      clear ha hb hc
      refine Ev.blk (is := [.lload_n 1, .aload_n 0, .iload_n 3, .iconst 0]) (pc2 := 30) (L2 := [(2, v0), (1, v1), (8, 0), (0, v3), (0, v4)]) (S2 := [(0, 0), (0, v3), (2, v0), (1, v1)]) (h2 := h) (by decide +kernel) rfl trivial ?_
      obtain ⟨_, hg, -, hx⟩ := bgd hx
      obtain ⟨u2, hc, hx⟩ := bca hx
      refine Ev.call (args := [(2, v0), (0, v3), (0, 0)]) (S2 := [(1, v1)]) (r1 := (some (0, u2))) (h1 := h) (i := .invokevirtual 34) (by decide +kernel) rfl rfl (Nat.le_of_ble_eq_true rfl) (Or.inr (Or.inl ⟨rfl, hg, by decide +kernel⟩)) (x_Side_cell (by omega) hc) ?_
      refine Ev.blk (is := [.i2l, .lmul, .lstore_n 1, .lload_n 1, .jsr_w 2000000000, .lcmp]) (pc2 := 41) (L2 := [(2, v0), (1, w64 (v1 * u2)), (8, 0), (0, v3), (0, v4)]) (S2 := [(0, cmpL (w64 (v1 * u2)) 2000000000)]) (h2 := h) (by decide +kernel) rfl trivial ?_
      obtain ⟨ha, hb⟩ := bite hx
      clear hx
      refine Ev.br (i := .ifCond .lt 7) (len := 3) (a := 48) (b := 44) (by decide +kernel) rfl cmpL_lt (fun hc => ?_) (fun hc => ?_)
      · have hx := ha hc
        clear ha hb hc
        refine Ev.blk (is := [.iinc 4 1]) (pc2 := 51) (L2 := [(2, v0), (1, w64 (v1 * u2)), (8, 0), (0, v3), (0, w32 (v4 + 1))]) (S2 := []) (h2 := h) (by decide +kernel) rfl trivial ?_
        refine Ev.jp (i := .goto (-36)) (len := 3) (pc2 := 15) (by decide +kernel) rfl ?_
        exact ih v0 (w64 (v1 * u2)) v3 (w32 (v4 + 1)) h _ hx
      · have hx := hb hc
        clear ha hb hc
        refine Ev.blk (is := [.jsr_w 2000000000]) (pc2 := 47) (L2 := [(2, v0), (1, w64 (v1 * u2)), (8, 0), (0, v3), (0, v4)]) (S2 := [(1, 2000000000)]) (h2 := h) (by decide +kernel) rfl trivial ?_
        cases hx
        exact Ev.ret (i := .lreturn) (len := 1) (by decide +kernel) rfl (finOf (t := some .long) rfl (trivial))
    · have hx := hb hc
      clear ha hb hc
      refine Ev.blk (is := [.iinc 3 1]) (pc2 := 57) (L2 := [(2, v0), (1, v1), (8, 0), (0, w32 (v3 + 1)), (0, v4)]) (S2 := []) (h2 := h) (by decide +kernel) rfl trivial ?_
      refine Ev.jp (i := .goto (-53)) (len := 3) (pc2 := 4) (by decide +kernel) rfl ?_
      refine Ev.wk (L2 := [(2, v0), (1, v1), (8, 0), (0, w32 (v3 + 1)), (9, 0)]) (wkL_of ⟨Or.inl rfl, ⟨Or.inl rfl, ⟨Or.inl rfl, ⟨Or.inl rfl, ⟨Or.inr rfl, trivial⟩⟩⟩⟩⟩) ?_
      exact hk4 v0 v1 (w32 (v3 + 1)) h _ hx
theorem y_Side_product_4 {sc : AS} {d : Nat} (hd : 1 ≤ d) : ∀ (fu : Nat) (v0 : Int) (v1 : Int) (v3 : Int) (h : AH) (r : Int), Side_product_4 fu v0 v1 v3 h = some r → Ev sc d 33 4 [(2, v0), (1, v1), (8, 0), (0, v3), (9, 0)] [] h (some (1, r)) h := by
  intro fu
  induction fu with
  | zero => intro v0 v1 v3 h r hx; unfold Side_product_4 at hx; cases hx
  | succ fu ih =>
    intro v0 v1 v3 h r hx
    unfold Side_product_4 at hx
    obtain ⟨u1, hg, he, hx⟩ := bgd hx
    refine Ev.blk (is := [.iload_n 3, .aload_n 0, .getfield 5001]) (pc2 := 9) (L2 := [(2, v0), (1, v1), (8, 0), (0, v3), (9, 0)]) (S2 := [(0, u1), (0, v3)]) (h2 := h) (by decide +kernel) (by subst he; rfl) (by exact hg) ?_
    clear hg he
    obtain ⟨ha, hb⟩ := bite hx
    clear hx
    refine Ev.br (i := .if_icmp .ge 51) (len := 3) (a := 12) (b := 60) (by decide +kernel) rfl Iff.rfl (fun hc => ?_) (fun hc => ?_)
    · have hx := ha hc
      clear ha hb hc
      refine Ev.blk (is := [.iconst 0, .istore 4]) (pc2 := 15) (L2 := [(2, v0), (1, v1), (8, 0), (0, v3), (0, 0)]) (S2 := []) (h2 := h) (by decide +kernel) rfl trivial ?_
      exact y_Side_product_15 hd ih FU v0 v1 v3 0 h _ hx
    · have hx := hb hc
      clear ha hb hc
      refine Ev.blk (is := [.lload_n 1]) (pc2 := 61) (L2 := [(2, v0), (1, v1), (8, 0), (0, v3), (9, 0)]) (S2 := [(1, v1)]) (h2 := h) (by decide +kernel) rfl trivial ?_
      cases hx
      exact Ev.ret (i := .lreturn) (len := 1) (by decide +kernel) rfl (finOf (t := some .long) rfl (trivial))
theorem x_Side_product {sc : AS} {d : Nat} (hd : 2 ≤ d) {v0 : Int} {h : AH} {r : Int} (hx : Side_product v0 h = some r) : Runs sc d 33 [(2, v0)] h (some (1, r)) h := by
  obtain ⟨d, rfl⟩ : ∃ e, d = e + 1 := ⟨d - 1, by omega⟩
  have hd : 1 ≤ d := by omega
  unfold Side_product at hx
  refine ⟨⟨aM_33, rfl, Nat.le_of_ble_eq_true rfl⟩, ?_⟩
  show Ev sc d 33 0 [(2, v0), (9, 0), (9, 0), (9, 0), (9, 0)] [] h (some (1, r)) h
  refine Ev.blk (is := [.lconst 1, .lstore_n 1, .iconst 0, .istore_n 3]) (pc2 := 4) (L2 := [(2, v0), (1, 1), (8, 0), (0, 0), (9, 0)]) (S2 := []) (h2 := h) (by decide +kernel) rfl trivial ?_
  exact y_Side_product_4 hd FU v0 1 0 h _ hx
theorem x_Checker_divides {sc : AS} {d : Nat} (hd : 1 ≤ d) {v0 : Int} {v2 : Int} {h : AH} {r : Int} (hx : Checker_divides v0 v2 = some r) : Runs sc d 35 [(1, v0), (1, v2)] h (some (0, r)) h := by
  obtain ⟨d, rfl⟩ : ∃ e, d = e + 1 := ⟨d - 1, by omega⟩
  have hd : 0 ≤ d := by omega
  unfold Checker_divides at hx
  refine ⟨⟨aM_35, rfl, Nat.le_of_ble_eq_true rfl⟩, ?_⟩
  show Ev sc d 35 0 [(1, v0), (8, 0), (1, v2), (8, 0)] [] h (some (0, r)) h
  refine Ev.blk (is := [.lload_n 0, .lconst 0, .lcmp]) (pc2 := 3) (L2 := [(1, v0), (8, 0), (1, v2), (8, 0)]) (S2 := [(0, cmpL v0 0)]) (h2 := h) (by decide +kernel) rfl trivial ?_
  obtain ⟨ha, hb⟩ := bite hx
  clear hx
  refine Ev.br (i := .ifCond .le 15) (len := 3) (a := 6) (b := 18) (by decide +kernel) rfl cmpL_gt (fun hc => ?_) (fun hc => ?_)
  · have hx := ha hc
    clear ha hb hc
    obtain ⟨u1, hg, he, hx⟩ := bgd hx
    refine Ev.blk (is := [.lload_n 2, .lload_n 0, .lrem]) (pc2 := 9) (L2 := [(1, v0), (8, 0), (1, v2), (8, 0)]) (S2 := [(1, u1)]) (h2 := h) (by decide +kernel) (by subst he; rfl) (by exact hg) ?_
    clear hg he
    refine Ev.blk (is := [.lconst 0, .lcmp]) (pc2 := 11) (L2 := [(1, v0), (8, 0), (1, v2), (8, 0)]) (S2 := [(0, cmpL u1 0)]) (h2 := h) (by decide +kernel) rfl trivial ?_
    obtain ⟨ha, hb⟩ := bite hx
    clear hx
    refine Ev.br (i := .ifCond .ne 7) (len := 3) (a := 14) (b := 18) (by decide +kernel) rfl cmpL_eq (fun hc => ?_) (fun hc => ?_)
    · have hx := ha hc
      clear ha hb hc
      refine Ev.blk (is := [.iconst 1]) (pc2 := 15) (L2 := [(1, v0), (8, 0), (1, v2), (8, 0)]) (S2 := [(0, 1)]) (h2 := h) (by decide +kernel) rfl trivial ?_
      refine Ev.jp (i := .goto 4) (len := 3) (pc2 := 19) (by decide +kernel) rfl ?_
      cases hx
      exact Ev.ret (i := .ireturn) (len := 1) (by decide +kernel) rfl (finOf (t := some .boolean) rfl (bz1))
    · have hx := hb hc
      clear ha hb hc
      refine Ev.blk (is := [.iconst 0]) (pc2 := 19) (L2 := [(1, v0), (8, 0), (1, v2), (8, 0)]) (S2 := [(0, 0)]) (h2 := h) (by decide +kernel) rfl trivial ?_
      cases hx
      exact Ev.ret (i := .ireturn) (len := 1) (by decide +kernel) rfl (finOf (t := some .boolean) rfl (bz0))
  · have hx := hb hc
    clear ha hb hc
    refine Ev.blk (is := [.iconst 0]) (pc2 := 19) (L2 := [(1, v0), (8, 0), (1, v2), (8, 0)]) (S2 := [(0, 0)]) (h2 := h) (by decide +kernel) rfl trivial ?_
    cases hx
    exact Ev.ret (i := .ireturn) (len := 1) (by decide +kernel) rfl (finOf (t := some .boolean) rfl (bz0))
theorem y_Arithmetic_commonOf_9 {sc : AS} {d : Nat} (hd : 0 ≤ d) : ∀ (fu : Nat) (v4 : Int) (v6 : Int) (v8 : Int) (h : AH) (r : Int), Arithmetic_commonOf_9 fu v4 v6 v8 = some r → Ev sc d 37 9 [(9, 0), (9, 0), (9, 0), (9, 0), (1, v4), (8, 0), (1, v6), (8, 0), (0, v8), (9, 0), (9, 0)] [] h (some (1, r)) h := by
  intro fu
  induction fu with
  | zero => intro v4 v6 v8 h r hx; unfold Arithmetic_commonOf_9 at hx; cases hx
  | succ fu ih =>
    intro v4 v6 v8 h r hx
    unfold Arithmetic_commonOf_9 at hx
    refine Ev.blk (is := [.iload 8, .sipush 200]) (pc2 := 14) (L2 := [(9, 0), (9, 0), (9, 0), (9, 0), (1, v4), (8, 0), (1, v6), (8, 0), (0, v8), (9, 0), (9, 0)]) (S2 := [(0, 200), (0, v8)]) (h2 := h) (by decide +kernel) rfl trivial ?_
    obtain ⟨ha, hb⟩ := bite hx
    clear hx
    refine Ev.br (i := .if_icmp .ge 31) (len := 3) (a := 17) (b := 45) (by decide +kernel) rfl Iff.rfl (fun hc => ?_) (fun hc => ?_)
    · have hx := ha hc
      clear ha hb hc
      refine Ev.blk (is := [.lload 6, .lconst 0, .lcmp]) (pc2 := 21) (L2 := [(9, 0), (9, 0), (9, 0), (9, 0), (1, v4), (8, 0), (1, v6), (8, 0), (0, v8), (9, 0), (9, 0)]) (S2 := [(0, cmpL v6 0)]) (h2 := h) (by decide +kernel) rfl trivial ?_
      obtain ⟨ha, hb⟩ := bite hx
      clear hx
      refine Ev.br (i := .ifCond .eq 24) (len := 3) (a := 45) (b := 24) (by decide +kernel) rfl cmpL_eq (fun hc => ?_) (fun hc => ?_)
      · have hx := ha hc
        clear ha hb hc
        refine Ev.blk (is := [.lload 4]) (pc2 := 47) (L2 := [(9, 0), (9, 0), (9, 0), (9, 0), (1, v4), (8, 0), (1, v6), (8, 0), (0, v8), (9, 0), (9, 0)]) (S2 := [(1, v4)]) (h2 := h) (by decide +kernel) rfl trivial ?_
        cases hx
        exact Ev.ret (i := .lreturn) (len := 1) (by decide +kernel) rfl (finOf (t := some .long) rfl (trivial))
      · have hx := hb hc
        clear ha hb hc
        obtain ⟨u1, hg, he, hx⟩ := bgd hx
        refine Ev.blk (is := [.lload 4, .lload 6, .lrem]) (pc2 := 29) (L2 := [(9, 0), (9, 0), (9, 0), (9, 0), (1, v4), (8, 0), (1, v6), (8, 0), (0, v8), (9, 0), (9, 0)]) (S2 := [(1, u1)]) (h2 := h) (by decide +kernel) (by subst he; rfl) (by exact hg) ?_
        clear hg he
        refine Ev.blk (is := [.lstore 9, .lload 6, .lstore 4, .lload 9, .lstore 6, .iinc 8 1]) (pc2 := 42) (L2 := [(9, 0), (9, 0), (9, 0), (9, 0), (1, v6), (8, 0), (1, u1), (8, 0), (0, w32 (v8 + 1)), (1, u1), (8, 0)]) (S2 := []) (h2 := h) (by decide +kernel) rfl trivial ?_
        refine Ev.jp (i := .goto (-33)) (len := 3) (pc2 := 9) (by decide +kernel) rfl ?_
        refine Ev.wk (L2 := [(9, 0), (9, 0), (9, 0), (9, 0), (1, v6), (8, 0), (1, u1), (8, 0), (0, w32 (v8 + 1)), (9, 0), (9, 0)]) (wkL_of ⟨Or.inl rfl, ⟨Or.inl rfl, ⟨Or.inl rfl, ⟨Or.inl rfl, ⟨Or.inl rfl, ⟨Or.inl rfl, ⟨Or.inl rfl, ⟨Or.inl rfl, ⟨Or.inl rfl, ⟨Or.inr rfl, ⟨Or.inr rfl, trivial⟩⟩⟩⟩⟩⟩⟩⟩⟩⟩⟩) ?_
        exact ih v6 u1 (w32 (v8 + 1)) h _ hx
    · have hx := hb hc
      clear ha hb hc
      refine Ev.blk (is := [.lload 4]) (pc2 := 47) (L2 := [(9, 0), (9, 0), (9, 0), (9, 0), (1, v4), (8, 0), (1, v6), (8, 0), (0, v8), (9, 0), (9, 0)]) (S2 := [(1, v4)]) (h2 := h) (by decide +kernel) rfl trivial ?_
      cases hx
      exact Ev.ret (i := .lreturn) (len := 1) (by decide +kernel) rfl (finOf (t := some .long) rfl (trivial))
theorem x_Arithmetic_commonOf {sc : AS} {d : Nat} (hd : 1 ≤ d) {v0 : Int} {v2 : Int} {h : AH} {r : Int} (hx : Arithmetic_commonOf v0 v2 = some r) : Runs sc d 37 [(1, v0), (1, v2)] h (some (1, r)) h := by
  obtain ⟨d, rfl⟩ : ∃ e, d = e + 1 := ⟨d - 1, by omega⟩
  have hd : 0 ≤ d := by omega
  unfold Arithmetic_commonOf at hx
  refine ⟨⟨aM_37, rfl, Nat.le_of_ble_eq_true rfl⟩, ?_⟩
  show Ev sc d 37 0 [(1, v0), (8, 0), (1, v2), (8, 0), (9, 0), (9, 0), (9, 0), (9, 0), (9, 0), (9, 0), (9, 0)] [] h (some (1, r)) h
  refine Ev.blk (is := [.lload_n 0, .lstore 4, .lload_n 2, .lstore 6, .iconst 0, .istore 8]) (pc2 := 9) (L2 := [(1, v0), (8, 0), (1, v2), (8, 0), (1, v0), (8, 0), (1, v2), (8, 0), (0, 0), (9, 0), (9, 0)]) (S2 := []) (h2 := h) (by decide +kernel) rfl trivial ?_
  refine Ev.wk (L2 := [(9, 0), (9, 0), (9, 0), (9, 0), (1, v0), (8, 0), (1, v2), (8, 0), (0, 0), (9, 0), (9, 0)]) (wkL_of ⟨Or.inr rfl, ⟨Or.inr rfl, ⟨Or.inr rfl, ⟨Or.inr rfl, ⟨Or.inl rfl, ⟨Or.inl rfl, ⟨Or.inl rfl, ⟨Or.inl rfl, ⟨Or.inl rfl, ⟨Or.inl rfl, ⟨Or.inl rfl, trivial⟩⟩⟩⟩⟩⟩⟩⟩⟩⟩⟩) ?_
  exact y_Arithmetic_commonOf_9 hd FU v0 v2 0 h _ hx
theorem x_Checker_isEnough {sc : AS} {d : Nat} (hd : 2 ≤ d) {v0 : Int} {v2 : Int} {v4 : Int} {h : AH} {r : Int} (hx : Checker_isEnough v0 v2 v4 = some r) : Runs sc d 36 [(1, v0), (1, v2), (1, v4)] h (some (0, r)) h := by
  obtain ⟨d, rfl⟩ : ∃ e, d = e + 1 := ⟨d - 1, by omega⟩
  have hd : 1 ≤ d := by omega
  unfold Checker_isEnough at hx
  refine ⟨⟨aM_36, rfl, Nat.le_of_ble_eq_true rfl⟩, ?_⟩
  show Ev sc d 36 0 [(1, v0), (8, 0), (1, v2), (8, 0), (1, v4), (8, 0), (9, 0), (9, 0), (9, 0), (9, 0), (9, 0), (9, 0)] [] h (some (0, r)) h
  refine Ev.blk (is := [.lload_n 0, .lload_n 2]) (pc2 := 2) (L2 := [(1, v0), (8, 0), (1, v2), (8, 0), (1, v4), (8, 0), (9, 0), (9, 0), (9, 0), (9, 0), (9, 0), (9, 0)]) (S2 := [(1, v2), (1, v0)]) (h2 := h) (by decide +kernel) rfl trivial ?_
  obtain ⟨u1, hc, hx⟩ := bca hx
  refine Ev.call (args := [(1, v0), (1, v2)]) (S2 := []) (r1 := (some (1, u1))) (h1 := h) (i := .invokestatic 37) (by decide +kernel) rfl rfl (Nat.le_of_ble_eq_true rfl) (Or.inl rfl) (x_Arithmetic_commonOf (by omega) hc) ?_
  refine Ev.blk (is := [.lstore 6, .lload 6, .lconst 1, .lcmp]) (pc2 := 11) (L2 := [(1, v0), (8, 0), (1, v2), (8, 0), (1, v4), (8, 0), (1, u1), (8, 0), (9, 0), (9, 0), (9, 0), (9, 0)]) (S2 := [(0, cmpL u1 1)]) (h2 := h) (by decide +kernel) rfl trivial ?_
  obtain ⟨ha, hb⟩ := bite hx
  clear hx
  refine Ev.br (i := .ifCond .ge 5) (len := 3) (a := 14) (b := 16) (by decide +kernel) rfl cmpL_lt (fun hc => ?_) (fun hc => ?_)
  · have hx := ha hc
    clear ha hb hc
    refine Ev.blk (is := [.iconst 0]) (pc2 := 15) (L2 := [(1, v0), (8, 0), (1, v2), (8, 0), (1, v4), (8, 0), (1, u1), (8, 0), (9, 0), (9, 0), (9, 0), (9, 0)]) (S2 := [(0, 0)]) (h2 := h) (by decide +kernel) rfl trivial ?_
    cases hx
    exact Ev.ret (i := .ireturn) (len := 1) (by decide +kernel) rfl (finOf (t := some .boolean) rfl (bz0))
  · have hx := hb hc
    clear ha hb hc
    obtain ⟨u2, hg, he, hx⟩ := bgd hx
    refine Ev.blk (is := [.lload_n 0, .lload 6, .ldiv]) (pc2 := 20) (L2 := [(1, v0), (8, 0), (1, v2), (8, 0), (1, v4), (8, 0), (1, u1), (8, 0), (9, 0), (9, 0), (9, 0), (9, 0)]) (S2 := [(1, u2)]) (h2 := h) (by decide +kernel) (by subst he; rfl) (by exact hg) ?_
    clear hg he
    refine Ev.blk (is := [.lload_n 2, .lmul, .lstore 8, .lload 8, .lconst 1, .lcmp]) (pc2 := 28) (L2 := [(1, v0), (8, 0), (1, v2), (8, 0), (1, v4), (8, 0), (1, u1), (8, 0), (1, w64 (u2 * v2)), (8, 0), (9, 0), (9, 0)]) (S2 := [(0, cmpL (w64 (u2 * v2)) 1)]) (h2 := h) (by decide +kernel) rfl trivial ?_
    obtain ⟨ha, hb⟩ := bite hx
    clear hx
    refine Ev.br (i := .ifCond .lt 14) (len := 3) (a := 42) (b := 31) (by decide +kernel) rfl cmpL_lt (fun hc => ?_) (fun hc => ?_)
    · have hx := ha hc
      clear ha hb hc
      refine Ev.blk (is := [.iconst 0]) (pc2 := 43) (L2 := [(1, v0), (8, 0), (1, v2), (8, 0), (1, v4), (8, 0), (1, u1), (8, 0), (1, w64 (u2 * v2)), (8, 0), (9, 0), (9, 0)]) (S2 := [(0, 0)]) (h2 := h) (by decide +kernel) rfl trivial ?_
      cases hx
      exact Ev.ret (i := .ireturn) (len := 1) (by decide +kernel) rfl (finOf (t := some .boolean) rfl (bz0))
    · have hx := hb hc
      clear ha hb hc
      obtain ⟨u3, hg, he, hx⟩ := bgd hx
      refine Ev.blk (is := [.lload 8, .lload 4, .lload 8, .ldiv]) (pc2 := 38) (L2 := [(1, v0), (8, 0), (1, v2), (8, 0), (1, v4), (8, 0), (1, u1), (8, 0), (1, w64 (u2 * v2)), (8, 0), (9, 0), (9, 0)]) (S2 := [(1, u3), (1, w64 (u2 * v2))]) (h2 := h) (by decide +kernel) (by subst he; rfl) (by exact hg) ?_
      clear hg he
      refine Ev.blk (is := [.lcmp]) (pc2 := 39) (L2 := [(1, v0), (8, 0), (1, v2), (8, 0), (1, v4), (8, 0), (1, u1), (8, 0), (1, w64 (u2 * v2)), (8, 0), (9, 0), (9, 0)]) (S2 := [(0, cmpL (w64 (u2 * v2)) u3)]) (h2 := h) (by decide +kernel) rfl trivial ?_
      obtain ⟨ha, hb⟩ := bite hx
      clear hx
      refine Ev.br (i := .ifCond .gt 5) (len := 3) (a := 44) (b := 42) (by decide +kernel) rfl cmpL_gt (fun hc => ?_) (fun hc => ?_)
      · have hx := ha hc
        clear ha hb hc
        obtain ⟨u4, hg, he, hx⟩ := bgd hx
        refine Ev.blk (is := [.lload 4, .lload 8, .lrem]) (pc2 := 49) (L2 := [(1, v0), (8, 0), (1, v2), (8, 0), (1, v4), (8, 0), (1, u1), (8, 0), (1, w64 (u2 * v2)), (8, 0), (9, 0), (9, 0)]) (S2 := [(1, u4)]) (h2 := h) (by decide +kernel) (by subst he; rfl) (by exact hg) ?_
        clear hg he
        refine Ev.blk (is := [.lstore 10, .lload 10, .lconst 1, .lcmp]) (pc2 := 55) (L2 := [(1, v0), (8, 0), (1, v2), (8, 0), (1, v4), (8, 0), (1, u1), (8, 0), (1, w64 (u2 * v2)), (8, 0), (1, u4), (8, 0)]) (S2 := [(0, cmpL u4 1)]) (h2 := h) (by decide +kernel) rfl trivial ?_
        obtain ⟨ha, hb⟩ := bite hx
        clear hx
        refine Ev.br (i := .ifCond .le 21) (len := 3) (a := 58) (b := 76) (by decide +kernel) rfl cmpL_gt (fun hc => ?_) (fun hc => ?_)
        · have hx := ha hc
          clear ha hb hc
          refine Ev.blk (is := [.lload 10, .lload 4, .lcmp]) (pc2 := 63) (L2 := [(1, v0), (8, 0), (1, v2), (8, 0), (1, v4), (8, 0), (1, u1), (8, 0), (1, w64 (u2 * v2)), (8, 0), (1, u4), (8, 0)]) (S2 := [(0, cmpL u4 v4)]) (h2 := h) (by decide +kernel) rfl trivial ?_
          obtain ⟨ha, hb⟩ := bite hx
          clear hx
          refine Ev.br (i := .ifCond .ge 13) (len := 3) (a := 66) (b := 76) (by decide +kernel) rfl cmpL_lt (fun hc => ?_) (fun hc => ?_)
          · have hx := ha hc
            clear ha hb hc
            obtain ⟨u5, hg, he, hx⟩ := bgd hx
            refine Ev.blk (is := [.lload 4, .lload 10, .lrem]) (pc2 := 71) (L2 := [(1, v0), (8, 0), (1, v2), (8, 0), (1, v4), (8, 0), (1, u1), (8, 0), (1, w64 (u2 * v2)), (8, 0), (1, u4), (8, 0)]) (S2 := [(1, u5)]) (h2 := h) (by decide +kernel) (by subst he; rfl) (by exact hg) ?_
            clear hg he
            refine Ev.blk (is := [.lconst 0, .lcmp]) (pc2 := 73) (L2 := [(1, v0), (8, 0), (1, v2), (8, 0), (1, v4), (8, 0), (1, u1), (8, 0), (1, w64 (u2 * v2)), (8, 0), (1, u4), (8, 0)]) (S2 := [(0, cmpL u5 0)]) (h2 := h) (by decide +kernel) rfl trivial ?_
            obtain ⟨ha, hb⟩ := bite hx
            clear hx
            refine Ev.br (i := .ifCond .eq 7) (len := 3) (a := 80) (b := 76) (by decide +kernel) rfl cmpL_eq (fun hc => ?_) (fun hc => ?_)
            · have hx := ha hc
              clear ha hb hc
              refine Ev.blk (is := [.iconst 0]) (pc2 := 81) (L2 := [(1, v0), (8, 0), (1, v2), (8, 0), (1, v4), (8, 0), (1, u1), (8, 0), (1, w64 (u2 * v2)), (8, 0), (1, u4), (8, 0)]) (S2 := [(0, 0)]) (h2 := h) (by decide +kernel) rfl trivial ?_
              cases hx
              exact Ev.ret (i := .ireturn) (len := 1) (by decide +kernel) rfl (finOf (t := some .boolean) rfl (bz0))
            · have hx := hb hc
              clear ha hb hc
              refine Ev.blk (is := [.iconst 1]) (pc2 := 77) (L2 := [(1, v0), (8, 0), (1, v2), (8, 0), (1, v4), (8, 0), (1, u1), (8, 0), (1, w64 (u2 * v2)), (8, 0), (1, u4), (8, 0)]) (S2 := [(0, 1)]) (h2 := h) (by decide +kernel) rfl trivial ?_
              refine Ev.jp (i := .goto 4) (len := 3) (pc2 := 81) (by decide +kernel) rfl ?_
              cases hx
              exact Ev.ret (i := .ireturn) (len := 1) (by decide +kernel) rfl (finOf (t := some .boolean) rfl (bz1))
          · have hx := hb hc
            clear ha hb hc
            refine Ev.blk (is := [.iconst 1]) (pc2 := 77) (L2 := [(1, v0), (8, 0), (1, v2), (8, 0), (1, v4), (8, 0), (1, u1), (8, 0), (1, w64 (u2 * v2)), (8, 0), (1, u4), (8, 0)]) (S2 := [(0, 1)]) (h2 := h) (by decide +kernel) rfl trivial ?_
            refine Ev.jp (i := .goto 4) (len := 3) (pc2 := 81) (by decide +kernel) rfl ?_
            cases hx
            exact Ev.ret (i := .ireturn) (len := 1) (by decide +kernel) rfl (finOf (t := some .boolean) rfl (bz1))
        · have hx := hb hc
          clear ha hb hc
          refine Ev.blk (is := [.iconst 1]) (pc2 := 77) (L2 := [(1, v0), (8, 0), (1, v2), (8, 0), (1, v4), (8, 0), (1, u1), (8, 0), (1, w64 (u2 * v2)), (8, 0), (1, u4), (8, 0)]) (S2 := [(0, 1)]) (h2 := h) (by decide +kernel) rfl trivial ?_
          refine Ev.jp (i := .goto 4) (len := 3) (pc2 := 81) (by decide +kernel) rfl ?_
          cases hx
          exact Ev.ret (i := .ireturn) (len := 1) (by decide +kernel) rfl (finOf (t := some .boolean) rfl (bz1))
      · have hx := hb hc
        clear ha hb hc
        refine Ev.blk (is := [.iconst 0]) (pc2 := 43) (L2 := [(1, v0), (8, 0), (1, v2), (8, 0), (1, v4), (8, 0), (1, u1), (8, 0), (1, w64 (u2 * v2)), (8, 0), (9, 0), (9, 0)]) (S2 := [(0, 0)]) (h2 := h) (by decide +kernel) rfl trivial ?_
        cases hx
        exact Ev.ret (i := .ireturn) (len := 1) (by decide +kernel) rfl (finOf (t := some .boolean) rfl (bz0))
theorem x_Checker_productFault {sc : AS} {d : Nat} (hd : 3 ≤ d) {v0 : Int} {h : AH} {r : Int} (hx : Checker_productFault v0 h = some r) : Runs sc d 32 [(2, v0)] h (some (0, r)) h := by
  obtain ⟨d, rfl⟩ : ∃ e, d = e + 1 := ⟨d - 1, by omega⟩
  have hd : 2 ≤ d := by omega
  unfold Checker_productFault at hx
  refine ⟨⟨aM_32, rfl, Nat.le_of_ble_eq_true rfl⟩, ?_⟩
  show Ev sc d 32 0 [(2, v0), (9, 0), (9, 0), (9, 0), (9, 0), (9, 0), (9, 0)] [] h (some (0, r)) h
  obtain ⟨u1, hg, he, hx⟩ := bgd hx
  refine Ev.blk (is := [.aload_n 0, .getfield 3002]) (pc2 := 4) (L2 := [(2, v0), (9, 0), (9, 0), (9, 0), (9, 0), (9, 0), (9, 0)]) (S2 := [(0, u1)]) (h2 := h) (by decide +kernel) (by subst he; rfl) (by exact hg) ?_
  clear hg he
  obtain ⟨u2, hg, he, hx⟩ := bgd hx
  refine Ev.blk (is := [.i2l, .lstore_n 1, .aload_n 0, .getfield 3200]) (pc2 := 10) (L2 := [(2, v0), (1, u1), (8, 0), (9, 0), (9, 0), (9, 0), (9, 0)]) (S2 := [(2, u2)]) (h2 := h) (by decide +kernel) (by subst he; rfl) (by exact hg) ?_
  clear hg he
  obtain ⟨_, hg, -, hx⟩ := bgd hx
  obtain ⟨u3, hc, hx⟩ := bca hx
  refine Ev.call (args := [(2, u2)]) (S2 := []) (r1 := (some (1, u3))) (h1 := h) (i := .invokevirtual 33) (by decide +kernel) rfl rfl (Nat.le_of_ble_eq_true rfl) (Or.inr (Or.inl ⟨rfl, hg, by decide +kernel⟩)) (x_Side_product (by omega) hc) ?_
  obtain ⟨u4, hg, he, hx⟩ := bgd hx
  refine Ev.blk (is := [.lstore_n 3, .aload_n 0, .getfield 3201]) (pc2 := 18) (L2 := [(2, v0), (1, u1), (8, 0), (1, u3), (8, 0), (9, 0), (9, 0)]) (S2 := [(2, u4)]) (h2 := h) (by decide +kernel) (by subst he; rfl) (by exact hg) ?_
  clear hg he
  obtain ⟨_, hg, -, hx⟩ := bgd hx
  obtain ⟨u5, hc, hx⟩ := bca hx
  refine Ev.call (args := [(2, u4)]) (S2 := []) (r1 := (some (1, u5))) (h1 := h) (i := .invokevirtual 33) (by decide +kernel) rfl rfl (Nat.le_of_ble_eq_true rfl) (Or.inr (Or.inl ⟨rfl, hg, by decide +kernel⟩)) (x_Side_product (by omega) hc) ?_
  obtain ⟨u6, hg, he, hx⟩ := bgd hx
  refine Ev.blk (is := [.lstore 5, .aload_n 0, .getfield 3003]) (pc2 := 27) (L2 := [(2, v0), (1, u1), (8, 0), (1, u3), (8, 0), (1, u5), (8, 0)]) (S2 := [(0, u6)]) (h2 := h) (by decide +kernel) (by subst he; rfl) (by exact hg) ?_
  clear hg he
  obtain ⟨ha, hb⟩ := bite hx
  clear hx
  by_cases hc0 : u6 = 1
  · have hx := ha hc0
    clear ha hb
    refine Ev.jp (i := .tableswitch 125 1 4 #[29, 43, 71, 86]) (len := 29) (pc2 := 56) (by decide +kernel) (by rw [hc0]; rfl) ?_
    clear hc0
    refine Ev.blk (is := [.lload_n 3, .lload_n 1, .lconst 1, .lsub, .lcmp]) (pc2 := 61) (L2 := [(2, v0), (1, u1), (8, 0), (1, u3), (8, 0), (1, u5), (8, 0)]) (S2 := [(0, cmpL u3 (w64 (u1 - 1)))]) (h2 := h) (by decide +kernel) rfl trivial ?_
    obtain ⟨ha, hb⟩ := bite hx
    clear hx
    refine Ev.br (i := .ifCond .eq 7) (len := 3) (a := 68) (b := 64) (by decide +kernel) rfl cmpL_eq (fun hc => ?_) (fun hc => ?_)
    · have hx := ha hc
      clear ha hb hc
      refine Ev.blk (is := [.iconst 0]) (pc2 := 69) (L2 := [(2, v0), (1, u1), (8, 0), (1, u3), (8, 0), (1, u5), (8, 0)]) (S2 := [(0, 0)]) (h2 := h) (by decide +kernel) rfl trivial ?_
      cases hx
      exact Ev.ret (i := .ireturn) (len := 1) (by decide +kernel) rfl (finOf (t := some .int) rfl (trivial))
    · have hx := hb hc
      clear ha hb hc
      refine Ev.blk (is := [.iconst 3]) (pc2 := 65) (L2 := [(2, v0), (1, u1), (8, 0), (1, u3), (8, 0), (1, u5), (8, 0)]) (S2 := [(0, 3)]) (h2 := h) (by decide +kernel) rfl trivial ?_
      refine Ev.jp (i := .goto 4) (len := 3) (pc2 := 69) (by decide +kernel) rfl ?_
      cases hx
      exact Ev.ret (i := .ireturn) (len := 1) (by decide +kernel) rfl (finOf (t := some .int) rfl (trivial))
  have hx := hb hc0
  clear ha hb
  obtain ⟨ha, hb⟩ := bite hx
  clear hx
  by_cases hc1 : u6 = 2
  · have hx := ha hc1
    clear ha hb
    refine Ev.jp (i := .tableswitch 125 1 4 #[29, 43, 71, 86]) (len := 29) (pc2 := 70) (by decide +kernel) (by rw [hc1]; rfl) ?_
    clear hc1
    refine Ev.blk (is := [.lload_n 3, .lload_n 1, .lconst 1, .lsub]) (pc2 := 74) (L2 := [(2, v0), (1, u1), (8, 0), (1, u3), (8, 0), (1, u5), (8, 0)]) (S2 := [(1, w64 (u1 - 1)), (1, u3)]) (h2 := h) (by decide +kernel) rfl trivial ?_
    obtain ⟨u7, hc, hx⟩ := bca hx
    refine Ev.call (args := [(1, u3), (1, w64 (u1 - 1))]) (S2 := []) (r1 := (some (0, u7))) (h1 := h) (i := .invokestatic 35) (by decide +kernel) rfl rfl (Nat.le_of_ble_eq_true rfl) (Or.inl rfl) (x_Checker_divides (by omega) hc) ?_
    obtain ⟨ha, hb⟩ := bite hx
    clear hx
    refine Ev.br (i := .ifCond .ne 7) (len := 3) (a := 80) (b := 84) (by decide +kernel) rfl Iff.rfl (fun hc => ?_) (fun hc => ?_)
    · have hx := ha hc
      clear ha hb hc
      refine Ev.blk (is := [.iconst 3]) (pc2 := 81) (L2 := [(2, v0), (1, u1), (8, 0), (1, u3), (8, 0), (1, u5), (8, 0)]) (S2 := [(0, 3)]) (h2 := h) (by decide +kernel) rfl trivial ?_
      refine Ev.jp (i := .goto 16) (len := 3) (pc2 := 97) (by decide +kernel) rfl ?_
      cases hx
      exact Ev.ret (i := .ireturn) (len := 1) (by decide +kernel) rfl (finOf (t := some .int) rfl (trivial))
    · have hx := hb hc
      clear ha hb hc
      refine Ev.blk (is := [.lload_n 3, .lload_n 3, .lmul, .lload_n 1, .lcmp]) (pc2 := 89) (L2 := [(2, v0), (1, u1), (8, 0), (1, u3), (8, 0), (1, u5), (8, 0)]) (S2 := [(0, cmpL (w64 (u3 * u3)) u1)]) (h2 := h) (by decide +kernel) rfl trivial ?_
      obtain ⟨ha, hb⟩ := bite hx
      clear hx
      refine Ev.br (i := .ifCond .gt 7) (len := 3) (a := 96) (b := 92) (by decide +kernel) rfl cmpL_gt (fun hc => ?_) (fun hc => ?_)
      · have hx := ha hc
        clear ha hb hc
        refine Ev.blk (is := [.iconst 0]) (pc2 := 97) (L2 := [(2, v0), (1, u1), (8, 0), (1, u3), (8, 0), (1, u5), (8, 0)]) (S2 := [(0, 0)]) (h2 := h) (by decide +kernel) rfl trivial ?_
        cases hx
        exact Ev.ret (i := .ireturn) (len := 1) (by decide +kernel) rfl (finOf (t := some .int) rfl (trivial))
      · have hx := hb hc
        clear ha hb hc
        refine Ev.blk (is := [.iconst 4]) (pc2 := 93) (L2 := [(2, v0), (1, u1), (8, 0), (1, u3), (8, 0), (1, u5), (8, 0)]) (S2 := [(0, 4)]) (h2 := h) (by decide +kernel) rfl trivial ?_
        refine Ev.jp (i := .goto 4) (len := 3) (pc2 := 97) (by decide +kernel) rfl ?_
        cases hx
        exact Ev.ret (i := .ireturn) (len := 1) (by decide +kernel) rfl (finOf (t := some .int) rfl (trivial))
  have hx := hb hc1
  clear ha hb
  obtain ⟨ha, hb⟩ := bite hx
  clear hx
  by_cases hc2 : u6 = 3
  · have hx := ha hc2
    clear ha hb
    refine Ev.jp (i := .tableswitch 125 1 4 #[29, 43, 71, 86]) (len := 29) (pc2 := 98) (by decide +kernel) (by rw [hc2]; rfl) ?_
    clear hc2
    refine Ev.blk (is := [.lload 5, .lload_n 1, .lconst 1, .ladd, .lcmp]) (pc2 := 104) (L2 := [(2, v0), (1, u1), (8, 0), (1, u3), (8, 0), (1, u5), (8, 0)]) (S2 := [(0, cmpL u5 (w64 (u1 + 1)))]) (h2 := h) (by decide +kernel) rfl trivial ?_
    obtain ⟨ha, hb⟩ := bite hx
    clear hx
    refine Ev.br (i := .ifCond .eq 7) (len := 3) (a := 111) (b := 107) (by decide +kernel) rfl cmpL_eq (fun hc => ?_) (fun hc => ?_)
    · have hx := ha hc
      clear ha hb hc
      refine Ev.blk (is := [.iconst 0]) (pc2 := 112) (L2 := [(2, v0), (1, u1), (8, 0), (1, u3), (8, 0), (1, u5), (8, 0)]) (S2 := [(0, 0)]) (h2 := h) (by decide +kernel) rfl trivial ?_
      cases hx
      exact Ev.ret (i := .ireturn) (len := 1) (by decide +kernel) rfl (finOf (t := some .int) rfl (trivial))
    · have hx := hb hc
      clear ha hb hc
      refine Ev.blk (is := [.iconst 3]) (pc2 := 108) (L2 := [(2, v0), (1, u1), (8, 0), (1, u3), (8, 0), (1, u5), (8, 0)]) (S2 := [(0, 3)]) (h2 := h) (by decide +kernel) rfl trivial ?_
      refine Ev.jp (i := .goto 4) (len := 3) (pc2 := 112) (by decide +kernel) rfl ?_
      cases hx
      exact Ev.ret (i := .ireturn) (len := 1) (by decide +kernel) rfl (finOf (t := some .int) rfl (trivial))
  have hx := hb hc2
  clear ha hb
  obtain ⟨ha, hb⟩ := bite hx
  clear hx
  by_cases hc3 : u6 = 4
  · have hx := ha hc3
    clear ha hb
    refine Ev.jp (i := .tableswitch 125 1 4 #[29, 43, 71, 86]) (len := 29) (pc2 := 113) (by decide +kernel) (by rw [hc3]; rfl) ?_
    clear hc3
    refine Ev.blk (is := [.lload_n 3, .lload_n 1, .lconst 1, .lsub]) (pc2 := 117) (L2 := [(2, v0), (1, u1), (8, 0), (1, u3), (8, 0), (1, u5), (8, 0)]) (S2 := [(1, w64 (u1 - 1)), (1, u3)]) (h2 := h) (by decide +kernel) rfl trivial ?_
    obtain ⟨u8, hc, hx⟩ := bca hx
    refine Ev.call (args := [(1, u3), (1, w64 (u1 - 1))]) (S2 := []) (r1 := (some (0, u8))) (h1 := h) (i := .invokestatic 35) (by decide +kernel) rfl rfl (Nat.le_of_ble_eq_true rfl) (Or.inl rfl) (x_Checker_divides (by omega) hc) ?_
    obtain ⟨ha, hb⟩ := bite hx
    clear hx
    refine Ev.br (i := .ifCond .eq 14) (len := 3) (a := 134) (b := 123) (by decide +kernel) rfl Iff.rfl (fun hc => ?_) (fun hc => ?_)
    · have hx := ha hc
      clear ha hb hc
      refine Ev.blk (is := [.iconst 3]) (pc2 := 135) (L2 := [(2, v0), (1, u1), (8, 0), (1, u3), (8, 0), (1, u5), (8, 0)]) (S2 := [(0, 3)]) (h2 := h) (by decide +kernel) rfl trivial ?_
      cases hx
      exact Ev.ret (i := .ireturn) (len := 1) (by decide +kernel) rfl (finOf (t := some .int) rfl (trivial))
    · have hx := hb hc
      clear ha hb hc
      refine Ev.blk (is := [.lload 5, .lload_n 1, .lconst 1, .ladd]) (pc2 := 128) (L2 := [(2, v0), (1, u1), (8, 0), (1, u3), (8, 0), (1, u5), (8, 0)]) (S2 := [(1, w64 (u1 + 1)), (1, u5)]) (h2 := h) (by decide +kernel) rfl trivial ?_
      obtain ⟨u9, hc, hx⟩ := bca hx
      refine Ev.call (args := [(1, u5), (1, w64 (u1 + 1))]) (S2 := []) (r1 := (some (0, u9))) (h1 := h) (i := .invokestatic 35) (by decide +kernel) rfl rfl (Nat.le_of_ble_eq_true rfl) (Or.inl rfl) (x_Checker_divides (by omega) hc) ?_
      obtain ⟨ha, hb⟩ := bite hx
      clear hx
      refine Ev.br (i := .ifCond .ne 5) (len := 3) (a := 134) (b := 136) (by decide +kernel) rfl Iff.rfl (fun hc => ?_) (fun hc => ?_)
      · have hx := ha hc
        clear ha hb hc
        refine Ev.blk (is := [.iconst 3]) (pc2 := 135) (L2 := [(2, v0), (1, u1), (8, 0), (1, u3), (8, 0), (1, u5), (8, 0)]) (S2 := [(0, 3)]) (h2 := h) (by decide +kernel) rfl trivial ?_
        cases hx
        exact Ev.ret (i := .ireturn) (len := 1) (by decide +kernel) rfl (finOf (t := some .int) rfl (trivial))
      · have hx := hb hc
        clear ha hb hc
        refine Ev.blk (is := [.lload_n 3, .lload 5, .lload_n 1]) (pc2 := 140) (L2 := [(2, v0), (1, u1), (8, 0), (1, u3), (8, 0), (1, u5), (8, 0)]) (S2 := [(1, u1), (1, u5), (1, u3)]) (h2 := h) (by decide +kernel) rfl trivial ?_
        obtain ⟨u10, hc, hx⟩ := bca hx
        refine Ev.call (args := [(1, u3), (1, u5), (1, u1)]) (S2 := []) (r1 := (some (0, u10))) (h1 := h) (i := .invokestatic 36) (by decide +kernel) rfl rfl (Nat.le_of_ble_eq_true rfl) (Or.inl rfl) (x_Checker_isEnough (by omega) hc) ?_
        obtain ⟨ha, hb⟩ := bite hx
        clear hx
        refine Ev.br (i := .ifCond .eq 7) (len := 3) (a := 150) (b := 146) (by decide +kernel) rfl Iff.rfl (fun hc => ?_) (fun hc => ?_)
        · have hx := ha hc
          clear ha hb hc
          refine Ev.blk (is := [.iconst 4]) (pc2 := 151) (L2 := [(2, v0), (1, u1), (8, 0), (1, u3), (8, 0), (1, u5), (8, 0)]) (S2 := [(0, 4)]) (h2 := h) (by decide +kernel) rfl trivial ?_
          cases hx
          exact Ev.ret (i := .ireturn) (len := 1) (by decide +kernel) rfl (finOf (t := some .int) rfl (trivial))
        · have hx := hb hc
          clear ha hb hc
          refine Ev.blk (is := [.iconst 0]) (pc2 := 147) (L2 := [(2, v0), (1, u1), (8, 0), (1, u3), (8, 0), (1, u5), (8, 0)]) (S2 := [(0, 0)]) (h2 := h) (by decide +kernel) rfl trivial ?_
          refine Ev.jp (i := .goto 4) (len := 3) (pc2 := 151) (by decide +kernel) rfl ?_
          cases hx
          exact Ev.ret (i := .ireturn) (len := 1) (by decide +kernel) rfl (finOf (t := some .int) rfl (trivial))
  have hx := hb hc3
  clear ha hb
  refine Ev.jp (i := .tableswitch 125 1 4 #[29, 43, 71, 86]) (len := 29) (pc2 := 152) (by decide +kernel) (jsw (by omega)) ?_
  clear hc0 hc1 hc2 hc3
  refine Ev.blk (is := [.iconst 0]) (pc2 := 153) (L2 := [(2, v0), (1, u1), (8, 0), (1, u3), (8, 0), (1, u5), (8, 0)]) (S2 := [(0, 0)]) (h2 := h) (by decide +kernel) rfl trivial ?_
  cases hx
  exact Ev.ret (i := .ireturn) (len := 1) (by decide +kernel) rfl (finOf (t := some .int) rfl (trivial))
theorem y_Finder_layByTurns_41 {sc : AS} {d : Nat} (hd : 3 ≤ d) {k12 : Int → Int → Int → Int → Int → Int → AH → Option AH} (hk12 : ∀ (v0 : Int) (v1 : Int) (v4 : Int) (v5 : Int) (v6 : Int) (v7 : Int) (h : AH) (r : AH), k12 v0 v1 v4 v5 v6 v7 h = some r → Ev sc d 31 12 [(2, v0), (2, v1), (9, 0), (9, 0), (0, v4), (0, v5), (0, v6), (0, v7)] [] h none r) : ∀ (v0 : Int) (v1 : Int) (v4 : Int) (v5 : Int) (v7 : Int) (h : AH) (r : AH), Finder_layByTurns_41 k12 v0 v1 v4 v5 v7 h = some r → Ev sc d 31 41 [(2, v0), (2, v1), (9, 0), (9, 0), (0, v4), (0, v5), (9, 0), (0, v7)] [] h none r := by
  intro v0 v1 v4 v5 v7 h r hx
  unfold Finder_layByTurns_41 at hx
  obtain ⟨u1, hg, he, hx⟩ := bgd hx
  refine Ev.blk (is := [.iinc 5 (-1), .aload_n 1, .getfield 3201]) (pc2 := 48) (L2 := [(2, v0), (2, v1), (9, 0), (9, 0), (0, v4), (0, w32 (v5 + (-1))), (9, 0), (0, v7)]) (S2 := [(2, u1)]) (h2 := h) (by decide +kernel) (by subst he; rfl) (by exact hg) ?_
  clear hg he
  obtain ⟨u2, hg, he, hx⟩ := bgd hx
  refine Ev.blk (is := [.aload_n 0, .getfield 1202]) (pc2 := 52) (L2 := [(2, v0), (2, v1), (9, 0), (9, 0), (0, v4), (0, w32 (v5 + (-1))), (9, 0), (0, v7)]) (S2 := [(2, u2), (2, u1)]) (h2 := h) (by decide +kernel) (by subst he; rfl) (by exact hg) ?_
  clear hg he
  refine Ev.blk (is := [.iload 5]) (pc2 := 54) (L2 := [(2, v0), (2, v1), (9, 0), (9, 0), (0, v4), (0, w32 (v5 + (-1))), (9, 0), (0, v7)]) (S2 := [(0, w32 (v5 + (-1))), (2, u2), (2, u1)]) (h2 := h) (by decide +kernel) rfl trivial ?_
  obtain ⟨h4, hc, hx⟩ := bca hx
  refine Ev.call (args := [(2, u1), (2, u2), (0, w32 (v5 + (-1)))]) (S2 := []) (r1 := none) (h1 := h4) (i := .invokestatic 28) (by decide +kernel) rfl rfl (Nat.le_of_ble_eq_true rfl) (Or.inl rfl) (x_Finder_layOne (by omega) hc) ?_
  refine Ev.blk (is := [.iconst 0, .istore 6]) (pc2 := 60) (L2 := [(2, v0), (2, v1), (9, 0), (9, 0), (0, v4), (0, w32 (v5 + (-1))), (0, 0), (0, v7)]) (S2 := []) (h2 := h4) (by decide +kernel) rfl trivial ?_
  refine Ev.jp (i := .goto 27) (len := 3) (pc2 := 87) (by decide +kernel) rfl ?_
  refine Ev.blk (is := [.iinc 7 1]) (pc2 := 90) (L2 := [(2, v0), (2, v1), (9, 0), (9, 0), (0, v4), (0, w32 (v5 + (-1))), (0, 0), (0, w32 (v7 + 1))]) (S2 := []) (h2 := h4) (by decide +kernel) rfl trivial ?_
  refine Ev.jp (i := .goto (-78)) (len := 3) (pc2 := 12) (by decide +kernel) rfl ?_
  exact hk12 v0 v1 v4 (w32 (v5 + (-1))) 0 (w32 (v7 + 1)) h4 _ hx
theorem y_Finder_layByTurns_63 {sc : AS} {d : Nat} (hd : 3 ≤ d) {k12 : Int → Int → Int → Int → Int → Int → AH → Option AH} (hk12 : ∀ (v0 : Int) (v1 : Int) (v4 : Int) (v5 : Int) (v6 : Int) (v7 : Int) (h : AH) (r : AH), k12 v0 v1 v4 v5 v6 v7 h = some r → Ev sc d 31 12 [(2, v0), (2, v1), (9, 0), (9, 0), (0, v4), (0, v5), (0, v6), (0, v7)] [] h none r) : ∀ (v0 : Int) (v1 : Int) (v4 : Int) (v5 : Int) (v6 : Int) (v7 : Int) (h : AH) (r : AH), Finder_layByTurns_63 k12 v0 v1 v4 v5 v6 v7 h = some r → Ev sc d 31 63 [(2, v0), (2, v1), (9, 0), (9, 0), (0, v4), (0, v5), (0, v6), (0, v7)] [] h none r := by
  intro v0 v1 v4 v5 v6 v7 h r hx
  unfold Finder_layByTurns_63 at hx
  refine Ev.blk (is := [.iload 4]) (pc2 := 65) (L2 := [(2, v0), (2, v1), (9, 0), (9, 0), (0, v4), (0, v5), (0, v6), (0, v7)]) (S2 := [(0, v4)]) (h2 := h) (by decide +kernel) rfl trivial ?_
  obtain ⟨ha, hb⟩ := bite hx
  clear hx
  refine Ev.br (i := .ifCond .le 22) (len := 3) (a := 68) (b := 87) (by decide +kernel) rfl Iff.rfl (fun hc => ?_) (fun hc => ?_)
  · have hx := ha hc
    clear ha hb hc
    obtain ⟨u1, hg, he, hx⟩ := bgd hx
    refine Ev.blk (is := [.iinc 4 (-1), .aload_n 1, .getfield 3200]) (pc2 := 75) (L2 := [(2, v0), (2, v1), (9, 0), (9, 0), (0, w32 (v4 + (-1))), (0, v5), (0, v6), (0, v7)]) (S2 := [(2, u1)]) (h2 := h) (by decide +kernel) (by subst he; rfl) (by exact hg) ?_
    clear hg he
    obtain ⟨u2, hg, he, hx⟩ := bgd hx
    refine Ev.blk (is := [.aload_n 0, .getfield 1201]) (pc2 := 79) (L2 := [(2, v0), (2, v1), (9, 0), (9, 0), (0, w32 (v4 + (-1))), (0, v5), (0, v6), (0, v7)]) (S2 := [(2, u2), (2, u1)]) (h2 := h) (by decide +kernel) (by subst he; rfl) (by exact hg) ?_
    clear hg he
    refine Ev.blk (is := [.iload 4]) (pc2 := 81) (L2 := [(2, v0), (2, v1), (9, 0), (9, 0), (0, w32 (v4 + (-1))), (0, v5), (0, v6), (0, v7)]) (S2 := [(0, w32 (v4 + (-1))), (2, u2), (2, u1)]) (h2 := h) (by decide +kernel) rfl trivial ?_
    obtain ⟨h4, hc, hx⟩ := bca hx
    refine Ev.call (args := [(2, u1), (2, u2), (0, w32 (v4 + (-1)))]) (S2 := []) (r1 := none) (h1 := h4) (i := .invokestatic 28) (by decide +kernel) rfl rfl (Nat.le_of_ble_eq_true rfl) (Or.inl rfl) (x_Finder_layOne (by omega) hc) ?_
    refine Ev.blk (is := [.iconst 1, .istore 6, .iinc 7 1]) (pc2 := 90) (L2 := [(2, v0), (2, v1), (9, 0), (9, 0), (0, w32 (v4 + (-1))), (0, v5), (0, 1), (0, w32 (v7 + 1))]) (S2 := []) (h2 := h4) (by decide +kernel) rfl trivial ?_
    refine Ev.jp (i := .goto (-78)) (len := 3) (pc2 := 12) (by decide +kernel) rfl ?_
    exact hk12 v0 v1 (w32 (v4 + (-1))) v5 1 (w32 (v7 + 1)) h4 _ hx
  · have hx := hb hc
    clear ha hb hc
    refine Ev.blk (is := [.iinc 7 1]) (pc2 := 90) (L2 := [(2, v0), (2, v1), (9, 0), (9, 0), (0, v4), (0, v5), (0, v6), (0, w32 (v7 + 1))]) (S2 := []) (h2 := h) (by decide +kernel) rfl trivial ?_
    refine Ev.jp (i := .goto (-78)) (len := 3) (pc2 := 12) (by decide +kernel) rfl ?_
    exact hk12 v0 v1 v4 v5 v6 (w32 (v7 + 1)) h _ hx
theorem y_Finder_layByTurns_12 {sc : AS} {d : Nat} (hd : 3 ≤ d) : ∀ (fu : Nat) (v0 : Int) (v1 : Int) (v4 : Int) (v5 : Int) (v6 : Int) (v7 : Int) (h : AH) (r : AH), Finder_layByTurns_12 fu v0 v1 v4 v5 v6 v7 h = some r → Ev sc d 31 12 [(2, v0), (2, v1), (9, 0), (9, 0), (0, v4), (0, v5), (0, v6), (0, v7)] [] h none r := by
  intro fu
  induction fu with
  | zero => intro v0 v1 v4 v5 v6 v7 h r hx; unfold Finder_layByTurns_12 at hx; cases hx
  | succ fu ih =>
    intro v0 v1 v4 v5 v6 v7 h r hx
    unfold Finder_layByTurns_12 at hx
    refine Ev.blk (is := [.iload 7, .sipush 18]) (pc2 := 16) (L2 := [(2, v0), (2, v1), (9, 0), (9, 0), (0, v4), (0, v5), (0, v6), (0, v7)]) (S2 := [(0, 18), (0, v7)]) (h2 := h) (by decide +kernel) rfl trivial ?_
    obtain ⟨ha, hb⟩ := bite hx
    clear hx
    refine Ev.br (i := .if_icmp .ge 77) (len := 3) (a := 19) (b := 93) (by decide +kernel) rfl Iff.rfl (fun hc => ?_) (fun hc => ?_)
    · have hx := ha hc
      clear ha hb hc
      refine Ev.blk (is := [.aload_n 1]) (pc2 := 20) (L2 := [(2, v0), (2, v1), (9, 0), (9, 0), (0, v4), (0, v5), (0, v6), (0, v7)]) (S2 := [(2, v1)]) (h2 := h) (by decide +kernel) rfl trivial ?_
      obtain ⟨u1, hc, hx⟩ := bca hx
      refine Ev.call (args := [(2, v1)]) (S2 := []) (r1 := (some (0, u1))) (h1 := h) (i := .invokestatic 32) (by decide +kernel) rfl rfl (Nat.le_of_ble_eq_true rfl) (Or.inl rfl) (x_Checker_productFault (by omega) hc) ?_
      obtain ⟨ha, hb⟩ := bite hx
      clear hx
      refine Ev.br (i := .ifCond .eq 70) (len := 3) (a := 93) (b := 26) (by decide +kernel) rfl Iff.rfl (fun hc => ?_) (fun hc => ?_)
      · have hx := ha hc
        clear ha hb hc
        cases hx
        exact Ev.ret (i := .return_) (len := 1) (by decide +kernel) rfl (finOf (t := none) rfl (trivial))
      · have hx := hb hc
        clear ha hb hc
        refine Ev.blk (is := [.iload 5]) (pc2 := 28) (L2 := [(2, v0), (2, v1), (9, 0), (9, 0), (0, v4), (0, v5), (0, v6), (0, v7)]) (S2 := [(0, v5)]) (h2 := h) (by decide +kernel) rfl trivial ?_
        obtain ⟨ha, hb⟩ := bite hx
        clear hx
        refine Ev.br (i := .ifCond .le 35) (len := 3) (a := 31) (b := 63) (by decide +kernel) rfl Iff.rfl (fun hc => ?_) (fun hc => ?_)
        · have hx := ha hc
          clear ha hb hc
          refine Ev.blk (is := [.iload 6]) (pc2 := 33) (L2 := [(2, v0), (2, v1), (9, 0), (9, 0), (0, v4), (0, v5), (0, v6), (0, v7)]) (S2 := [(0, v6)]) (h2 := h) (by decide +kernel) rfl trivial ?_
          obtain ⟨ha, hb⟩ := bite hx
          clear hx
          refine Ev.br (i := .ifCond .ne 8) (len := 3) (a := 36) (b := 41) (by decide +kernel) rfl Iff.rfl (fun hc => ?_) (fun hc => ?_)
          · have hx := ha hc
            clear ha hb hc
            refine Ev.blk (is := [.iload 4]) (pc2 := 38) (L2 := [(2, v0), (2, v1), (9, 0), (9, 0), (0, v4), (0, v5), (0, v6), (0, v7)]) (S2 := [(0, v4)]) (h2 := h) (by decide +kernel) rfl trivial ?_
            obtain ⟨ha, hb⟩ := bite hx
            clear hx
            refine Ev.br (i := .ifCond .ne 25) (len := 3) (a := 41) (b := 63) (by decide +kernel) rfl Iff.rfl (fun hc => ?_) (fun hc => ?_)
            · have hx := ha hc
              clear ha hb hc
              refine Ev.wk (L2 := [(2, v0), (2, v1), (9, 0), (9, 0), (0, v4), (0, v5), (9, 0), (0, v7)]) (wkL_of ⟨Or.inl rfl, ⟨Or.inl rfl, ⟨Or.inl rfl, ⟨Or.inl rfl, ⟨Or.inl rfl, ⟨Or.inl rfl, ⟨Or.inr rfl, ⟨Or.inl rfl, trivial⟩⟩⟩⟩⟩⟩⟩⟩) ?_
              exact y_Finder_layByTurns_41 hd ih v0 v1 v4 v5 v7 h _ hx
            · have hx := hb hc
              clear ha hb hc
              exact y_Finder_layByTurns_63 hd ih v0 v1 v4 v5 v6 v7 h _ hx
          · have hx := hb hc
            clear ha hb hc
            refine Ev.wk (L2 := [(2, v0), (2, v1), (9, 0), (9, 0), (0, v4), (0, v5), (9, 0), (0, v7)]) (wkL_of ⟨Or.inl rfl, ⟨Or.inl rfl, ⟨Or.inl rfl, ⟨Or.inl rfl, ⟨Or.inl rfl, ⟨Or.inl rfl, ⟨Or.inr rfl, ⟨Or.inl rfl, trivial⟩⟩⟩⟩⟩⟩⟩⟩) ?_
            exact y_Finder_layByTurns_41 hd ih v0 v1 v4 v5 v7 h _ hx
        · have hx := hb hc
          clear ha hb hc
          exact y_Finder_layByTurns_63 hd ih v0 v1 v4 v5 v6 v7 h _ hx
    · have hx := hb hc
      clear ha hb hc
      cases hx
      exact Ev.ret (i := .return_) (len := 1) (by decide +kernel) rfl (finOf (t := none) rfl (trivial))
theorem x_Finder_layByTurns {sc : AS} {d : Nat} (hd : 4 ≤ d) {v0 : Int} {v1 : Int} {v2 : Int} {v3 : Int} {h : AH} {r : AH} (hx : Finder_layByTurns v0 v1 v2 v3 h = some r) : Runs sc d 31 [(2, v0), (2, v1), (0, v2), (0, v3)] h none r := by
  obtain ⟨d, rfl⟩ : ∃ e, d = e + 1 := ⟨d - 1, by omega⟩
  have hd : 3 ≤ d := by omega
  unfold Finder_layByTurns at hx
  refine ⟨⟨aM_31, rfl, Nat.le_of_ble_eq_true rfl⟩, ?_⟩
  show Ev sc d 31 0 [(2, v0), (2, v1), (0, v2), (0, v3), (9, 0), (9, 0), (9, 0), (9, 0)] [] h none r
  refine Ev.blk (is := [.iload_n 2, .istore 4, .iload_n 3, .istore 5, .iconst 0, .istore 6, .iconst 0, .istore 7]) (pc2 := 12) (L2 := [(2, v0), (2, v1), (0, v2), (0, v3), (0, v2), (0, v3), (0, 0), (0, 0)]) (S2 := []) (h2 := h) (by decide +kernel) rfl trivial ?_
  refine Ev.wk (L2 := [(2, v0), (2, v1), (9, 0), (9, 0), (0, v2), (0, v3), (0, 0), (0, 0)]) (wkL_of ⟨Or.inl rfl, ⟨Or.inl rfl, ⟨Or.inr rfl, ⟨Or.inr rfl, ⟨Or.inl rfl, ⟨Or.inl rfl, ⟨Or.inl rfl, ⟨Or.inl rfl, trivial⟩⟩⟩⟩⟩⟩⟩⟩) ?_
  exact y_Finder_layByTurns_12 hd FU v0 v1 v2 v3 0 0 h _ hx
