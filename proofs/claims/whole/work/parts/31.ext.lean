/-! the methods run as their shallow functions say -/
theorem x_R_proof {sc : AS} {d : Nat} (hd : 6 ≤ d) {v0 : Int} {v1 : Int} {h : AH} {r : (Int × AH)} (hx : R_proof v0 v1 h = some r) : Runs sc d 246 [(2, v0), (0, v1)] h (some (0, r.1)) r.2 := by
  obtain ⟨d, rfl⟩ : ∃ e, d = e + 1 := ⟨d - 1, by omega⟩
  have hd : 5 ≤ d := by omega
  unfold R_proof at hx
  refine ⟨⟨aM_246, rfl, Nat.le_of_ble_eq_true rfl⟩, ?_⟩
  show Ev sc d 246 0 [(2, v0), (0, v1), (9, 0)] [] h (some (0, r.1)) r.2
  refine Ev.blk (is := [.iload_n 1, .i2l]) (pc2 := 2) (L2 := [(2, v0), (0, v1), (9, 0)]) (S2 := [(1, v1)]) (h2 := h) (by decide +kernel) rfl trivial ?_
  obtain ⟨u1, hc, hx⟩ := bca hx
  refine Ev.call (args := [(1, v1)]) (S2 := []) (r1 := (some (0, u1))) (h1 := h) (i := .invokestatic 163) (by decide +kernel) rfl rfl (Nat.le_of_ble_eq_true rfl) (Or.inl rfl) (x_R_isNumber (by omega) hc) ?_
  obtain ⟨ha, hb⟩ := bite hx
  clear hx
  refine Ev.br (i := .ifCond .ne 5) (len := 3) (a := 8) (b := 10) (by decide +kernel) rfl Iff.rfl (fun hc => ?_) (fun hc => ?_)
  · have hx := ha hc
    clear ha hb hc
    refine Ev.blk (is := [.iconst (-1)]) (pc2 := 9) (L2 := [(2, v0), (0, v1), (9, 0)]) (S2 := [(0, (-1))]) (h2 := h) (by decide +kernel) rfl trivial ?_
    cases hx
    exact Ev.ret (i := .ireturn) (len := 1) (by decide +kernel) rfl (finOf (t := some .int) rfl (trivial))
  · have hx := hb hc
    clear ha hb hc
    refine Ev.blk (is := [.aload_n 0]) (pc2 := 11) (L2 := [(2, v0), (0, v1), (9, 0)]) (S2 := [(2, v0)]) (h2 := h) (by decide +kernel) rfl trivial ?_
    obtain ⟨_, hg, -, hx⟩ := bgd hx
    obtain ⟨h3, hc, hx⟩ := bca hx
    refine Ev.call (args := [(2, v0)]) (S2 := []) (r1 := none) (h1 := h3) (i := .invokevirtual 164) (by decide +kernel) rfl rfl (Nat.le_of_ble_eq_true rfl) (Or.inr (Or.inl ⟨rfl, hg, by decide +kernel⟩)) (x_R_laysRight (by omega) hc) ?_
    obtain ⟨u4, hg, he, hx⟩ := bgd hx
    refine Ev.blk (is := [.aload_n 0, .iload_n 1, .aload_n 0, .getfield 9007]) (pc2 := 20) (L2 := [(2, v0), (0, v1), (9, 0)]) (S2 := [(0, u4), (0, v1), (2, v0)]) (h2 := h3) (by decide +kernel) (by subst he; rfl) (by exact hg) ?_
    clear hg he
    obtain ⟨_, hg, -, hx⟩ := bgd hx
    obtain ⟨u5, hc, hx⟩ := bca hx
    refine Ev.call (args := [(2, v0), (0, v1), (0, u4)]) (S2 := []) (r1 := (some (0, u5))) (h1 := h3) (i := .invokevirtual 169) (by decide +kernel) rfl rfl (Nat.le_of_ble_eq_true rfl) (Or.inr (Or.inl ⟨rfl, hg, by decide +kernel⟩)) (x_R_lineFor (by omega) hc) ?_
    refine Ev.blk (is := [.istore_n 2, .iload_n 2, .iconst (-1)]) (pc2 := 26) (L2 := [(2, v0), (0, v1), (0, u5)]) (S2 := [(0, (-1)), (0, u5)]) (h2 := h3) (by decide +kernel) rfl trivial ?_
    obtain ⟨ha, hb⟩ := bite hx
    clear hx
    refine Ev.br (i := .if_icmp .ne 8) (len := 3) (a := 29) (b := 34) (by decide +kernel) rfl Iff.rfl (fun hc => ?_) (fun hc => ?_)
    · have hx := ha hc
      clear ha hb hc
      refine Ev.blk (is := [.sipush (-2)]) (pc2 := 31) (L2 := [(2, v0), (0, v1), (0, u5)]) (S2 := [(0, (-2))]) (h2 := h3) (by decide +kernel) rfl trivial ?_
      refine Ev.jp (i := .goto 4) (len := 3) (pc2 := 35) (by decide +kernel) rfl ?_
      cases hx
      exact Ev.ret (i := .ireturn) (len := 1) (by decide +kernel) rfl (finOf (t := some .int) rfl (trivial))
    · have hx := hb hc
      clear ha hb hc
      refine Ev.blk (is := [.iload_n 2]) (pc2 := 35) (L2 := [(2, v0), (0, v1), (0, u5)]) (S2 := [(0, u5)]) (h2 := h3) (by decide +kernel) rfl trivial ?_
      cases hx
      exact Ev.ret (i := .ireturn) (len := 1) (by decide +kernel) rfl (finOf (t := some .int) rfl (trivial))
theorem x_R_prime {sc : AS} {d : Nat} (hd : 3 ≤ d) {v0 : Int} {v1 : Int} {v2 : Int} {h : AH} {r : (Int × AH)} (hx : R_prime v0 v1 v2 h = some r) : Runs sc d 247 [(2, v0), (0, v1), (0, v2)] h (some (0, r.1)) r.2 := by
  obtain ⟨d, rfl⟩ : ∃ e, d = e + 1 := ⟨d - 1, by omega⟩
  have hd : 2 ≤ d := by omega
  unfold R_prime at hx
  refine ⟨⟨aM_247, rfl, Nat.le_of_ble_eq_true rfl⟩, ?_⟩
  show Ev sc d 247 0 [(2, v0), (0, v1), (0, v2)] [] h (some (0, r.1)) r.2
  refine Ev.blk (is := [.iload_n 1, .i2l]) (pc2 := 2) (L2 := [(2, v0), (0, v1), (0, v2)]) (S2 := [(1, v1)]) (h2 := h) (by decide +kernel) rfl trivial ?_
  obtain ⟨u1, hc, hx⟩ := bca hx
  refine Ev.call (args := [(1, v1)]) (S2 := []) (r1 := (some (0, u1))) (h1 := h) (i := .invokestatic 163) (by decide +kernel) rfl rfl (Nat.le_of_ble_eq_true rfl) (Or.inl rfl) (x_R_isNumber (by omega) hc) ?_
  obtain ⟨ha, hb⟩ := bite hx
  clear hx
  refine Ev.br (i := .ifCond .eq 8) (len := 3) (a := 13) (b := 8) (by decide +kernel) rfl Iff.rfl (fun hc => ?_) (fun hc => ?_)
  · have hx := ha hc
    clear ha hb hc
    refine Ev.blk (is := [.iconst (-1)]) (pc2 := 14) (L2 := [(2, v0), (0, v1), (0, v2)]) (S2 := [(0, (-1))]) (h2 := h) (by decide +kernel) rfl trivial ?_
    cases hx
    exact Ev.ret (i := .ireturn) (len := 1) (by decide +kernel) rfl (finOf (t := some .int) rfl (trivial))
  · have hx := hb hc
    clear ha hb hc
    refine Ev.blk (is := [.iload_n 2, .iconst (-1)]) (pc2 := 10) (L2 := [(2, v0), (0, v1), (0, v2)]) (S2 := [(0, (-1)), (0, v2)]) (h2 := h) (by decide +kernel) rfl trivial ?_
    obtain ⟨ha, hb⟩ := bite hx
    clear hx
    refine Ev.br (i := .if_icmp .ge 5) (len := 3) (a := 13) (b := 15) (by decide +kernel) rfl Iff.rfl (fun hc => ?_) (fun hc => ?_)
    · have hx := ha hc
      clear ha hb hc
      refine Ev.blk (is := [.iconst (-1)]) (pc2 := 14) (L2 := [(2, v0), (0, v1), (0, v2)]) (S2 := [(0, (-1))]) (h2 := h) (by decide +kernel) rfl trivial ?_
      cases hx
      exact Ev.ret (i := .ireturn) (len := 1) (by decide +kernel) rfl (finOf (t := some .int) rfl (trivial))
    · have hx := hb hc
      clear ha hb hc
      refine Ev.blk (is := [.aload_n 0, .iload_n 1, .i2l]) (pc2 := 18) (L2 := [(2, v0), (0, v1), (0, v2)]) (S2 := [(1, v1), (2, v0)]) (h2 := h) (by decide +kernel) rfl trivial ?_
      obtain ⟨_, hg, -, hx⟩ := bgd hx
      obtain ⟨h3, hc, hx⟩ := bca hx
      refine Ev.call (args := [(2, v0), (1, v1)]) (S2 := []) (r1 := none) (h1 := h3) (i := .invokevirtual 188) (by decide +kernel) rfl rfl (Nat.le_of_ble_eq_true rfl) (Or.inr (Or.inl ⟨rfl, hg, by decide +kernel⟩)) (x_R_laysFactors (by omega) hc) ?_
      refine Ev.blk (is := [.iload_n 2, .iconst (-1)]) (pc2 := 23) (L2 := [(2, v0), (0, v1), (0, v2)]) (S2 := [(0, (-1)), (0, v2)]) (h2 := h3) (by decide +kernel) rfl trivial ?_
      obtain ⟨ha, hb⟩ := bite hx
      clear hx
      refine Ev.br (i := .if_icmp .ne 10) (len := 3) (a := 26) (b := 33) (by decide +kernel) rfl Iff.rfl (fun hc => ?_) (fun hc => ?_)
      · have hx := ha hc
        clear ha hb hc
        obtain ⟨u4, hg, he, hx⟩ := bgd hx
        refine Ev.blk (is := [.aload_n 0, .getfield 9006]) (pc2 := 30) (L2 := [(2, v0), (0, v1), (0, v2)]) (S2 := [(0, u4)]) (h2 := h3) (by decide +kernel) (by subst he; rfl) (by exact hg) ?_
        clear hg he
        refine Ev.jp (i := .goto 21) (len := 3) (pc2 := 51) (by decide +kernel) rfl ?_
        cases hx
        exact Ev.ret (i := .ireturn) (len := 1) (by decide +kernel) rfl (finOf (t := some .int) rfl (trivial))
      · have hx := hb hc
        clear ha hb hc
        obtain ⟨u5, hg, he, hx⟩ := bgd hx
        refine Ev.blk (is := [.iload_n 2, .aload_n 0, .getfield 9006]) (pc2 := 38) (L2 := [(2, v0), (0, v1), (0, v2)]) (S2 := [(0, u5), (0, v2)]) (h2 := h3) (by decide +kernel) (by subst he; rfl) (by exact hg) ?_
        clear hg he
        obtain ⟨ha, hb⟩ := bite hx
        clear hx
        refine Ev.br (i := .if_icmp .ge 12) (len := 3) (a := 41) (b := 50) (by decide +kernel) rfl Iff.rfl (fun hc => ?_) (fun hc => ?_)
        · have hx := ha hc
          clear ha hb hc
          obtain ⟨u6, hg, he, hx⟩ := bgd hx
          refine Ev.blk (is := [.aload_n 0, .getfield 9204]) (pc2 := 45) (L2 := [(2, v0), (0, v1), (0, v2)]) (S2 := [(2, u6)]) (h2 := h3) (by decide +kernel) (by subst he; rfl) (by exact hg) ?_
          clear hg he
          obtain ⟨u7, hg, he, hx⟩ := bgd hx
          refine Ev.blk (is := [.iload_n 2, .iaload]) (pc2 := 47) (L2 := [(2, v0), (0, v1), (0, v2)]) (S2 := [(0, u7)]) (h2 := h3) (by decide +kernel) (by subst he; rfl) (by exact hg) ?_
          clear hg he
          refine Ev.jp (i := .goto 4) (len := 3) (pc2 := 51) (by decide +kernel) rfl ?_
          cases hx
          exact Ev.ret (i := .ireturn) (len := 1) (by decide +kernel) rfl (finOf (t := some .int) rfl (trivial))
        · have hx := hb hc
          clear ha hb hc
          refine Ev.blk (is := [.iconst (-1)]) (pc2 := 51) (L2 := [(2, v0), (0, v1), (0, v2)]) (S2 := [(0, (-1))]) (h2 := h3) (by decide +kernel) rfl trivial ?_
          cases hx
          exact Ev.ret (i := .ireturn) (len := 1) (by decide +kernel) rfl (finOf (t := some .int) rfl (trivial))
theorem y_R_often_23 {sc : AS} {d : Nat} (hd : 2 ≤ d) : ∀ (fu : Nat) (v2 : Int) (v3 : Int) (v4 : Int) (h : AH) (r : Int), R_often_23 fu v2 v3 v4 = some r → Ev sc d 248 23 [(9, 0), (9, 0), (0, v2), (0, v3), (0, v4)] [] h (some (0, r)) h := by
  intro fu
  induction fu with
  | zero => intro v2 v3 v4 h r hx; unfold R_often_23 at hx; cases hx
  | succ fu ih =>
    intro v2 v3 v4 h r hx
    unfold R_often_23 at hx
    obtain ⟨u1, hg, he, hx⟩ := bgd hx
    refine Ev.blk (is := [.iload 4, .iload_n 2, .irem]) (pc2 := 27) (L2 := [(9, 0), (9, 0), (0, v2), (0, v3), (0, v4)]) (S2 := [(0, u1)]) (h2 := h) (by decide +kernel) (by subst he; rfl) (by exact hg) ?_
    clear hg he
    obtain ⟨ha, hb⟩ := bite hx
    clear hx
    refine Ev.br (i := .ifCond .ne 15) (len := 3) (a := 30) (b := 42) (by decide +kernel) rfl Iff.rfl (fun hc => ?_) (fun hc => ?_)
    · have hx := ha hc
      clear ha hb hc
      obtain ⟨u2, hg, he, hx⟩ := bgd hx
      refine Ev.blk (is := [.iinc 3 1, .iload 4, .iload_n 2, .idiv]) (pc2 := 37) (L2 := [(9, 0), (9, 0), (0, v2), (0, w32 (v3 + 1)), (0, v4)]) (S2 := [(0, u2)]) (h2 := h) (by decide +kernel) (by subst he; rfl) (by exact hg) ?_
      clear hg he
      refine Ev.blk (is := [.istore 4]) (pc2 := 39) (L2 := [(9, 0), (9, 0), (0, v2), (0, w32 (v3 + 1)), (0, u2)]) (S2 := []) (h2 := h) (by decide +kernel) rfl trivial ?_
      refine Ev.jp (i := .goto (-16)) (len := 3) (pc2 := 23) (by decide +kernel) rfl ?_
      exact ih v2 (w32 (v3 + 1)) u2 h _ hx
    · have hx := hb hc
      clear ha hb hc
      refine Ev.blk (is := [.iload_n 3]) (pc2 := 43) (L2 := [(9, 0), (9, 0), (0, v2), (0, v3), (0, v4)]) (S2 := [(0, v3)]) (h2 := h) (by decide +kernel) rfl trivial ?_
      cases hx
      exact Ev.ret (i := .ireturn) (len := 1) (by decide +kernel) rfl (finOf (t := some .int) rfl (trivial))
theorem x_R_often {sc : AS} {d : Nat} (hd : 3 ≤ d) {v0 : Int} {v1 : Int} {v2 : Int} {h : AH} {r : Int} (hx : R_often v0 v1 v2 = some r) : Runs sc d 248 [(2, v0), (0, v1), (0, v2)] h (some (0, r)) h := by
  obtain ⟨d, rfl⟩ : ∃ e, d = e + 1 := ⟨d - 1, by omega⟩
  have hd : 2 ≤ d := by omega
  unfold R_often at hx
  refine ⟨⟨aM_248, rfl, Nat.le_of_ble_eq_true rfl⟩, ?_⟩
  show Ev sc d 248 0 [(2, v0), (0, v1), (0, v2), (9, 0), (9, 0)] [] h (some (0, r)) h
  refine Ev.blk (is := [.iload_n 1, .i2l]) (pc2 := 2) (L2 := [(2, v0), (0, v1), (0, v2), (9, 0), (9, 0)]) (S2 := [(1, v1)]) (h2 := h) (by decide +kernel) rfl trivial ?_
  obtain ⟨u1, hc, hx⟩ := bca hx
  refine Ev.call (args := [(1, v1)]) (S2 := []) (r1 := (some (0, u1))) (h1 := h) (i := .invokestatic 163) (by decide +kernel) rfl rfl (Nat.le_of_ble_eq_true rfl) (Or.inl rfl) (x_R_isNumber (by omega) hc) ?_
  obtain ⟨ha, hb⟩ := bite hx
  clear hx
  refine Ev.br (i := .ifCond .eq 11) (len := 3) (a := 16) (b := 8) (by decide +kernel) rfl Iff.rfl (fun hc => ?_) (fun hc => ?_)
  · have hx := ha hc
    clear ha hb hc
    refine Ev.blk (is := [.iconst (-1)]) (pc2 := 17) (L2 := [(2, v0), (0, v1), (0, v2), (9, 0), (9, 0)]) (S2 := [(0, (-1))]) (h2 := h) (by decide +kernel) rfl trivial ?_
    cases hx
    exact Ev.ret (i := .ireturn) (len := 1) (by decide +kernel) rfl (finOf (t := some .int) rfl (trivial))
  · have hx := hb hc
    clear ha hb hc
    refine Ev.blk (is := [.iload_n 2, .i2l]) (pc2 := 10) (L2 := [(2, v0), (0, v1), (0, v2), (9, 0), (9, 0)]) (S2 := [(1, v2)]) (h2 := h) (by decide +kernel) rfl trivial ?_
    obtain ⟨u2, hc, hx⟩ := bca hx
    refine Ev.call (args := [(1, v2)]) (S2 := []) (r1 := (some (0, u2))) (h1 := h) (i := .invokestatic 163) (by decide +kernel) rfl rfl (Nat.le_of_ble_eq_true rfl) (Or.inl rfl) (x_R_isNumber (by omega) hc) ?_
    obtain ⟨ha, hb⟩ := bite hx
    clear hx
    refine Ev.br (i := .ifCond .ne 5) (len := 3) (a := 16) (b := 18) (by decide +kernel) rfl Iff.rfl (fun hc => ?_) (fun hc => ?_)
    · have hx := ha hc
      clear ha hb hc
      refine Ev.blk (is := [.iconst (-1)]) (pc2 := 17) (L2 := [(2, v0), (0, v1), (0, v2), (9, 0), (9, 0)]) (S2 := [(0, (-1))]) (h2 := h) (by decide +kernel) rfl trivial ?_
      cases hx
      exact Ev.ret (i := .ireturn) (len := 1) (by decide +kernel) rfl (finOf (t := some .int) rfl (trivial))
    · have hx := hb hc
      clear ha hb hc
      refine Ev.blk (is := [.iconst 0, .istore_n 3, .iload_n 1, .istore 4]) (pc2 := 23) (L2 := [(2, v0), (0, v1), (0, v2), (0, 0), (0, v1)]) (S2 := []) (h2 := h) (by decide +kernel) rfl trivial ?_
      refine Ev.wk (L2 := [(9, 0), (9, 0), (0, v2), (0, 0), (0, v1)]) (wkL_of ⟨Or.inr rfl, ⟨Or.inr rfl, ⟨Or.inl rfl, ⟨Or.inl rfl, ⟨Or.inl rfl, trivial⟩⟩⟩⟩⟩) ?_
      exact y_R_often_23 hd FU v2 0 v1 h _ hx
theorem y_R_next_18 {sc : AS} {d : Nat} (hd : 1 ≤ d) : ∀ (fu : Nat) (v2 : Int) (h : AH) (r : Int), R_next_18 fu v2 = some r → Ev sc d 249 18 [(9, 0), (9, 0), (0, v2)] [] h (some (0, r)) h := by
  intro fu
  induction fu with
  | zero => intro v2 h r hx; unfold R_next_18 at hx; cases hx
  | succ fu ih =>
    intro v2 h r hx
    unfold R_next_18 at hx
    refine Ev.blk (is := [.iload_n 2, .i2l]) (pc2 := 20) (L2 := [(9, 0), (9, 0), (0, v2)]) (S2 := [(1, v2)]) (h2 := h) (by decide +kernel) rfl trivial ?_
    obtain ⟨u1, hc, hx⟩ := bca hx
    refine Ev.call (args := [(1, v2)]) (S2 := []) (r1 := (some (0, u1))) (h1 := h) (i := .invokestatic 166) (by decide +kernel) rfl rfl (Nat.le_of_ble_eq_true rfl) (Or.inl rfl) (x_R_isPrime (by omega) hc) ?_
    obtain ⟨ha, hb⟩ := bite hx
    clear hx
    refine Ev.br (i := .ifCond .ne 9) (len := 3) (a := 26) (b := 32) (by decide +kernel) rfl Iff.rfl (fun hc => ?_) (fun hc => ?_)
    · have hx := ha hc
      clear ha hb hc
      refine Ev.blk (is := [.iinc 2 1]) (pc2 := 29) (L2 := [(9, 0), (9, 0), (0, w32 (v2 + 1))]) (S2 := []) (h2 := h) (by decide +kernel) rfl trivial ?_
      refine Ev.jp (i := .goto (-11)) (len := 3) (pc2 := 18) (by decide +kernel) rfl ?_
      exact ih (w32 (v2 + 1)) h _ hx
    · have hx := hb hc
      clear ha hb hc
      refine Ev.blk (is := [.iload_n 2]) (pc2 := 33) (L2 := [(9, 0), (9, 0), (0, v2)]) (S2 := [(0, v2)]) (h2 := h) (by decide +kernel) rfl trivial ?_
      cases hx
      exact Ev.ret (i := .ireturn) (len := 1) (by decide +kernel) rfl (finOf (t := some .int) rfl (trivial))
theorem x_R_next {sc : AS} {d : Nat} (hd : 2 ≤ d) {v0 : Int} {v1 : Int} {h : AH} {r : Int} (hx : R_next v0 v1 = some r) : Runs sc d 249 [(2, v0), (0, v1)] h (some (0, r)) h := by
  obtain ⟨d, rfl⟩ : ∃ e, d = e + 1 := ⟨d - 1, by omega⟩
  have hd : 1 ≤ d := by omega
  unfold R_next at hx
  refine ⟨⟨aM_249, rfl, Nat.le_of_ble_eq_true rfl⟩, ?_⟩
  show Ev sc d 249 0 [(2, v0), (0, v1), (9, 0)] [] h (some (0, r)) h
  refine Ev.blk (is := [.iload_n 1, .i2l, .lconst 0, .jsr_w 999999936]) (pc2 := 6) (L2 := [(2, v0), (0, v1), (9, 0)]) (S2 := [(1, 999999936), (1, 0), (1, v1)]) (h2 := h) (by decide +kernel) rfl trivial ?_
  obtain ⟨u1, hc, hx⟩ := bca hx
  refine Ev.call (args := [(1, v1), (1, 0), (1, 999999936)]) (S2 := []) (r1 := (some (0, u1))) (h1 := h) (i := .invokestatic 162) (by decide +kernel) rfl rfl (Nat.le_of_ble_eq_true rfl) (Or.inl rfl) (x_R_in (by omega) hc) ?_
  obtain ⟨ha, hb⟩ := bite hx
  clear hx
  refine Ev.br (i := .ifCond .ne 5) (len := 3) (a := 12) (b := 14) (by decide +kernel) rfl Iff.rfl (fun hc => ?_) (fun hc => ?_)
  · have hx := ha hc
    clear ha hb hc
    refine Ev.blk (is := [.iconst (-1)]) (pc2 := 13) (L2 := [(2, v0), (0, v1), (9, 0)]) (S2 := [(0, (-1))]) (h2 := h) (by decide +kernel) rfl trivial ?_
    cases hx
    exact Ev.ret (i := .ireturn) (len := 1) (by decide +kernel) rfl (finOf (t := some .int) rfl (trivial))
  · have hx := hb hc
    clear ha hb hc
    refine Ev.blk (is := [.iload_n 1, .iconst 1, .iadd, .istore_n 2]) (pc2 := 18) (L2 := [(2, v0), (0, v1), (0, w32 (v1 + 1))]) (S2 := []) (h2 := h) (by decide +kernel) rfl trivial ?_
    refine Ev.wk (L2 := [(9, 0), (9, 0), (0, w32 (v1 + 1))]) (wkL_of ⟨Or.inr rfl, ⟨Or.inr rfl, ⟨Or.inl rfl, trivial⟩⟩⟩) ?_
    exact y_R_next_18 hd FU (w32 (v1 + 1)) h _ hx
theorem y_R_smoothBy_28 {sc : AS} {d : Nat} (hd : 0 ≤ d) {k5 : Int → Int → Int → Int → AH → Option Int} (hk5 : ∀ (v0 : Int) (v1 : Int) (v2 : Int) (v4 : Int) (h : AH) (r : Int), k5 v0 v1 v2 v4 h = some r → Ev sc d 251 5 [(2, v0), (0, v1), (1, v2), (8, 0), (0, v4), (9, 0)] [] h (some (1, r)) h) : ∀ (fu : Nat) (v0 : Int) (v1 : Int) (v2 : Int) (v4 : Int) (v5 : Int) (h : AH) (r : Int), R_smoothBy_28 k5 fu v0 v1 v2 v4 v5 h = some r → Ev sc d 251 28 [(2, v0), (0, v1), (1, v2), (8, 0), (0, v4), (0, v5)] [] h (some (1, r)) h := by
  intro fu
  induction fu with
  | zero => intro v0 v1 v2 v4 v5 h r hx; unfold R_smoothBy_28 at hx; cases hx
  | succ fu ih =>
    intro v0 v1 v2 v4 v5 h r hx
    unfold R_smoothBy_28 at hx
    obtain ⟨u1, hg, he, hx⟩ := bgd hx
    refine Ev.blk (is := [.iload 5, .aload_n 0, .getfield 9205]) (pc2 := 34) (L2 := [(2, v0), (0, v1), (1, v2), (8, 0), (0, v4), (0, v5)]) (S2 := [(2, u1), (0, v5)]) (h2 := h) (by decide +kernel) (by subst he; rfl) (by exact hg) ?_
    clear hg he
    obtain ⟨u2, hg, he, hx⟩ := bgd hx
    refine Ev.blk (is := [.iload 4, .iaload]) (pc2 := 37) (L2 := [(2, v0), (0, v1), (1, v2), (8, 0), (0, v4), (0, v5)]) (S2 := [(0, u2), (0, v5)]) (h2 := h) (by decide +kernel) (by subst he; rfl) (by exact hg) ?_
    clear hg he
    obtain ⟨ha, hb⟩ := bite hx
    clear hx
    refine Ev.br (i := .if_icmp .ge 20) (len := 3) (a := 40) (b := 57) (by decide +kernel) rfl Iff.rfl (fun hc => ?_) (fun hc => ?_)
    · have hx := ha hc
      clear ha hb hc
      obtain ⟨u3, hg, he, hx⟩ := bgd hx
      refine Ev.blk (is := [.lload_n 2, .aload_n 0, .getfield 9204]) (pc2 := 45) (L2 := [(2, v0), (0, v1), (1, v2), (8, 0), (0, v4), (0, v5)]) (S2 := [(2, u3), (1, v2)]) (h2 := h) (by decide +kernel) (by subst he; rfl) (by exact hg) ?_
      clear hg he
      obtain ⟨u4, hg, he, hx⟩ := bgd hx
      refine Ev.blk (is := [.iload 4, .iaload]) (pc2 := 48) (L2 := [(2, v0), (0, v1), (1, v2), (8, 0), (0, v4), (0, v5)]) (S2 := [(0, u4), (1, v2)]) (h2 := h) (by decide +kernel) (by subst he; rfl) (by exact hg) ?_
      clear hg he
      refine Ev.blk (is := [.i2l, .lmul, .lstore_n 2, .iinc 5 1]) (pc2 := 54) (L2 := [(2, v0), (0, v1), (1, w64 (v2 * u4)), (8, 0), (0, v4), (0, w32 (v5 + 1))]) (S2 := []) (h2 := h) (by decide +kernel) rfl trivial ?_
      refine Ev.jp (i := .goto (-26)) (len := 3) (pc2 := 28) (by decide +kernel) rfl ?_
      exact ih v0 v1 (w64 (v2 * u4)) v4 (w32 (v5 + 1)) h _ hx
    · have hx := hb hc
      clear ha hb hc
      refine Ev.blk (is := [.iinc 4 1]) (pc2 := 60) (L2 := [(2, v0), (0, v1), (1, v2), (8, 0), (0, w32 (v4 + 1)), (0, v5)]) (S2 := []) (h2 := h) (by decide +kernel) rfl trivial ?_
      refine Ev.jp (i := .goto (-55)) (len := 3) (pc2 := 5) (by decide +kernel) rfl ?_
      refine Ev.wk (L2 := [(2, v0), (0, v1), (1, v2), (8, 0), (0, w32 (v4 + 1)), (9, 0)]) (wkL_of ⟨Or.inl rfl, ⟨Or.inl rfl, ⟨Or.inl rfl, ⟨Or.inl rfl, ⟨Or.inl rfl, ⟨Or.inr rfl, trivial⟩⟩⟩⟩⟩⟩) ?_
      exact hk5 v0 v1 v2 (w32 (v4 + 1)) h _ hx
theorem y_R_smoothBy_5 {sc : AS} {d : Nat} (hd : 0 ≤ d) : ∀ (fu : Nat) (v0 : Int) (v1 : Int) (v2 : Int) (v4 : Int) (h : AH) (r : Int), R_smoothBy_5 fu v0 v1 v2 v4 h = some r → Ev sc d 251 5 [(2, v0), (0, v1), (1, v2), (8, 0), (0, v4), (9, 0)] [] h (some (1, r)) h := by
  intro fu
  induction fu with
  | zero => intro v0 v1 v2 v4 h r hx; unfold R_smoothBy_5 at hx; cases hx
  | succ fu ih =>
    intro v0 v1 v2 v4 h r hx
    unfold R_smoothBy_5 at hx
    obtain ⟨u1, hg, he, hx⟩ := bgd hx
    refine Ev.blk (is := [.iload 4, .aload_n 0, .getfield 9006]) (pc2 := 11) (L2 := [(2, v0), (0, v1), (1, v2), (8, 0), (0, v4), (9, 0)]) (S2 := [(0, u1), (0, v4)]) (h2 := h) (by decide +kernel) (by subst he; rfl) (by exact hg) ?_
    clear hg he
    obtain ⟨ha, hb⟩ := bite hx
    clear hx
    refine Ev.br (i := .if_icmp .ge 52) (len := 3) (a := 14) (b := 63) (by decide +kernel) rfl Iff.rfl (fun hc => ?_) (fun hc => ?_)
    · have hx := ha hc
      clear ha hb hc
      obtain ⟨u2, hg, he, hx⟩ := bgd hx
      refine Ev.blk (is := [.aload_n 0, .getfield 9204]) (pc2 := 18) (L2 := [(2, v0), (0, v1), (1, v2), (8, 0), (0, v4), (9, 0)]) (S2 := [(2, u2)]) (h2 := h) (by decide +kernel) (by subst he; rfl) (by exact hg) ?_
      clear hg he
      obtain ⟨u3, hg, he, hx⟩ := bgd hx
      refine Ev.blk (is := [.iload 4, .iaload]) (pc2 := 21) (L2 := [(2, v0), (0, v1), (1, v2), (8, 0), (0, v4), (9, 0)]) (S2 := [(0, u3)]) (h2 := h) (by decide +kernel) (by subst he; rfl) (by exact hg) ?_
      clear hg he
      refine Ev.blk (is := [.iload_n 1]) (pc2 := 22) (L2 := [(2, v0), (0, v1), (1, v2), (8, 0), (0, v4), (9, 0)]) (S2 := [(0, v1), (0, u3)]) (h2 := h) (by decide +kernel) rfl trivial ?_
      obtain ⟨ha, hb⟩ := bite hx
      clear hx
      refine Ev.br (i := .if_icmp .gt 35) (len := 3) (a := 57) (b := 25) (by decide +kernel) rfl Iff.rfl (fun hc => ?_) (fun hc => ?_)
      · have hx := ha hc
        clear ha hb hc
        refine Ev.blk (is := [.iinc 4 1]) (pc2 := 60) (L2 := [(2, v0), (0, v1), (1, v2), (8, 0), (0, w32 (v4 + 1)), (9, 0)]) (S2 := []) (h2 := h) (by decide +kernel) rfl trivial ?_
        refine Ev.jp (i := .goto (-55)) (len := 3) (pc2 := 5) (by decide +kernel) rfl ?_
        exact ih v0 v1 v2 (w32 (v4 + 1)) h _ hx
      · have hx := hb hc
        clear ha hb hc
        refine Ev.blk (is := [.iconst 0, .istore 5]) (pc2 := 28) (L2 := [(2, v0), (0, v1), (1, v2), (8, 0), (0, v4), (0, 0)]) (S2 := []) (h2 := h) (by decide +kernel) rfl trivial ?_
        exact y_R_smoothBy_28 hd ih FU v0 v1 v2 v4 0 h _ hx
    · have hx := hb hc
      clear ha hb hc
      refine Ev.blk (is := [.lload_n 2]) (pc2 := 64) (L2 := [(2, v0), (0, v1), (1, v2), (8, 0), (0, v4), (9, 0)]) (S2 := [(1, v2)]) (h2 := h) (by decide +kernel) rfl trivial ?_
      cases hx
      exact Ev.ret (i := .lreturn) (len := 1) (by decide +kernel) rfl (finOf (t := some .long) rfl (trivial))
theorem x_R_smoothBy {sc : AS} {d : Nat} (hd : 1 ≤ d) {v0 : Int} {v1 : Int} {h : AH} {r : Int} (hx : R_smoothBy v0 v1 h = some r) : Runs sc d 251 [(2, v0), (0, v1)] h (some (1, r)) h := by
  obtain ⟨d, rfl⟩ : ∃ e, d = e + 1 := ⟨d - 1, by omega⟩
  have hd : 0 ≤ d := by omega
  unfold R_smoothBy at hx
  refine ⟨⟨aM_251, rfl, Nat.le_of_ble_eq_true rfl⟩, ?_⟩
  show Ev sc d 251 0 [(2, v0), (0, v1), (9, 0), (9, 0), (9, 0), (9, 0)] [] h (some (1, r)) h
  refine Ev.blk (is := [.lconst 1, .lstore_n 2, .iconst 0, .istore 4]) (pc2 := 5) (L2 := [(2, v0), (0, v1), (1, 1), (8, 0), (0, 0), (9, 0)]) (S2 := []) (h2 := h) (by decide +kernel) rfl trivial ?_
  exact y_R_smoothBy_5 hd FU v0 v1 1 0 h _ hx
theorem x_R_smooth {sc : AS} {d : Nat} (hd : 3 ≤ d) {v0 : Int} {v1 : Int} {v2 : Int} {h : AH} {r : (Int × AH)} (hx : R_smooth v0 v1 v2 h = some r) : Runs sc d 250 [(2, v0), (0, v1), (0, v2)] h (some (0, r.1)) r.2 := by
  obtain ⟨d, rfl⟩ : ∃ e, d = e + 1 := ⟨d - 1, by omega⟩
  have hd : 2 ≤ d := by omega
  unfold R_smooth at hx
  refine ⟨⟨aM_250, rfl, Nat.le_of_ble_eq_true rfl⟩, ?_⟩
  show Ev sc d 250 0 [(2, v0), (0, v1), (0, v2)] [] h (some (0, r.1)) r.2
  refine Ev.blk (is := [.iload_n 1, .i2l]) (pc2 := 2) (L2 := [(2, v0), (0, v1), (0, v2)]) (S2 := [(1, v1)]) (h2 := h) (by decide +kernel) rfl trivial ?_
  obtain ⟨u1, hc, hx⟩ := bca hx
  refine Ev.call (args := [(1, v1)]) (S2 := []) (r1 := (some (0, u1))) (h1 := h) (i := .invokestatic 163) (by decide +kernel) rfl rfl (Nat.le_of_ble_eq_true rfl) (Or.inl rfl) (x_R_isNumber (by omega) hc) ?_
  obtain ⟨ha, hb⟩ := bite hx
  clear hx
  refine Ev.br (i := .ifCond .eq 7) (len := 3) (a := 12) (b := 8) (by decide +kernel) rfl Iff.rfl (fun hc => ?_) (fun hc => ?_)
  · have hx := ha hc
    clear ha hb hc
    refine Ev.blk (is := [.iconst (-1)]) (pc2 := 13) (L2 := [(2, v0), (0, v1), (0, v2)]) (S2 := [(0, (-1))]) (h2 := h) (by decide +kernel) rfl trivial ?_
    cases hx
    exact Ev.ret (i := .ireturn) (len := 1) (by decide +kernel) rfl (finOf (t := some .int) rfl (trivial))
  · have hx := hb hc
    clear ha hb hc
    refine Ev.blk (is := [.iload_n 2]) (pc2 := 9) (L2 := [(2, v0), (0, v1), (0, v2)]) (S2 := [(0, v2)]) (h2 := h) (by decide +kernel) rfl trivial ?_
    obtain ⟨ha, hb⟩ := bite hx
    clear hx
    refine Ev.br (i := .ifCond .ge 5) (len := 3) (a := 12) (b := 14) (by decide +kernel) rfl Iff.rfl (fun hc => ?_) (fun hc => ?_)
    · have hx := ha hc
      clear ha hb hc
      refine Ev.blk (is := [.iconst (-1)]) (pc2 := 13) (L2 := [(2, v0), (0, v1), (0, v2)]) (S2 := [(0, (-1))]) (h2 := h) (by decide +kernel) rfl trivial ?_
      cases hx
      exact Ev.ret (i := .ireturn) (len := 1) (by decide +kernel) rfl (finOf (t := some .int) rfl (trivial))
    · have hx := hb hc
      clear ha hb hc
      refine Ev.blk (is := [.aload_n 0, .iload_n 1, .i2l]) (pc2 := 17) (L2 := [(2, v0), (0, v1), (0, v2)]) (S2 := [(1, v1), (2, v0)]) (h2 := h) (by decide +kernel) rfl trivial ?_
      obtain ⟨_, hg, -, hx⟩ := bgd hx
      obtain ⟨h3, hc, hx⟩ := bca hx
      refine Ev.call (args := [(2, v0), (1, v1)]) (S2 := []) (r1 := none) (h1 := h3) (i := .invokevirtual 188) (by decide +kernel) rfl rfl (Nat.le_of_ble_eq_true rfl) (Or.inr (Or.inl ⟨rfl, hg, by decide +kernel⟩)) (x_R_laysFactors (by omega) hc) ?_
      refine Ev.blk (is := [.aload_n 0, .iload_n 2]) (pc2 := 22) (L2 := [(2, v0), (0, v1), (0, v2)]) (S2 := [(0, v2), (2, v0)]) (h2 := h3) (by decide +kernel) rfl trivial ?_
      obtain ⟨_, hg, -, hx⟩ := bgd hx
      obtain ⟨u4, hc, hx⟩ := bca hx
      refine Ev.call (args := [(2, v0), (0, v2)]) (S2 := []) (r1 := (some (1, u4))) (h1 := h3) (i := .invokevirtual 251) (by decide +kernel) rfl rfl (Nat.le_of_ble_eq_true rfl) (Or.inr (Or.inl ⟨rfl, hg, by decide +kernel⟩)) (x_R_smoothBy (by omega) hc) ?_
      refine Ev.blk (is := [.l2i]) (pc2 := 26) (L2 := [(2, v0), (0, v1), (0, v2)]) (S2 := [(0, w32 u4)]) (h2 := h3) (by decide +kernel) rfl trivial ?_
      cases hx
      exact Ev.ret (i := .ireturn) (len := 1) (by decide +kernel) rfl (finOf (t := some .int) rfl (trivial))
theorem y_R_bound_26 {sc : AS} {d : Nat} (hd : 1 ≤ d) : ∀ (fu : Nat) (v0 : Int) (v1 : Int) (v2 : Int) (h : AH) (r : (Int × AH)), R_bound_26 fu v0 v1 v2 h = some r → Ev sc d 252 26 [(2, v0), (0, v1), (0, v2)] [] h (some (0, r.1)) r.2 := by
  intro fu
  induction fu with
  | zero => intro v0 v1 v2 h r hx; unfold R_bound_26 at hx; cases hx
  | succ fu ih =>
    intro v0 v1 v2 h r hx
    unfold R_bound_26 at hx
    obtain ⟨u1, hg, he, hx⟩ := bgd hx
    refine Ev.blk (is := [.aload_n 0, .aload_n 0, .getfield 9204]) (pc2 := 31) (L2 := [(2, v0), (0, v1), (0, v2)]) (S2 := [(2, u1), (2, v0)]) (h2 := h) (by decide +kernel) (by subst he; rfl) (by exact hg) ?_
    clear hg he
    obtain ⟨u2, hg, he, hx⟩ := bgd hx
    refine Ev.blk (is := [.iload_n 2, .iaload]) (pc2 := 33) (L2 := [(2, v0), (0, v1), (0, v2)]) (S2 := [(0, u2), (2, v0)]) (h2 := h) (by decide +kernel) (by subst he; rfl) (by exact hg) ?_
    clear hg he
    obtain ⟨_, hg, -, hx⟩ := bgd hx
    obtain ⟨u3, hc, hx⟩ := bca hx
    refine Ev.call (args := [(2, v0), (0, u2)]) (S2 := []) (r1 := (some (1, u3))) (h1 := h) (i := .invokevirtual 251) (by decide +kernel) rfl rfl (Nat.le_of_ble_eq_true rfl) (Or.inr (Or.inl ⟨rfl, hg, by decide +kernel⟩)) (x_R_smoothBy (by omega) hc) ?_
    obtain ⟨u4, hg, he, hx⟩ := bgd hx
    refine Ev.blk (is := [.aload_n 0, .aload_n 0, .getfield 9204]) (pc2 := 41) (L2 := [(2, v0), (0, v1), (0, v2)]) (S2 := [(2, u4), (2, v0), (1, u3)]) (h2 := h) (by decide +kernel) (by subst he; rfl) (by exact hg) ?_
    clear hg he
    obtain ⟨u5, hg, he, hx⟩ := bgd hx
    refine Ev.blk (is := [.iload_n 2, .iaload]) (pc2 := 43) (L2 := [(2, v0), (0, v1), (0, v2)]) (S2 := [(0, u5), (2, v0), (1, u3)]) (h2 := h) (by decide +kernel) (by subst he; rfl) (by exact hg) ?_
    clear hg he
    obtain ⟨_, hg, -, hx⟩ := bgd hx
    obtain ⟨u6, hc, hx⟩ := bca hx
    refine Ev.call (args := [(2, v0), (0, u5)]) (S2 := [(1, u3)]) (r1 := (some (1, u6))) (h1 := h) (i := .invokevirtual 251) (by decide +kernel) rfl rfl (Nat.le_of_ble_eq_true rfl) (Or.inr (Or.inl ⟨rfl, hg, by decide +kernel⟩)) (x_R_smoothBy (by omega) hc) ?_
    refine Ev.blk (is := [.lmul, .iload_n 1, .i2l, .lcmp]) (pc2 := 50) (L2 := [(2, v0), (0, v1), (0, v2)]) (S2 := [(0, cmpL (w64 (u3 * u6)) v1)]) (h2 := h) (by decide +kernel) rfl trivial ?_
    obtain ⟨ha, hb⟩ := bite hx
    clear hx
    refine Ev.br (i := .ifCond .gt 9) (len := 3) (a := 59) (b := 53) (by decide +kernel) rfl cmpL_gt (fun hc => ?_) (fun hc => ?_)
    · have hx := ha hc
      clear ha hb hc
      obtain ⟨u7, hg, he, hx⟩ := bgd hx
      refine Ev.blk (is := [.aload_n 0, .getfield 9204]) (pc2 := 63) (L2 := [(2, v0), (0, v1), (0, v2)]) (S2 := [(2, u7)]) (h2 := h) (by decide +kernel) (by subst he; rfl) (by exact hg) ?_
      clear hg he
      obtain ⟨u8, hg, he, hx⟩ := bgd hx
      refine Ev.blk (is := [.iload_n 2, .iaload]) (pc2 := 65) (L2 := [(2, v0), (0, v1), (0, v2)]) (S2 := [(0, u8)]) (h2 := h) (by decide +kernel) (by subst he; rfl) (by exact hg) ?_
      clear hg he
      cases hx
      exact Ev.ret (i := .ireturn) (len := 1) (by decide +kernel) rfl (finOf (t := some .int) rfl (trivial))
    · have hx := hb hc
      clear ha hb hc
      refine Ev.blk (is := [.iinc 2 1]) (pc2 := 56) (L2 := [(2, v0), (0, v1), (0, w32 (v2 + 1))]) (S2 := []) (h2 := h) (by decide +kernel) rfl trivial ?_
      refine Ev.jp (i := .goto (-30)) (len := 3) (pc2 := 26) (by decide +kernel) rfl ?_
      exact ih v0 v1 (w32 (v2 + 1)) h _ hx
theorem x_R_bound {sc : AS} {d : Nat} (hd : 2 ≤ d) {v0 : Int} {v1 : Int} {h : AH} {r : (Int × AH)} (hx : R_bound v0 v1 h = some r) : Runs sc d 252 [(2, v0), (0, v1)] h (some (0, r.1)) r.2 := by
  obtain ⟨d, rfl⟩ : ∃ e, d = e + 1 := ⟨d - 1, by omega⟩
  have hd : 1 ≤ d := by omega
  unfold R_bound at hx
  refine ⟨⟨aM_252, rfl, Nat.le_of_ble_eq_true rfl⟩, ?_⟩
  show Ev sc d 252 0 [(2, v0), (0, v1), (9, 0)] [] h (some (0, r.1)) r.2
  refine Ev.blk (is := [.iload_n 1, .i2l, .jsr_w 3, .jsr_w 1000000000]) (pc2 := 8) (L2 := [(2, v0), (0, v1), (9, 0)]) (S2 := [(1, 1000000000), (1, 3), (1, v1)]) (h2 := h) (by decide +kernel) rfl trivial ?_
  obtain ⟨u1, hc, hx⟩ := bca hx
  refine Ev.call (args := [(1, v1), (1, 3), (1, 1000000000)]) (S2 := []) (r1 := (some (0, u1))) (h1 := h) (i := .invokestatic 162) (by decide +kernel) rfl rfl (Nat.le_of_ble_eq_true rfl) (Or.inl rfl) (x_R_in (by omega) hc) ?_
  obtain ⟨ha, hb⟩ := bite hx
  clear hx
  refine Ev.br (i := .ifCond .ne 5) (len := 3) (a := 14) (b := 16) (by decide +kernel) rfl Iff.rfl (fun hc => ?_) (fun hc => ?_)
  · have hx := ha hc
    clear ha hb hc
    refine Ev.blk (is := [.iconst (-1)]) (pc2 := 15) (L2 := [(2, v0), (0, v1), (9, 0)]) (S2 := [(0, (-1))]) (h2 := h) (by decide +kernel) rfl trivial ?_
    cases hx
    exact Ev.ret (i := .ireturn) (len := 1) (by decide +kernel) rfl (finOf (t := some .int) rfl (trivial))
  · have hx := hb hc
    clear ha hb hc
    refine Ev.blk (is := [.aload_n 0, .iload_n 1, .i2l, .lconst 1, .lsub]) (pc2 := 21) (L2 := [(2, v0), (0, v1), (9, 0)]) (S2 := [(1, w64 (v1 - 1)), (2, v0)]) (h2 := h) (by decide +kernel) rfl trivial ?_
    obtain ⟨_, hg, -, hx⟩ := bgd hx
    obtain ⟨h3, hc, hx⟩ := bca hx
    refine Ev.call (args := [(2, v0), (1, w64 (v1 - 1))]) (S2 := []) (r1 := none) (h1 := h3) (i := .invokevirtual 188) (by decide +kernel) rfl rfl (Nat.le_of_ble_eq_true rfl) (Or.inr (Or.inl ⟨rfl, hg, by decide +kernel⟩)) (x_R_laysFactors (by omega) hc) ?_
    refine Ev.blk (is := [.iconst 0, .istore_n 2]) (pc2 := 26) (L2 := [(2, v0), (0, v1), (0, 0)]) (S2 := []) (h2 := h3) (by decide +kernel) rfl trivial ?_
    exact y_R_bound_26 hd FU v0 v1 0 h3 _ hx
theorem y_R_chase_96 {sc : AS} {d : Nat} (hd : 2 ≤ d) {k34 : Int → Int → Int → Int → Int → Option Int} (hk34 : ∀ (v1 : Int) (v2 : Int) (v3 : Int) (v5 : Int) (v7 : Int) (h : AH) (r : Int), k34 v1 v2 v3 v5 v7 = some r → Ev sc d 253 34 [(9, 0), (0, v1), (0, v2), (1, v3), (8, 0), (1, v5), (8, 0), (0, v7), (9, 0), (9, 0)] [] h (some (0, r)) h) : ∀ (v1 : Int) (v2 : Int) (v3 : Int) (v5 : Int) (v7 : Int) (s0 : Int) (h : AH) (r : Int), R_chase_96 k34 v1 v2 v3 v5 v7 s0 = some r → Ev sc d 253 96 [(9, 0), (0, v1), (0, v2), (1, v3), (8, 0), (1, v5), (8, 0), (0, v7), (9, 0), (9, 0)] [(1, s0)] h (some (0, r)) h := by
  intro v1 v2 v3 v5 v7 s0 h r hx
  unfold R_chase_96 at hx
  refine Ev.blk (is := [.iload_n 1, .i2l]) (pc2 := 98) (L2 := [(9, 0), (0, v1), (0, v2), (1, v3), (8, 0), (1, v5), (8, 0), (0, v7), (9, 0), (9, 0)]) (S2 := [(1, v1), (1, s0)]) (h2 := h) (by decide +kernel) rfl trivial ?_
  obtain ⟨u1, hc, hx⟩ := bca hx
  refine Ev.call (args := [(1, s0), (1, v1)]) (S2 := []) (r1 := (some (1, u1))) (h1 := h) (i := .invokestatic 176) (by decide +kernel) rfl rfl (Nat.le_of_ble_eq_true rfl) (Or.inl rfl) (x_R_common (by omega) hc) ?_
  refine Ev.blk (is := [.lstore 8, .lload 8, .lconst 1, .lcmp]) (pc2 := 107) (L2 := [(9, 0), (0, v1), (0, v2), (1, v3), (8, 0), (1, v5), (8, 0), (0, v7), (1, u1), (8, 0)]) (S2 := [(0, cmpL u1 1)]) (h2 := h) (by decide +kernel) rfl trivial ?_
  obtain ⟨ha, hb⟩ := bite hx
  clear hx
  refine Ev.br (i := .ifCond .eq 7) (len := 3) (a := 114) (b := 110) (by decide +kernel) rfl cmpL_eq (fun hc => ?_) (fun hc => ?_)
  · have hx := ha hc
    clear ha hb hc
    refine Ev.blk (is := [.iinc 7 1]) (pc2 := 117) (L2 := [(9, 0), (0, v1), (0, v2), (1, v3), (8, 0), (1, v5), (8, 0), (0, w32 (v7 + 1)), (1, u1), (8, 0)]) (S2 := []) (h2 := h) (by decide +kernel) rfl trivial ?_
    refine Ev.jp (i := .goto (-83)) (len := 3) (pc2 := 34) (by decide +kernel) rfl ?_
    refine Ev.wk (L2 := [(9, 0), (0, v1), (0, v2), (1, v3), (8, 0), (1, v5), (8, 0), (0, w32 (v7 + 1)), (9, 0), (9, 0)]) (wkL_of ⟨Or.inl rfl, ⟨Or.inl rfl, ⟨Or.inl rfl, ⟨Or.inl rfl, ⟨Or.inl rfl, ⟨Or.inl rfl, ⟨Or.inl rfl, ⟨Or.inl rfl, ⟨Or.inr rfl, ⟨Or.inr rfl, trivial⟩⟩⟩⟩⟩⟩⟩⟩⟩⟩) ?_
    exact hk34 v1 v2 v3 v5 (w32 (v7 + 1)) h _ hx
  · have hx := hb hc
    clear ha hb hc
    refine Ev.blk (is := [.lload 8, .l2i]) (pc2 := 113) (L2 := [(9, 0), (0, v1), (0, v2), (1, v3), (8, 0), (1, v5), (8, 0), (0, v7), (1, u1), (8, 0)]) (S2 := [(0, w32 u1)]) (h2 := h) (by decide +kernel) rfl trivial ?_
    cases hx
    exact Ev.ret (i := .ireturn) (len := 1) (by decide +kernel) rfl (finOf (t := some .int) rfl (trivial))
theorem y_R_chase_34 {sc : AS} {d : Nat} (hd : 2 ≤ d) : ∀ (fu : Nat) (v1 : Int) (v2 : Int) (v3 : Int) (v5 : Int) (v7 : Int) (h : AH) (r : Int), R_chase_34 fu v1 v2 v3 v5 v7 = some r → Ev sc d 253 34 [(9, 0), (0, v1), (0, v2), (1, v3), (8, 0), (1, v5), (8, 0), (0, v7), (9, 0), (9, 0)] [] h (some (0, r)) h := by
  intro fu
  induction fu with
  | zero => intro v1 v2 v3 v5 v7 h r hx; unfold R_chase_34 at hx; cases hx
  | succ fu ih =>
    intro v1 v2 v3 v5 v7 h r hx
    unfold R_chase_34 at hx
    refine Ev.blk (is := [.iload 7, .sipush 1000]) (pc2 := 39) (L2 := [(9, 0), (0, v1), (0, v2), (1, v3), (8, 0), (1, v5), (8, 0), (0, v7), (9, 0), (9, 0)]) (S2 := [(0, 1000), (0, v7)]) (h2 := h) (by decide +kernel) rfl trivial ?_
    obtain ⟨ha, hb⟩ := bite hx
    clear hx
    refine Ev.br (i := .if_icmp .ge 81) (len := 3) (a := 42) (b := 120) (by decide +kernel) rfl Iff.rfl (fun hc => ?_) (fun hc => ?_)
    · have hx := ha hc
      clear ha hb hc
      obtain ⟨u1, hg, he, hx⟩ := bgd hx
      refine Ev.blk (is := [.lload_n 3, .lload_n 3, .lmul, .iload_n 2, .i2l, .ladd, .iload_n 1, .i2l, .lrem]) (pc2 := 51) (L2 := [(9, 0), (0, v1), (0, v2), (1, v3), (8, 0), (1, v5), (8, 0), (0, v7), (9, 0), (9, 0)]) (S2 := [(1, u1)]) (h2 := h) (by decide +kernel) (by subst he; rfl) (by exact hg) ?_
      clear hg he
      obtain ⟨u2, hg, he, hx⟩ := bgd hx
      refine Ev.blk (is := [.lstore_n 3, .lload 5, .lload 5, .lmul, .iload_n 2, .i2l, .ladd, .iload_n 1, .i2l, .lrem]) (pc2 := 63) (L2 := [(9, 0), (0, v1), (0, v2), (1, u1), (8, 0), (1, v5), (8, 0), (0, v7), (9, 0), (9, 0)]) (S2 := [(1, u2)]) (h2 := h) (by decide +kernel) (by subst he; rfl) (by exact hg) ?_
      clear hg he
      obtain ⟨u3, hg, he, hx⟩ := bgd hx
      refine Ev.blk (is := [.lstore 5, .lload 5, .lload 5, .lmul, .iload_n 2, .i2l, .ladd, .iload_n 1, .i2l, .lrem]) (pc2 := 76) (L2 := [(9, 0), (0, v1), (0, v2), (1, u1), (8, 0), (1, u2), (8, 0), (0, v7), (9, 0), (9, 0)]) (S2 := [(1, u3)]) (h2 := h) (by decide +kernel) (by subst he; rfl) (by exact hg) ?_
      clear hg he
      refine Ev.blk (is := [.lstore 5, .lload_n 3, .lload 5, .lcmp]) (pc2 := 82) (L2 := [(9, 0), (0, v1), (0, v2), (1, u1), (8, 0), (1, u3), (8, 0), (0, v7), (9, 0), (9, 0)]) (S2 := [(0, cmpL u1 u3)]) (h2 := h) (by decide +kernel) rfl trivial ?_
      obtain ⟨ha, hb⟩ := bite hx
      clear hx
      refine Ev.br (i := .ifCond .le 10) (len := 3) (a := 85) (b := 92) (by decide +kernel) rfl cmpL_gt (fun hc => ?_) (fun hc => ?_)
      · have hx := ha hc
        clear ha hb hc
        refine Ev.blk (is := [.lload_n 3, .lload 5, .lsub]) (pc2 := 89) (L2 := [(9, 0), (0, v1), (0, v2), (1, u1), (8, 0), (1, u3), (8, 0), (0, v7), (9, 0), (9, 0)]) (S2 := [(1, w64 (u1 - u3))]) (h2 := h) (by decide +kernel) rfl trivial ?_
        refine Ev.jp (i := .goto 7) (len := 3) (pc2 := 96) (by decide +kernel) rfl ?_
        exact y_R_chase_96 hd ih v1 v2 u1 u3 v7 (w64 (u1 - u3)) h _ hx
      · have hx := hb hc
        clear ha hb hc
        refine Ev.blk (is := [.lload 5, .lload_n 3, .lsub]) (pc2 := 96) (L2 := [(9, 0), (0, v1), (0, v2), (1, u1), (8, 0), (1, u3), (8, 0), (0, v7), (9, 0), (9, 0)]) (S2 := [(1, w64 (u3 - u1))]) (h2 := h) (by decide +kernel) rfl trivial ?_
        exact y_R_chase_96 hd ih v1 v2 u1 u3 v7 (w64 (u3 - u1)) h _ hx
    · have hx := hb hc
      clear ha hb hc
      refine Ev.blk (is := [.sipush (-2)]) (pc2 := 122) (L2 := [(9, 0), (0, v1), (0, v2), (1, v3), (8, 0), (1, v5), (8, 0), (0, v7), (9, 0), (9, 0)]) (S2 := [(0, (-2))]) (h2 := h) (by decide +kernel) rfl trivial ?_
      cases hx
      exact Ev.ret (i := .ireturn) (len := 1) (by decide +kernel) rfl (finOf (t := some .int) rfl (trivial))
theorem x_R_chase {sc : AS} {d : Nat} (hd : 3 ≤ d) {v0 : Int} {v1 : Int} {v2 : Int} {h : AH} {r : Int} (hx : R_chase v0 v1 v2 = some r) : Runs sc d 253 [(2, v0), (0, v1), (0, v2)] h (some (0, r)) h := by
  obtain ⟨d, rfl⟩ : ∃ e, d = e + 1 := ⟨d - 1, by omega⟩
  have hd : 2 ≤ d := by omega
  unfold R_chase at hx
  refine ⟨⟨aM_253, rfl, Nat.le_of_ble_eq_true rfl⟩, ?_⟩
  show Ev sc d 253 0 [(2, v0), (0, v1), (0, v2), (9, 0), (9, 0), (9, 0), (9, 0), (9, 0), (9, 0), (9, 0)] [] h (some (0, r)) h
  refine Ev.blk (is := [.iload_n 1, .i2l]) (pc2 := 2) (L2 := [(2, v0), (0, v1), (0, v2), (9, 0), (9, 0), (9, 0), (9, 0), (9, 0), (9, 0), (9, 0)]) (S2 := [(1, v1)]) (h2 := h) (by decide +kernel) rfl trivial ?_
  obtain ⟨u1, hc, hx⟩ := bca hx
  refine Ev.call (args := [(1, v1)]) (S2 := []) (r1 := (some (0, u1))) (h1 := h) (i := .invokestatic 163) (by decide +kernel) rfl rfl (Nat.le_of_ble_eq_true rfl) (Or.inl rfl) (x_R_isNumber (by omega) hc) ?_
  obtain ⟨ha, hb⟩ := bite hx
  clear hx
  refine Ev.br (i := .ifCond .eq 15) (len := 3) (a := 20) (b := 8) (by decide +kernel) rfl Iff.rfl (fun hc => ?_) (fun hc => ?_)
  · have hx := ha hc
    clear ha hb hc
    refine Ev.blk (is := [.iconst (-1)]) (pc2 := 21) (L2 := [(2, v0), (0, v1), (0, v2), (9, 0), (9, 0), (9, 0), (9, 0), (9, 0), (9, 0), (9, 0)]) (S2 := [(0, (-1))]) (h2 := h) (by decide +kernel) rfl trivial ?_
    cases hx
    exact Ev.ret (i := .ireturn) (len := 1) (by decide +kernel) rfl (finOf (t := some .int) rfl (trivial))
  · have hx := hb hc
    clear ha hb hc
    refine Ev.blk (is := [.iload_n 2, .i2l, .lconst 1, .jsr_w 99]) (pc2 := 14) (L2 := [(2, v0), (0, v1), (0, v2), (9, 0), (9, 0), (9, 0), (9, 0), (9, 0), (9, 0), (9, 0)]) (S2 := [(1, 99), (1, 1), (1, v2)]) (h2 := h) (by decide +kernel) rfl trivial ?_
    obtain ⟨u2, hc, hx⟩ := bca hx
    refine Ev.call (args := [(1, v2), (1, 1), (1, 99)]) (S2 := []) (r1 := (some (0, u2))) (h1 := h) (i := .invokestatic 162) (by decide +kernel) rfl rfl (Nat.le_of_ble_eq_true rfl) (Or.inl rfl) (x_R_in (by omega) hc) ?_
    obtain ⟨ha, hb⟩ := bite hx
    clear hx
    refine Ev.br (i := .ifCond .ne 5) (len := 3) (a := 20) (b := 22) (by decide +kernel) rfl Iff.rfl (fun hc => ?_) (fun hc => ?_)
    · have hx := ha hc
      clear ha hb hc
      refine Ev.blk (is := [.iconst (-1)]) (pc2 := 21) (L2 := [(2, v0), (0, v1), (0, v2), (9, 0), (9, 0), (9, 0), (9, 0), (9, 0), (9, 0), (9, 0)]) (S2 := [(0, (-1))]) (h2 := h) (by decide +kernel) rfl trivial ?_
      cases hx
      exact Ev.ret (i := .ireturn) (len := 1) (by decide +kernel) rfl (finOf (t := some .int) rfl (trivial))
    · have hx := hb hc
      clear ha hb hc
      refine Ev.blk (is := [.jsr_w 2, .lstore_n 3, .jsr_w 2, .lstore 5, .iconst 0, .istore 7]) (pc2 := 34) (L2 := [(2, v0), (0, v1), (0, v2), (1, 2), (8, 0), (1, 2), (8, 0), (0, 0), (9, 0), (9, 0)]) (S2 := []) (h2 := h) (by decide +kernel) rfl trivial ?_
      refine Ev.wk (L2 := [(9, 0), (0, v1), (0, v2), (1, 2), (8, 0), (1, 2), (8, 0), (0, 0), (9, 0), (9, 0)]) (wkL_of ⟨Or.inr rfl, ⟨Or.inl rfl, ⟨Or.inl rfl, ⟨Or.inl rfl, ⟨Or.inl rfl, ⟨Or.inl rfl, ⟨Or.inl rfl, ⟨Or.inl rfl, ⟨Or.inl rfl, ⟨Or.inl rfl, trivial⟩⟩⟩⟩⟩⟩⟩⟩⟩⟩) ?_
      exact y_R_chase_34 hd FU v1 v2 2 2 0 h _ hx
theorem y_R_primes_32 {sc : AS} {d : Nat} (hd : 1 ≤ d) : ∀ (fu : Nat) (v2 : Int) (v3 : Int) (v4 : Int) (h : AH) (r : Int), R_primes_32 fu v2 v3 v4 = some r → Ev sc d 254 32 [(9, 0), (9, 0), (0, v2), (0, v3), (0, v4)] [] h (some (0, r)) h := by
  intro fu
  induction fu with
  | zero => intro v2 v3 v4 h r hx; unfold R_primes_32 at hx; cases hx
  | succ fu ih =>
    intro v2 v3 v4 h r hx
    unfold R_primes_32 at hx
    refine Ev.blk (is := [.iload 4, .iload_n 2]) (pc2 := 35) (L2 := [(9, 0), (9, 0), (0, v2), (0, v3), (0, v4)]) (S2 := [(0, v2), (0, v4)]) (h2 := h) (by decide +kernel) rfl trivial ?_
    obtain ⟨ha, hb⟩ := bite hx
    clear hx
    refine Ev.br (i := .if_icmp .gt 21) (len := 3) (a := 56) (b := 38) (by decide +kernel) rfl Iff.rfl (fun hc => ?_) (fun hc => ?_)
    · have hx := ha hc
      clear ha hb hc
      refine Ev.blk (is := [.iload_n 3]) (pc2 := 57) (L2 := [(9, 0), (9, 0), (0, v2), (0, v3), (0, v4)]) (S2 := [(0, v3)]) (h2 := h) (by decide +kernel) rfl trivial ?_
      cases hx
      exact Ev.ret (i := .ireturn) (len := 1) (by decide +kernel) rfl (finOf (t := some .int) rfl (trivial))
    · have hx := hb hc
      clear ha hb hc
      refine Ev.blk (is := [.iload 4, .i2l]) (pc2 := 41) (L2 := [(9, 0), (9, 0), (0, v2), (0, v3), (0, v4)]) (S2 := [(1, v4)]) (h2 := h) (by decide +kernel) rfl trivial ?_
      obtain ⟨u1, hc, hx⟩ := bca hx
      refine Ev.call (args := [(1, v4)]) (S2 := []) (r1 := (some (0, u1))) (h1 := h) (i := .invokestatic 166) (by decide +kernel) rfl rfl (Nat.le_of_ble_eq_true rfl) (Or.inl rfl) (x_R_isPrime (by omega) hc) ?_
      obtain ⟨ha, hb⟩ := bite hx
      clear hx
      refine Ev.br (i := .ifCond .eq 6) (len := 3) (a := 50) (b := 47) (by decide +kernel) rfl Iff.rfl (fun hc => ?_) (fun hc => ?_)
      · have hx := ha hc
        clear ha hb hc
        refine Ev.blk (is := [.iinc 4 1]) (pc2 := 53) (L2 := [(9, 0), (9, 0), (0, v2), (0, v3), (0, w32 (v4 + 1))]) (S2 := []) (h2 := h) (by decide +kernel) rfl trivial ?_
        refine Ev.jp (i := .goto (-21)) (len := 3) (pc2 := 32) (by decide +kernel) rfl ?_
        exact ih v2 v3 (w32 (v4 + 1)) h _ hx
      · have hx := hb hc
        clear ha hb hc
        refine Ev.blk (is := [.iinc 3 1, .iinc 4 1]) (pc2 := 53) (L2 := [(9, 0), (9, 0), (0, v2), (0, w32 (v3 + 1)), (0, w32 (v4 + 1))]) (S2 := []) (h2 := h) (by decide +kernel) rfl trivial ?_
        refine Ev.jp (i := .goto (-21)) (len := 3) (pc2 := 32) (by decide +kernel) rfl ?_
        exact ih v2 (w32 (v3 + 1)) (w32 (v4 + 1)) h _ hx
theorem x_R_primes {sc : AS} {d : Nat} (hd : 2 ≤ d) {v0 : Int} {v1 : Int} {v2 : Int} {h : AH} {r : Int} (hx : R_primes v0 v1 v2 = some r) : Runs sc d 254 [(2, v0), (0, v1), (0, v2)] h (some (0, r)) h := by
  obtain ⟨d, rfl⟩ : ∃ e, d = e + 1 := ⟨d - 1, by omega⟩
  have hd : 1 ≤ d := by omega
  unfold R_primes at hx
  refine ⟨⟨aM_254, rfl, Nat.le_of_ble_eq_true rfl⟩, ?_⟩
  show Ev sc d 254 0 [(2, v0), (0, v1), (0, v2), (9, 0), (9, 0)] [] h (some (0, r)) h
  refine Ev.blk (is := [.iload_n 1]) (pc2 := 1) (L2 := [(2, v0), (0, v1), (0, v2), (9, 0), (9, 0)]) (S2 := [(0, v1)]) (h2 := h) (by decide +kernel) rfl trivial ?_
  obtain ⟨ha, hb⟩ := bite hx
  clear hx
  refine Ev.br (i := .ifCond .lt 24) (len := 3) (a := 25) (b := 4) (by decide +kernel) rfl Iff.rfl (fun hc => ?_) (fun hc => ?_)
  · have hx := ha hc
    clear ha hb hc
    refine Ev.blk (is := [.iconst (-1)]) (pc2 := 26) (L2 := [(2, v0), (0, v1), (0, v2), (9, 0), (9, 0)]) (S2 := [(0, (-1))]) (h2 := h) (by decide +kernel) rfl trivial ?_
    cases hx
    exact Ev.ret (i := .ireturn) (len := 1) (by decide +kernel) rfl (finOf (t := some .int) rfl (trivial))
  · have hx := hb hc
    clear ha hb hc
    refine Ev.blk (is := [.iload_n 2, .iload_n 1]) (pc2 := 6) (L2 := [(2, v0), (0, v1), (0, v2), (9, 0), (9, 0)]) (S2 := [(0, v1), (0, v2)]) (h2 := h) (by decide +kernel) rfl trivial ?_
    obtain ⟨ha, hb⟩ := bite hx
    clear hx
    refine Ev.br (i := .if_icmp .lt 19) (len := 3) (a := 25) (b := 9) (by decide +kernel) rfl Iff.rfl (fun hc => ?_) (fun hc => ?_)
    · have hx := ha hc
      clear ha hb hc
      refine Ev.blk (is := [.iconst (-1)]) (pc2 := 26) (L2 := [(2, v0), (0, v1), (0, v2), (9, 0), (9, 0)]) (S2 := [(0, (-1))]) (h2 := h) (by decide +kernel) rfl trivial ?_
      cases hx
      exact Ev.ret (i := .ireturn) (len := 1) (by decide +kernel) rfl (finOf (t := some .int) rfl (trivial))
    · have hx := hb hc
      clear ha hb hc
      refine Ev.blk (is := [.iload_n 2, .sipush 1000000000]) (pc2 := 13) (L2 := [(2, v0), (0, v1), (0, v2), (9, 0), (9, 0)]) (S2 := [(0, 1000000000), (0, v2)]) (h2 := h) (by decide +kernel) rfl trivial ?_
      obtain ⟨ha, hb⟩ := bite hx
      clear hx
      refine Ev.br (i := .if_icmp .gt 12) (len := 3) (a := 25) (b := 16) (by decide +kernel) rfl Iff.rfl (fun hc => ?_) (fun hc => ?_)
      · have hx := ha hc
        clear ha hb hc
        refine Ev.blk (is := [.iconst (-1)]) (pc2 := 26) (L2 := [(2, v0), (0, v1), (0, v2), (9, 0), (9, 0)]) (S2 := [(0, (-1))]) (h2 := h) (by decide +kernel) rfl trivial ?_
        cases hx
        exact Ev.ret (i := .ireturn) (len := 1) (by decide +kernel) rfl (finOf (t := some .int) rfl (trivial))
      · have hx := hb hc
        clear ha hb hc
        refine Ev.blk (is := [.iload_n 2, .iload_n 1, .isub, .sipush 1000]) (pc2 := 22) (L2 := [(2, v0), (0, v1), (0, v2), (9, 0), (9, 0)]) (S2 := [(0, 1000), (0, w32 (v2 - v1))]) (h2 := h) (by decide +kernel) rfl trivial ?_
        obtain ⟨ha, hb⟩ := bite hx
        clear hx
        refine Ev.br (i := .if_icmp .lt 5) (len := 3) (a := 27) (b := 25) (by decide +kernel) rfl Iff.rfl (fun hc => ?_) (fun hc => ?_)
        · have hx := ha hc
          clear ha hb hc
          refine Ev.blk (is := [.iconst 0, .istore_n 3, .iload_n 1, .istore 4]) (pc2 := 32) (L2 := [(2, v0), (0, v1), (0, v2), (0, 0), (0, v1)]) (S2 := []) (h2 := h) (by decide +kernel) rfl trivial ?_
          refine Ev.wk (L2 := [(9, 0), (9, 0), (0, v2), (0, 0), (0, v1)]) (wkL_of ⟨Or.inr rfl, ⟨Or.inr rfl, ⟨Or.inl rfl, ⟨Or.inl rfl, ⟨Or.inl rfl, trivial⟩⟩⟩⟩⟩) ?_
          exact y_R_primes_32 hd FU v2 0 v1 h _ hx
        · have hx := hb hc
          clear ha hb hc
          refine Ev.blk (is := [.iconst (-1)]) (pc2 := 26) (L2 := [(2, v0), (0, v1), (0, v2), (9, 0), (9, 0)]) (S2 := [(0, (-1))]) (h2 := h) (by decide +kernel) rfl trivial ?_
          cases hx
          exact Ev.ret (i := .ireturn) (len := 1) (by decide +kernel) rfl (finOf (t := some .int) rfl (trivial))
theorem x_R_isOdd {sc : AS} {d : Nat} (hd : 2 ≤ d) {v0 : Int} {h : AH} {r : Int} (hx : R_isOdd v0 = some r) : Runs sc d 256 [(0, v0)] h (some (0, r)) h := by
  obtain ⟨d, rfl⟩ : ∃ e, d = e + 1 := ⟨d - 1, by omega⟩
  have hd : 1 ≤ d := by omega
  unfold R_isOdd at hx
  refine ⟨⟨aM_256, rfl, Nat.le_of_ble_eq_true rfl⟩, ?_⟩
  show Ev sc d 256 0 [(0, v0)] [] h (some (0, r)) h
  refine Ev.blk (is := [.iload_n 0, .i2l, .jsr_w 3, .jsr_w 1000000000]) (pc2 := 8) (L2 := [(0, v0)]) (S2 := [(1, 1000000000), (1, 3), (1, v0)]) (h2 := h) (by decide +kernel) rfl trivial ?_
  obtain ⟨u1, hc, hx⟩ := bca hx
  refine Ev.call (args := [(1, v0), (1, 3), (1, 1000000000)]) (S2 := []) (r1 := (some (0, u1))) (h1 := h) (i := .invokestatic 162) (by decide +kernel) rfl rfl (Nat.le_of_ble_eq_true rfl) (Or.inl rfl) (x_R_in (by omega) hc) ?_
  obtain ⟨ha, hb⟩ := bite hx
  clear hx
  refine Ev.br (i := .ifCond .eq 14) (len := 3) (a := 25) (b := 14) (by decide +kernel) rfl Iff.rfl (fun hc => ?_) (fun hc => ?_)
  · have hx := ha hc
    clear ha hb hc
    refine Ev.blk (is := [.iconst 0]) (pc2 := 26) (L2 := [(0, v0)]) (S2 := [(0, 0)]) (h2 := h) (by decide +kernel) rfl trivial ?_
    cases hx
    exact Ev.ret (i := .ireturn) (len := 1) (by decide +kernel) rfl (finOf (t := some .boolean) rfl (bz0))
  · have hx := hb hc
    clear ha hb hc
    obtain ⟨u2, hg, he, hx⟩ := bgd hx
    refine Ev.blk (is := [.iload_n 0, .iconst 2, .irem]) (pc2 := 17) (L2 := [(0, v0)]) (S2 := [(0, u2)]) (h2 := h) (by decide +kernel) (by subst he; rfl) (by exact hg) ?_
    clear hg he
    refine Ev.blk (is := [.iconst 1]) (pc2 := 18) (L2 := [(0, v0)]) (S2 := [(0, 1), (0, u2)]) (h2 := h) (by decide +kernel) rfl trivial ?_
    obtain ⟨ha, hb⟩ := bite hx
    clear hx
    refine Ev.br (i := .if_icmp .ne 7) (len := 3) (a := 21) (b := 25) (by decide +kernel) rfl Iff.rfl (fun hc => ?_) (fun hc => ?_)
    · have hx := ha hc
      clear ha hb hc
      refine Ev.blk (is := [.iconst 1]) (pc2 := 22) (L2 := [(0, v0)]) (S2 := [(0, 1)]) (h2 := h) (by decide +kernel) rfl trivial ?_
      refine Ev.jp (i := .goto 4) (len := 3) (pc2 := 26) (by decide +kernel) rfl ?_
      cases hx
      exact Ev.ret (i := .ireturn) (len := 1) (by decide +kernel) rfl (finOf (t := some .boolean) rfl (bz1))
    · have hx := hb hc
      clear ha hb hc
      refine Ev.blk (is := [.iconst 0]) (pc2 := 26) (L2 := [(0, v0)]) (S2 := [(0, 0)]) (h2 := h) (by decide +kernel) rfl trivial ?_
      cases hx
      exact Ev.ret (i := .ireturn) (len := 1) (by decide +kernel) rfl (finOf (t := some .boolean) rfl (bz0))
theorem y_R_doesPass_45 {sc : AS} {d : Nat} (hd : 1 ≤ d) : ∀ (fu : Nat) (v0 : Int) (v4 : Int) (v6 : Int) (h : AH) (r : Int), R_doesPass_45 fu v0 v4 v6 = some r → Ev sc d 257 45 [(1, v0), (8, 0), (9, 0), (9, 0), (1, v4), (8, 0), (1, v6), (8, 0)] [] h (some (0, r)) h := by
  intro fu
  induction fu with
  | zero => intro v0 v4 v6 h r hx; unfold R_doesPass_45 at hx; cases hx
  | succ fu ih =>
    intro v0 v4 v6 h r hx
    unfold R_doesPass_45 at hx
    refine Ev.blk (is := [.lload 4, .lload_n 0, .lconst 1, .lsub, .lcmp]) (pc2 := 51) (L2 := [(1, v0), (8, 0), (9, 0), (9, 0), (1, v4), (8, 0), (1, v6), (8, 0)]) (S2 := [(0, cmpL v4 (w64 (v0 - 1)))]) (h2 := h) (by decide +kernel) rfl trivial ?_
    obtain ⟨ha, hb⟩ := bite hx
    clear hx
    refine Ev.br (i := .ifCond .ge 34) (len := 3) (a := 54) (b := 85) (by decide +kernel) rfl cmpL_lt (fun hc => ?_) (fun hc => ?_)
    · have hx := ha hc
      clear ha hb hc
      refine Ev.blk (is := [.lload 6, .lload_n 0, .lconst 1, .lsub, .lcmp]) (pc2 := 60) (L2 := [(1, v0), (8, 0), (9, 0), (9, 0), (1, v4), (8, 0), (1, v6), (8, 0)]) (S2 := [(0, cmpL v6 (w64 (v0 - 1)))]) (h2 := h) (by decide +kernel) rfl trivial ?_
      obtain ⟨ha, hb⟩ := bite hx
      clear hx
      refine Ev.br (i := .ifCond .ne 5) (len := 3) (a := 63) (b := 65) (by decide +kernel) rfl cmpL_eq (fun hc => ?_) (fun hc => ?_)
      · have hx := ha hc
        clear ha hb hc
        refine Ev.blk (is := [.iconst 1]) (pc2 := 64) (L2 := [(1, v0), (8, 0), (9, 0), (9, 0), (1, v4), (8, 0), (1, v6), (8, 0)]) (S2 := [(0, 1)]) (h2 := h) (by decide +kernel) rfl trivial ?_
        cases hx
        exact Ev.ret (i := .ireturn) (len := 1) (by decide +kernel) rfl (finOf (t := some .boolean) rfl (bz1))
      · have hx := hb hc
        clear ha hb hc
        obtain ⟨u1, hg, he, hx⟩ := bgd hx
        refine Ev.blk (is := [.lload 6, .lload 6, .lmul, .lload_n 0, .lrem]) (pc2 := 72) (L2 := [(1, v0), (8, 0), (9, 0), (9, 0), (1, v4), (8, 0), (1, v6), (8, 0)]) (S2 := [(1, u1)]) (h2 := h) (by decide +kernel) (by subst he; rfl) (by exact hg) ?_
        clear hg he
        refine Ev.blk (is := [.lstore 6, .lload 4, .jsr_w 2, .lmul, .lstore 4]) (pc2 := 82) (L2 := [(1, v0), (8, 0), (9, 0), (9, 0), (1, w64 (v4 * 2)), (8, 0), (1, u1), (8, 0)]) (S2 := []) (h2 := h) (by decide +kernel) rfl trivial ?_
        refine Ev.jp (i := .goto (-37)) (len := 3) (pc2 := 45) (by decide +kernel) rfl ?_
        exact ih v0 (w64 (v4 * 2)) u1 h _ hx
    · have hx := hb hc
      clear ha hb hc
      refine Ev.blk (is := [.iconst 0]) (pc2 := 86) (L2 := [(1, v0), (8, 0), (9, 0), (9, 0), (1, v4), (8, 0), (1, v6), (8, 0)]) (S2 := [(0, 0)]) (h2 := h) (by decide +kernel) rfl trivial ?_
      cases hx
      exact Ev.ret (i := .ireturn) (len := 1) (by decide +kernel) rfl (finOf (t := some .boolean) rfl (bz0))
theorem y_R_doesPass_5 {sc : AS} {d : Nat} (hd : 1 ≤ d) : ∀ (fu : Nat) (v0 : Int) (v2 : Int) (v4 : Int) (h : AH) (r : Int), R_doesPass_5 fu v0 v2 v4 = some r → Ev sc d 257 5 [(1, v0), (8, 0), (1, v2), (8, 0), (1, v4), (8, 0), (9, 0), (9, 0)] [] h (some (0, r)) h := by
  intro fu
  induction fu with
  | zero => intro v0 v2 v4 h r hx; unfold R_doesPass_5 at hx; cases hx
  | succ fu ih =>
    intro v0 v2 v4 h r hx
    unfold R_doesPass_5 at hx
    obtain ⟨u1, hg, he, hx⟩ := bgd hx
    refine Ev.blk (is := [.lload 4, .jsr_w 2, .lrem]) (pc2 := 11) (L2 := [(1, v0), (8, 0), (1, v2), (8, 0), (1, v4), (8, 0), (9, 0), (9, 0)]) (S2 := [(1, u1)]) (h2 := h) (by decide +kernel) (by subst he; rfl) (by exact hg) ?_
    clear hg he
    refine Ev.blk (is := [.lconst 0, .lcmp]) (pc2 := 13) (L2 := [(1, v0), (8, 0), (1, v2), (8, 0), (1, v4), (8, 0), (9, 0), (9, 0)]) (S2 := [(0, cmpL u1 0)]) (h2 := h) (by decide +kernel) rfl trivial ?_
    obtain ⟨ha, hb⟩ := bite hx
    clear hx
    refine Ev.br (i := .ifCond .ne 14) (len := 3) (a := 16) (b := 27) (by decide +kernel) rfl cmpL_eq (fun hc => ?_) (fun hc => ?_)
    · have hx := ha hc
      clear ha hb hc
      obtain ⟨u2, hg, he, hx⟩ := bgd hx
      refine Ev.blk (is := [.lload 4, .jsr_w 2, .ldiv]) (pc2 := 22) (L2 := [(1, v0), (8, 0), (1, v2), (8, 0), (1, v4), (8, 0), (9, 0), (9, 0)]) (S2 := [(1, u2)]) (h2 := h) (by decide +kernel) (by subst he; rfl) (by exact hg) ?_
      clear hg he
      refine Ev.blk (is := [.lstore 4]) (pc2 := 24) (L2 := [(1, v0), (8, 0), (1, v2), (8, 0), (1, u2), (8, 0), (9, 0), (9, 0)]) (S2 := []) (h2 := h) (by decide +kernel) rfl trivial ?_
      refine Ev.jp (i := .goto (-19)) (len := 3) (pc2 := 5) (by decide +kernel) rfl ?_
      exact ih v0 v2 u2 h _ hx
    · have hx := hb hc
      clear ha hb hc
      refine Ev.blk (is := [.lload_n 2, .lload 4, .lload_n 0]) (pc2 := 31) (L2 := [(1, v0), (8, 0), (1, v2), (8, 0), (1, v4), (8, 0), (9, 0), (9, 0)]) (S2 := [(1, v0), (1, v4), (1, v2)]) (h2 := h) (by decide +kernel) rfl trivial ?_
      obtain ⟨u3, hc, hx⟩ := bca hx
      refine Ev.call (args := [(1, v2), (1, v4), (1, v0)]) (S2 := []) (r1 := (some (1, u3))) (h1 := h) (i := .invokestatic 178) (by decide +kernel) rfl rfl (Nat.le_of_ble_eq_true rfl) (Or.inl rfl) (x_R_powerOf (by omega) hc) ?_
      refine Ev.blk (is := [.lstore 6, .lload 6, .lconst 1, .lcmp]) (pc2 := 40) (L2 := [(1, v0), (8, 0), (1, v2), (8, 0), (1, v4), (8, 0), (1, u3), (8, 0)]) (S2 := [(0, cmpL u3 1)]) (h2 := h) (by decide +kernel) rfl trivial ?_
      obtain ⟨ha, hb⟩ := bite hx
      clear hx
      refine Ev.br (i := .ifCond .ne 5) (len := 3) (a := 43) (b := 45) (by decide +kernel) rfl cmpL_eq (fun hc => ?_) (fun hc => ?_)
      · have hx := ha hc
        clear ha hb hc
        refine Ev.blk (is := [.iconst 1]) (pc2 := 44) (L2 := [(1, v0), (8, 0), (1, v2), (8, 0), (1, v4), (8, 0), (1, u3), (8, 0)]) (S2 := [(0, 1)]) (h2 := h) (by decide +kernel) rfl trivial ?_
        cases hx
        exact Ev.ret (i := .ireturn) (len := 1) (by decide +kernel) rfl (finOf (t := some .boolean) rfl (bz1))
      · have hx := hb hc
        clear ha hb hc
        refine Ev.wk (L2 := [(1, v0), (8, 0), (9, 0), (9, 0), (1, v4), (8, 0), (1, u3), (8, 0)]) (wkL_of ⟨Or.inl rfl, ⟨Or.inl rfl, ⟨Or.inr rfl, ⟨Or.inr rfl, ⟨Or.inl rfl, ⟨Or.inl rfl, ⟨Or.inl rfl, ⟨Or.inl rfl, trivial⟩⟩⟩⟩⟩⟩⟩⟩) ?_
        exact y_R_doesPass_45 hd FU v0 v4 u3 h _ hx
theorem x_R_doesPass {sc : AS} {d : Nat} (hd : 2 ≤ d) {v0 : Int} {v2 : Int} {h : AH} {r : Int} (hx : R_doesPass v0 v2 = some r) : Runs sc d 257 [(1, v0), (1, v2)] h (some (0, r)) h := by
  obtain ⟨d, rfl⟩ : ∃ e, d = e + 1 := ⟨d - 1, by omega⟩
  have hd : 1 ≤ d := by omega
  unfold R_doesPass at hx
  refine ⟨⟨aM_257, rfl, Nat.le_of_ble_eq_true rfl⟩, ?_⟩
  show Ev sc d 257 0 [(1, v0), (8, 0), (1, v2), (8, 0), (9, 0), (9, 0), (9, 0), (9, 0)] [] h (some (0, r)) h
  refine Ev.blk (is := [.lload_n 0, .lconst 1, .lsub, .lstore 4]) (pc2 := 5) (L2 := [(1, v0), (8, 0), (1, v2), (8, 0), (1, w64 (v0 - 1)), (8, 0), (9, 0), (9, 0)]) (S2 := []) (h2 := h) (by decide +kernel) rfl trivial ?_
  exact y_R_doesPass_5 hd FU v0 v2 (w64 (v0 - 1)) h _ hx
theorem x_R_passes {sc : AS} {d : Nat} (hd : 3 ≤ d) {v0 : Int} {v1 : Int} {v2 : Int} {h : AH} {r : Int} (hx : R_passes v0 v1 v2 = some r) : Runs sc d 255 [(2, v0), (0, v1), (0, v2)] h (some (0, r)) h := by
  obtain ⟨d, rfl⟩ : ∃ e, d = e + 1 := ⟨d - 1, by omega⟩
  have hd : 2 ≤ d := by omega
  unfold R_passes at hx
  refine ⟨⟨aM_255, rfl, Nat.le_of_ble_eq_true rfl⟩, ?_⟩
  show Ev sc d 255 0 [(2, v0), (0, v1), (0, v2)] [] h (some (0, r)) h
  refine Ev.blk (is := [.iload_n 1]) (pc2 := 1) (L2 := [(2, v0), (0, v1), (0, v2)]) (S2 := [(0, v1)]) (h2 := h) (by decide +kernel) rfl trivial ?_
  obtain ⟨u1, hc, hx⟩ := bca hx
  refine Ev.call (args := [(0, v1)]) (S2 := []) (r1 := (some (0, u1))) (h1 := h) (i := .invokestatic 256) (by decide +kernel) rfl rfl (Nat.le_of_ble_eq_true rfl) (Or.inl rfl) (x_R_isOdd (by omega) hc) ?_
  obtain ⟨ha, hb⟩ := bite hx
  clear hx
  refine Ev.br (i := .ifCond .eq 22) (len := 3) (a := 26) (b := 7) (by decide +kernel) rfl Iff.rfl (fun hc => ?_) (fun hc => ?_)
  · have hx := ha hc
    clear ha hb hc
    refine Ev.blk (is := [.iconst (-1)]) (pc2 := 27) (L2 := [(2, v0), (0, v1), (0, v2)]) (S2 := [(0, (-1))]) (h2 := h) (by decide +kernel) rfl trivial ?_
    cases hx
    exact Ev.ret (i := .ireturn) (len := 1) (by decide +kernel) rfl (finOf (t := some .int) rfl (trivial))
  · have hx := hb hc
    clear ha hb hc
    refine Ev.blk (is := [.iload_n 2, .i2l, .jsr_w 2, .jsr_w 999]) (pc2 := 15) (L2 := [(2, v0), (0, v1), (0, v2)]) (S2 := [(1, 999), (1, 2), (1, v2)]) (h2 := h) (by decide +kernel) rfl trivial ?_
    obtain ⟨u2, hc, hx⟩ := bca hx
    refine Ev.call (args := [(1, v2), (1, 2), (1, 999)]) (S2 := []) (r1 := (some (0, u2))) (h1 := h) (i := .invokestatic 162) (by decide +kernel) rfl rfl (Nat.le_of_ble_eq_true rfl) (Or.inl rfl) (x_R_in (by omega) hc) ?_
    obtain ⟨ha, hb⟩ := bite hx
    clear hx
    refine Ev.br (i := .ifCond .eq 8) (len := 3) (a := 26) (b := 21) (by decide +kernel) rfl Iff.rfl (fun hc => ?_) (fun hc => ?_)
    · have hx := ha hc
      clear ha hb hc
      refine Ev.blk (is := [.iconst (-1)]) (pc2 := 27) (L2 := [(2, v0), (0, v1), (0, v2)]) (S2 := [(0, (-1))]) (h2 := h) (by decide +kernel) rfl trivial ?_
      cases hx
      exact Ev.ret (i := .ireturn) (len := 1) (by decide +kernel) rfl (finOf (t := some .int) rfl (trivial))
    · have hx := hb hc
      clear ha hb hc
      refine Ev.blk (is := [.iload_n 2, .iload_n 1]) (pc2 := 23) (L2 := [(2, v0), (0, v1), (0, v2)]) (S2 := [(0, v1), (0, v2)]) (h2 := h) (by decide +kernel) rfl trivial ?_
      obtain ⟨ha, hb⟩ := bite hx
      clear hx
      refine Ev.br (i := .if_icmp .lt 5) (len := 3) (a := 28) (b := 26) (by decide +kernel) rfl Iff.rfl (fun hc => ?_) (fun hc => ?_)
      · have hx := ha hc
        clear ha hb hc
        refine Ev.blk (is := [.iload_n 1, .i2l, .iload_n 2, .i2l]) (pc2 := 32) (L2 := [(2, v0), (0, v1), (0, v2)]) (S2 := [(1, v2), (1, v1)]) (h2 := h) (by decide +kernel) rfl trivial ?_
        obtain ⟨u3, hc, hx⟩ := bca hx
        refine Ev.call (args := [(1, v1), (1, v2)]) (S2 := []) (r1 := (some (0, u3))) (h1 := h) (i := .invokestatic 257) (by decide +kernel) rfl rfl (Nat.le_of_ble_eq_true rfl) (Or.inl rfl) (x_R_doesPass (by omega) hc) ?_
        obtain ⟨ha, hb⟩ := bite hx
        clear hx
        refine Ev.br (i := .ifCond .eq 7) (len := 3) (a := 42) (b := 38) (by decide +kernel) rfl Iff.rfl (fun hc => ?_) (fun hc => ?_)
        · have hx := ha hc
          clear ha hb hc
          refine Ev.blk (is := [.iconst 0]) (pc2 := 43) (L2 := [(2, v0), (0, v1), (0, v2)]) (S2 := [(0, 0)]) (h2 := h) (by decide +kernel) rfl trivial ?_
          cases hx
          exact Ev.ret (i := .ireturn) (len := 1) (by decide +kernel) rfl (finOf (t := some .int) rfl (trivial))
        · have hx := hb hc
          clear ha hb hc
          refine Ev.blk (is := [.iconst 1]) (pc2 := 39) (L2 := [(2, v0), (0, v1), (0, v2)]) (S2 := [(0, 1)]) (h2 := h) (by decide +kernel) rfl trivial ?_
          refine Ev.jp (i := .goto 4) (len := 3) (pc2 := 43) (by decide +kernel) rfl ?_
          cases hx
          exact Ev.ret (i := .ireturn) (len := 1) (by decide +kernel) rfl (finOf (t := some .int) rfl (trivial))
      · have hx := hb hc
        clear ha hb hc
        refine Ev.blk (is := [.iconst (-1)]) (pc2 := 27) (L2 := [(2, v0), (0, v1), (0, v2)]) (S2 := [(0, (-1))]) (h2 := h) (by decide +kernel) rfl trivial ?_
        cases hx
        exact Ev.ret (i := .ireturn) (len := 1) (by decide +kernel) rfl (finOf (t := some .int) rfl (trivial))
theorem y_R_fools_27 {sc : AS} {d : Nat} (hd : 2 ≤ d) : ∀ (fu : Nat) (v1 : Int) (v2 : Int) (v3 : Int) (v4 : Int) (v5 : Int) (h : AH) (r : Int), R_fools_27 fu v1 v2 v3 v4 v5 = some r → Ev sc d 258 27 [(9, 0), (0, v1), (0, v2), (0, v3), (0, v4), (0, v5)] [] h (some (0, r)) h := by
  intro fu
  induction fu with
  | zero => intro v1 v2 v3 v4 v5 h r hx; unfold R_fools_27 at hx; cases hx
  | succ fu ih =>
    intro v1 v2 v3 v4 v5 h r hx
    unfold R_fools_27 at hx
    refine Ev.blk (is := [.iload 5, .sipush 999]) (pc2 := 32) (L2 := [(9, 0), (0, v1), (0, v2), (0, v3), (0, v4), (0, v5)]) (S2 := [(0, 999), (0, v5)]) (h2 := h) (by decide +kernel) rfl trivial ?_
    obtain ⟨ha, hb⟩ := bite hx
    clear hx
    refine Ev.br (i := .if_icmp .gt 41) (len := 3) (a := 73) (b := 35) (by decide +kernel) rfl Iff.rfl (fun hc => ?_) (fun hc => ?_)
    · have hx := ha hc
      clear ha hb hc
      refine Ev.blk (is := [.iload_n 2]) (pc2 := 74) (L2 := [(9, 0), (0, v1), (0, v2), (0, v3), (0, v4), (0, v5)]) (S2 := [(0, v2)]) (h2 := h) (by decide +kernel) rfl trivial ?_
      obtain ⟨ha, hb⟩ := bite hx
      clear hx
      refine Ev.br (i := .ifCond .ne 7) (len := 3) (a := 77) (b := 81) (by decide +kernel) rfl Iff.rfl (fun hc => ?_) (fun hc => ?_)
      · have hx := ha hc
        clear ha hb hc
        refine Ev.blk (is := [.iload_n 3]) (pc2 := 78) (L2 := [(9, 0), (0, v1), (0, v2), (0, v3), (0, v4), (0, v5)]) (S2 := [(0, v3)]) (h2 := h) (by decide +kernel) rfl trivial ?_
        refine Ev.jp (i := .goto 5) (len := 3) (pc2 := 83) (by decide +kernel) rfl ?_
        cases hx
        exact Ev.ret (i := .ireturn) (len := 1) (by decide +kernel) rfl (finOf (t := some .int) rfl (trivial))
      · have hx := hb hc
        clear ha hb hc
        refine Ev.blk (is := [.iload 4]) (pc2 := 83) (L2 := [(9, 0), (0, v1), (0, v2), (0, v3), (0, v4), (0, v5)]) (S2 := [(0, v4)]) (h2 := h) (by decide +kernel) rfl trivial ?_
        cases hx
        exact Ev.ret (i := .ireturn) (len := 1) (by decide +kernel) rfl (finOf (t := some .int) rfl (trivial))
    · have hx := hb hc
      clear ha hb hc
      refine Ev.blk (is := [.iload 5, .iload_n 1]) (pc2 := 38) (L2 := [(9, 0), (0, v1), (0, v2), (0, v3), (0, v4), (0, v5)]) (S2 := [(0, v1), (0, v5)]) (h2 := h) (by decide +kernel) rfl trivial ?_
      obtain ⟨ha, hb⟩ := bite hx
      clear hx
      refine Ev.br (i := .if_icmp .ge 35) (len := 3) (a := 41) (b := 73) (by decide +kernel) rfl Iff.rfl (fun hc => ?_) (fun hc => ?_)
      · have hx := ha hc
        clear ha hb hc
        refine Ev.blk (is := [.iload_n 1, .i2l, .iload 5, .i2l]) (pc2 := 46) (L2 := [(9, 0), (0, v1), (0, v2), (0, v3), (0, v4), (0, v5)]) (S2 := [(1, v5), (1, v1)]) (h2 := h) (by decide +kernel) rfl trivial ?_
        obtain ⟨u1, hc, hx⟩ := bca hx
        refine Ev.call (args := [(1, v1), (1, v5)]) (S2 := []) (r1 := (some (0, u1))) (h1 := h) (i := .invokestatic 257) (by decide +kernel) rfl rfl (Nat.le_of_ble_eq_true rfl) (Or.inl rfl) (x_R_doesPass (by omega) hc) ?_
        obtain ⟨ha, hb⟩ := bite hx
        clear hx
        refine Ev.br (i := .ifCond .eq 9) (len := 3) (a := 58) (b := 52) (by decide +kernel) rfl Iff.rfl (fun hc => ?_) (fun hc => ?_)
        · have hx := ha hc
          clear ha hb hc
          refine Ev.blk (is := [.iload 4]) (pc2 := 60) (L2 := [(9, 0), (0, v1), (0, v2), (0, v3), (0, v4), (0, v5)]) (S2 := [(0, v4)]) (h2 := h) (by decide +kernel) rfl trivial ?_
          obtain ⟨ha, hb⟩ := bite hx
          clear hx
          refine Ev.br (i := .ifCond .ne 7) (len := 3) (a := 63) (b := 67) (by decide +kernel) rfl Iff.rfl (fun hc => ?_) (fun hc => ?_)
          · have hx := ha hc
            clear ha hb hc
            refine Ev.blk (is := [.iload 5, .istore 4, .iinc 5 1]) (pc2 := 70) (L2 := [(9, 0), (0, v1), (0, v2), (0, v3), (0, v5), (0, w32 (v5 + 1))]) (S2 := []) (h2 := h) (by decide +kernel) rfl trivial ?_
            refine Ev.jp (i := .goto (-43)) (len := 3) (pc2 := 27) (by decide +kernel) rfl ?_
            exact ih v1 v2 v3 v5 (w32 (v5 + 1)) h _ hx
          · have hx := hb hc
            clear ha hb hc
            refine Ev.blk (is := [.iinc 5 1]) (pc2 := 70) (L2 := [(9, 0), (0, v1), (0, v2), (0, v3), (0, v4), (0, w32 (v5 + 1))]) (S2 := []) (h2 := h) (by decide +kernel) rfl trivial ?_
            refine Ev.jp (i := .goto (-43)) (len := 3) (pc2 := 27) (by decide +kernel) rfl ?_
            exact ih v1 v2 v3 v4 (w32 (v5 + 1)) h _ hx
        · have hx := hb hc
          clear ha hb hc
          refine Ev.blk (is := [.iinc 3 1]) (pc2 := 55) (L2 := [(9, 0), (0, v1), (0, v2), (0, w32 (v3 + 1)), (0, v4), (0, v5)]) (S2 := []) (h2 := h) (by decide +kernel) rfl trivial ?_
          refine Ev.jp (i := .goto 12) (len := 3) (pc2 := 67) (by decide +kernel) rfl ?_
          refine Ev.blk (is := [.iinc 5 1]) (pc2 := 70) (L2 := [(9, 0), (0, v1), (0, v2), (0, w32 (v3 + 1)), (0, v4), (0, w32 (v5 + 1))]) (S2 := []) (h2 := h) (by decide +kernel) rfl trivial ?_
          refine Ev.jp (i := .goto (-43)) (len := 3) (pc2 := 27) (by decide +kernel) rfl ?_
          exact ih v1 v2 (w32 (v3 + 1)) v4 (w32 (v5 + 1)) h _ hx
      · have hx := hb hc
        clear ha hb hc
        refine Ev.blk (is := [.iload_n 2]) (pc2 := 74) (L2 := [(9, 0), (0, v1), (0, v2), (0, v3), (0, v4), (0, v5)]) (S2 := [(0, v2)]) (h2 := h) (by decide +kernel) rfl trivial ?_
        obtain ⟨ha, hb⟩ := bite hx
        clear hx
        refine Ev.br (i := .ifCond .ne 7) (len := 3) (a := 77) (b := 81) (by decide +kernel) rfl Iff.rfl (fun hc => ?_) (fun hc => ?_)
        · have hx := ha hc
          clear ha hb hc
          refine Ev.blk (is := [.iload_n 3]) (pc2 := 78) (L2 := [(9, 0), (0, v1), (0, v2), (0, v3), (0, v4), (0, v5)]) (S2 := [(0, v3)]) (h2 := h) (by decide +kernel) rfl trivial ?_
          refine Ev.jp (i := .goto 5) (len := 3) (pc2 := 83) (by decide +kernel) rfl ?_
          cases hx
          exact Ev.ret (i := .ireturn) (len := 1) (by decide +kernel) rfl (finOf (t := some .int) rfl (trivial))
        · have hx := hb hc
          clear ha hb hc
          refine Ev.blk (is := [.iload 4]) (pc2 := 83) (L2 := [(9, 0), (0, v1), (0, v2), (0, v3), (0, v4), (0, v5)]) (S2 := [(0, v4)]) (h2 := h) (by decide +kernel) rfl trivial ?_
          cases hx
          exact Ev.ret (i := .ireturn) (len := 1) (by decide +kernel) rfl (finOf (t := some .int) rfl (trivial))
theorem x_R_fools {sc : AS} {d : Nat} (hd : 3 ≤ d) {v0 : Int} {v1 : Int} {v2 : Int} {h : AH} {r : Int} (hx : R_fools v0 v1 v2 = some r) : Runs sc d 258 [(2, v0), (0, v1), (0, v2)] h (some (0, r)) h := by
  obtain ⟨d, rfl⟩ : ∃ e, d = e + 1 := ⟨d - 1, by omega⟩
  have hd : 2 ≤ d := by omega
  unfold R_fools at hx
  refine ⟨⟨aM_258, rfl, Nat.le_of_ble_eq_true rfl⟩, ?_⟩
  show Ev sc d 258 0 [(2, v0), (0, v1), (0, v2), (9, 0), (9, 0), (9, 0)] [] h (some (0, r)) h
  refine Ev.blk (is := [.iload_n 1]) (pc2 := 1) (L2 := [(2, v0), (0, v1), (0, v2), (9, 0), (9, 0), (9, 0)]) (S2 := [(0, v1)]) (h2 := h) (by decide +kernel) rfl trivial ?_
  obtain ⟨u1, hc, hx⟩ := bca hx
  refine Ev.call (args := [(0, v1)]) (S2 := []) (r1 := (some (0, u1))) (h1 := h) (i := .invokestatic 256) (by decide +kernel) rfl rfl (Nat.le_of_ble_eq_true rfl) (Or.inl rfl) (x_R_isOdd (by omega) hc) ?_
  obtain ⟨ha, hb⟩ := bite hx
  clear hx
  refine Ev.br (i := .ifCond .eq 13) (len := 3) (a := 17) (b := 7) (by decide +kernel) rfl Iff.rfl (fun hc => ?_) (fun hc => ?_)
  · have hx := ha hc
    clear ha hb hc
    refine Ev.blk (is := [.iconst (-1)]) (pc2 := 18) (L2 := [(2, v0), (0, v1), (0, v2), (9, 0), (9, 0), (9, 0)]) (S2 := [(0, (-1))]) (h2 := h) (by decide +kernel) rfl trivial ?_
    cases hx
    exact Ev.ret (i := .ireturn) (len := 1) (by decide +kernel) rfl (finOf (t := some .int) rfl (trivial))
  · have hx := hb hc
    clear ha hb hc
    refine Ev.blk (is := [.iload_n 2, .i2l, .lconst 0, .lconst 1]) (pc2 := 11) (L2 := [(2, v0), (0, v1), (0, v2), (9, 0), (9, 0), (9, 0)]) (S2 := [(1, 1), (1, 0), (1, v2)]) (h2 := h) (by decide +kernel) rfl trivial ?_
    obtain ⟨u2, hc, hx⟩ := bca hx
    refine Ev.call (args := [(1, v2), (1, 0), (1, 1)]) (S2 := []) (r1 := (some (0, u2))) (h1 := h) (i := .invokestatic 162) (by decide +kernel) rfl rfl (Nat.le_of_ble_eq_true rfl) (Or.inl rfl) (x_R_in (by omega) hc) ?_
    obtain ⟨ha, hb⟩ := bite hx
    clear hx
    refine Ev.br (i := .ifCond .ne 5) (len := 3) (a := 17) (b := 19) (by decide +kernel) rfl Iff.rfl (fun hc => ?_) (fun hc => ?_)
    · have hx := ha hc
      clear ha hb hc
      refine Ev.blk (is := [.iconst (-1)]) (pc2 := 18) (L2 := [(2, v0), (0, v1), (0, v2), (9, 0), (9, 0), (9, 0)]) (S2 := [(0, (-1))]) (h2 := h) (by decide +kernel) rfl trivial ?_
      cases hx
      exact Ev.ret (i := .ireturn) (len := 1) (by decide +kernel) rfl (finOf (t := some .int) rfl (trivial))
    · have hx := hb hc
      clear ha hb hc
      refine Ev.blk (is := [.iconst 0, .istore_n 3, .iconst 0, .istore 4, .iconst 2, .istore 5]) (pc2 := 27) (L2 := [(2, v0), (0, v1), (0, v2), (0, 0), (0, 0), (0, 2)]) (S2 := []) (h2 := h) (by decide +kernel) rfl trivial ?_
      refine Ev.wk (L2 := [(9, 0), (0, v1), (0, v2), (0, 0), (0, 0), (0, 2)]) (wkL_of ⟨Or.inr rfl, ⟨Or.inl rfl, ⟨Or.inl rfl, ⟨Or.inl rfl, ⟨Or.inl rfl, ⟨Or.inl rfl, trivial⟩⟩⟩⟩⟩⟩) ?_
      exact y_R_fools_27 hd FU v1 v2 0 0 2 h _ hx
theorem x_R_power {sc : AS} {d : Nat} (hd : 2 ≤ d) {v0 : Int} {v1 : Int} {v2 : Int} {v3 : Int} {h : AH} {r : Int} (hx : R_power v0 v1 v2 v3 = some r) : Runs sc d 259 [(2, v0), (0, v1), (0, v2), (0, v3)] h (some (0, r)) h := by
  obtain ⟨d, rfl⟩ : ∃ e, d = e + 1 := ⟨d - 1, by omega⟩
  have hd : 1 ≤ d := by omega
  unfold R_power at hx
  refine ⟨⟨aM_259, rfl, Nat.le_of_ble_eq_true rfl⟩, ?_⟩
  show Ev sc d 259 0 [(2, v0), (0, v1), (0, v2), (0, v3)] [] h (some (0, r)) h
  refine Ev.blk (is := [.iload_n 1]) (pc2 := 1) (L2 := [(2, v0), (0, v1), (0, v2), (0, v3)]) (S2 := [(0, v1)]) (h2 := h) (by decide +kernel) rfl trivial ?_
  obtain ⟨ha, hb⟩ := bite hx
  clear hx
  refine Ev.br (i := .ifCond .lt 12) (len := 3) (a := 13) (b := 4) (by decide +kernel) rfl Iff.rfl (fun hc => ?_) (fun hc => ?_)
  · have hx := ha hc
    clear ha hb hc
    refine Ev.blk (is := [.iconst (-1)]) (pc2 := 14) (L2 := [(2, v0), (0, v1), (0, v2), (0, v3)]) (S2 := [(0, (-1))]) (h2 := h) (by decide +kernel) rfl trivial ?_
    refine Ev.jp (i := .goto 13) (len := 3) (pc2 := 27) (by decide +kernel) rfl ?_
    cases hx
    exact Ev.ret (i := .ireturn) (len := 1) (by decide +kernel) rfl (finOf (t := some .int) rfl (trivial))
  · have hx := hb hc
    clear ha hb hc
    refine Ev.blk (is := [.iload_n 2]) (pc2 := 5) (L2 := [(2, v0), (0, v1), (0, v2), (0, v3)]) (S2 := [(0, v2)]) (h2 := h) (by decide +kernel) rfl trivial ?_
    obtain ⟨ha, hb⟩ := bite hx
    clear hx
    refine Ev.br (i := .ifCond .lt 8) (len := 3) (a := 13) (b := 8) (by decide +kernel) rfl Iff.rfl (fun hc => ?_) (fun hc => ?_)
    · have hx := ha hc
      clear ha hb hc
      refine Ev.blk (is := [.iconst (-1)]) (pc2 := 14) (L2 := [(2, v0), (0, v1), (0, v2), (0, v3)]) (S2 := [(0, (-1))]) (h2 := h) (by decide +kernel) rfl trivial ?_
      refine Ev.jp (i := .goto 13) (len := 3) (pc2 := 27) (by decide +kernel) rfl ?_
      cases hx
      exact Ev.ret (i := .ireturn) (len := 1) (by decide +kernel) rfl (finOf (t := some .int) rfl (trivial))
    · have hx := hb hc
      clear ha hb hc
      refine Ev.blk (is := [.iload_n 3, .iconst 1]) (pc2 := 10) (L2 := [(2, v0), (0, v1), (0, v2), (0, v3)]) (S2 := [(0, 1), (0, v3)]) (h2 := h) (by decide +kernel) rfl trivial ?_
      obtain ⟨ha, hb⟩ := bite hx
      clear hx
      refine Ev.br (i := .if_icmp .ge 7) (len := 3) (a := 13) (b := 17) (by decide +kernel) rfl Iff.rfl (fun hc => ?_) (fun hc => ?_)
      · have hx := ha hc
        clear ha hb hc
        refine Ev.blk (is := [.iconst (-1)]) (pc2 := 14) (L2 := [(2, v0), (0, v1), (0, v2), (0, v3)]) (S2 := [(0, (-1))]) (h2 := h) (by decide +kernel) rfl trivial ?_
        refine Ev.jp (i := .goto 13) (len := 3) (pc2 := 27) (by decide +kernel) rfl ?_
        cases hx
        exact Ev.ret (i := .ireturn) (len := 1) (by decide +kernel) rfl (finOf (t := some .int) rfl (trivial))
      · have hx := hb hc
        clear ha hb hc
        refine Ev.blk (is := [.iload_n 1, .i2l, .iload_n 2, .i2l, .iload_n 3, .i2l]) (pc2 := 23) (L2 := [(2, v0), (0, v1), (0, v2), (0, v3)]) (S2 := [(1, v3), (1, v2), (1, v1)]) (h2 := h) (by decide +kernel) rfl trivial ?_
        obtain ⟨u1, hc, hx⟩ := bca hx
        refine Ev.call (args := [(1, v1), (1, v2), (1, v3)]) (S2 := []) (r1 := (some (1, u1))) (h1 := h) (i := .invokestatic 178) (by decide +kernel) rfl rfl (Nat.le_of_ble_eq_true rfl) (Or.inl rfl) (x_R_powerOf (by omega) hc) ?_
        refine Ev.blk (is := [.l2i]) (pc2 := 27) (L2 := [(2, v0), (0, v1), (0, v2), (0, v3)]) (S2 := [(0, w32 u1)]) (h2 := h) (by decide +kernel) rfl trivial ?_
        cases hx
        exact Ev.ret (i := .ireturn) (len := 1) (by decide +kernel) rfl (finOf (t := some .int) rfl (trivial))
theorem y_R_order_43 {sc : AS} {d : Nat} (hd : 1 ≤ d) : ∀ (fu : Nat) (v1 : Int) (v2 : Int) (v3 : Int) (v4 : Int) (h : AH) (r : Int), R_order_43 fu v1 v2 v3 v4 = some r → Ev sc d 260 43 [(9, 0), (0, v1), (0, v2), (0, v3), (1, v4), (8, 0)] [] h (some (0, r)) h := by
  intro fu
  induction fu with
  | zero => intro v1 v2 v3 v4 h r hx; unfold R_order_43 at hx; cases hx
  | succ fu ih =>
    intro v1 v2 v3 v4 h r hx
    unfold R_order_43 at hx
    refine Ev.blk (is := [.lload 4, .lconst 1, .lcmp]) (pc2 := 47) (L2 := [(9, 0), (0, v1), (0, v2), (0, v3), (1, v4), (8, 0)]) (S2 := [(0, cmpL v4 1)]) (h2 := h) (by decide +kernel) rfl trivial ?_
    obtain ⟨ha, hb⟩ := bite hx
    clear hx
    refine Ev.br (i := .ifCond .eq 19) (len := 3) (a := 66) (b := 50) (by decide +kernel) rfl cmpL_eq (fun hc => ?_) (fun hc => ?_)
    · have hx := ha hc
      clear ha hb hc
      refine Ev.blk (is := [.iload_n 3]) (pc2 := 67) (L2 := [(9, 0), (0, v1), (0, v2), (0, v3), (1, v4), (8, 0)]) (S2 := [(0, v3)]) (h2 := h) (by decide +kernel) rfl trivial ?_
      cases hx
      exact Ev.ret (i := .ireturn) (len := 1) (by decide +kernel) rfl (finOf (t := some .int) rfl (trivial))
    · have hx := hb hc
      clear ha hb hc
      obtain ⟨u1, hg, he, hx⟩ := bgd hx
      refine Ev.blk (is := [.lload 4, .iload_n 1, .i2l, .lmul, .iload_n 2, .i2l, .lrem]) (pc2 := 58) (L2 := [(9, 0), (0, v1), (0, v2), (0, v3), (1, v4), (8, 0)]) (S2 := [(1, u1)]) (h2 := h) (by decide +kernel) (by subst he; rfl) (by exact hg) ?_
      clear hg he
      refine Ev.blk (is := [.lstore 4, .iinc 3 1]) (pc2 := 63) (L2 := [(9, 0), (0, v1), (0, v2), (0, w32 (v3 + 1)), (1, u1), (8, 0)]) (S2 := []) (h2 := h) (by decide +kernel) rfl trivial ?_
      refine Ev.jp (i := .goto (-20)) (len := 3) (pc2 := 43) (by decide +kernel) rfl ?_
      exact ih v1 v2 (w32 (v3 + 1)) u1 h _ hx
theorem x_R_order {sc : AS} {d : Nat} (hd : 2 ≤ d) {v0 : Int} {v1 : Int} {v2 : Int} {h : AH} {r : Int} (hx : R_order v0 v1 v2 = some r) : Runs sc d 260 [(2, v0), (0, v1), (0, v2)] h (some (0, r)) h := by
  obtain ⟨d, rfl⟩ : ∃ e, d = e + 1 := ⟨d - 1, by omega⟩
  have hd : 1 ≤ d := by omega
  unfold R_order at hx
  refine ⟨⟨aM_260, rfl, Nat.le_of_ble_eq_true rfl⟩, ?_⟩
  show Ev sc d 260 0 [(2, v0), (0, v1), (0, v2), (9, 0), (9, 0), (9, 0)] [] h (some (0, r)) h
  refine Ev.blk (is := [.iload_n 1]) (pc2 := 1) (L2 := [(2, v0), (0, v1), (0, v2), (9, 0), (9, 0), (9, 0)]) (S2 := [(0, v1)]) (h2 := h) (by decide +kernel) rfl trivial ?_
  obtain ⟨ha, hb⟩ := bite hx
  clear hx
  refine Ev.br (i := .ifCond .lt 17) (len := 3) (a := 18) (b := 4) (by decide +kernel) rfl Iff.rfl (fun hc => ?_) (fun hc => ?_)
  · have hx := ha hc
    clear ha hb hc
    refine Ev.blk (is := [.iconst (-1)]) (pc2 := 19) (L2 := [(2, v0), (0, v1), (0, v2), (9, 0), (9, 0), (9, 0)]) (S2 := [(0, (-1))]) (h2 := h) (by decide +kernel) rfl trivial ?_
    cases hx
    exact Ev.ret (i := .ireturn) (len := 1) (by decide +kernel) rfl (finOf (t := some .int) rfl (trivial))
  · have hx := hb hc
    clear ha hb hc
    refine Ev.blk (is := [.iload_n 2, .i2l, .jsr_w 2, .jsr_w 1000000]) (pc2 := 12) (L2 := [(2, v0), (0, v1), (0, v2), (9, 0), (9, 0), (9, 0)]) (S2 := [(1, 1000000), (1, 2), (1, v2)]) (h2 := h) (by decide +kernel) rfl trivial ?_
    obtain ⟨u1, hc, hx⟩ := bca hx
    refine Ev.call (args := [(1, v2), (1, 2), (1, 1000000)]) (S2 := []) (r1 := (some (0, u1))) (h1 := h) (i := .invokestatic 162) (by decide +kernel) rfl rfl (Nat.le_of_ble_eq_true rfl) (Or.inl rfl) (x_R_in (by omega) hc) ?_
    obtain ⟨ha, hb⟩ := bite hx
    clear hx
    refine Ev.br (i := .ifCond .ne 5) (len := 3) (a := 18) (b := 20) (by decide +kernel) rfl Iff.rfl (fun hc => ?_) (fun hc => ?_)
    · have hx := ha hc
      clear ha hb hc
      refine Ev.blk (is := [.iconst (-1)]) (pc2 := 19) (L2 := [(2, v0), (0, v1), (0, v2), (9, 0), (9, 0), (9, 0)]) (S2 := [(0, (-1))]) (h2 := h) (by decide +kernel) rfl trivial ?_
      cases hx
      exact Ev.ret (i := .ireturn) (len := 1) (by decide +kernel) rfl (finOf (t := some .int) rfl (trivial))
    · have hx := hb hc
      clear ha hb hc
      refine Ev.blk (is := [.iload_n 1, .i2l, .iload_n 2, .i2l]) (pc2 := 24) (L2 := [(2, v0), (0, v1), (0, v2), (9, 0), (9, 0), (9, 0)]) (S2 := [(1, v2), (1, v1)]) (h2 := h) (by decide +kernel) rfl trivial ?_
      obtain ⟨u2, hc, hx⟩ := bca hx
      refine Ev.call (args := [(1, v1), (1, v2)]) (S2 := []) (r1 := (some (1, u2))) (h1 := h) (i := .invokestatic 176) (by decide +kernel) rfl rfl (Nat.le_of_ble_eq_true rfl) (Or.inl rfl) (x_R_common (by omega) hc) ?_
      refine Ev.blk (is := [.lconst 1, .lcmp]) (pc2 := 29) (L2 := [(2, v0), (0, v1), (0, v2), (9, 0), (9, 0), (9, 0)]) (S2 := [(0, cmpL u2 1)]) (h2 := h) (by decide +kernel) rfl trivial ?_
      obtain ⟨ha, hb⟩ := bite hx
      clear hx
      refine Ev.br (i := .ifCond .eq 6) (len := 3) (a := 35) (b := 32) (by decide +kernel) rfl cmpL_eq (fun hc => ?_) (fun hc => ?_)
      · have hx := ha hc
        clear ha hb hc
        obtain ⟨u3, hg, he, hx⟩ := bgd hx
        refine Ev.blk (is := [.iconst 1, .istore_n 3, .iload_n 1, .iload_n 2, .irem]) (pc2 := 40) (L2 := [(2, v0), (0, v1), (0, v2), (0, 1), (9, 0), (9, 0)]) (S2 := [(0, u3)]) (h2 := h) (by decide +kernel) (by subst he; rfl) (by exact hg) ?_
        clear hg he
        refine Ev.blk (is := [.i2l, .lstore 4]) (pc2 := 43) (L2 := [(2, v0), (0, v1), (0, v2), (0, 1), (1, u3), (8, 0)]) (S2 := []) (h2 := h) (by decide +kernel) rfl trivial ?_
        refine Ev.wk (L2 := [(9, 0), (0, v1), (0, v2), (0, 1), (1, u3), (8, 0)]) (wkL_of ⟨Or.inr rfl, ⟨Or.inl rfl, ⟨Or.inl rfl, ⟨Or.inl rfl, ⟨Or.inl rfl, ⟨Or.inl rfl, trivial⟩⟩⟩⟩⟩⟩) ?_
        exact y_R_order_43 hd FU v1 v2 1 u3 h _ hx
      · have hx := hb hc
        clear ha hb hc
        refine Ev.blk (is := [.sipush (-2)]) (pc2 := 34) (L2 := [(2, v0), (0, v1), (0, v2), (9, 0), (9, 0), (9, 0)]) (S2 := [(0, (-2))]) (h2 := h) (by decide +kernel) rfl trivial ?_
        cases hx
        exact Ev.ret (i := .ireturn) (len := 1) (by decide +kernel) rfl (finOf (t := some .int) rfl (trivial))
theorem x_R_jacobi {sc : AS} {d : Nat} (hd : 2 ≤ d) {v0 : Int} {v1 : Int} {v2 : Int} {h : AH} {r : Int} (hx : R_jacobi v0 v1 v2 = some r) : Runs sc d 261 [(2, v0), (0, v1), (0, v2)] h (some (0, r)) h := by
  obtain ⟨d, rfl⟩ : ∃ e, d = e + 1 := ⟨d - 1, by omega⟩
  have hd : 1 ≤ d := by omega
  unfold R_jacobi at hx
  refine ⟨⟨aM_261, rfl, Nat.le_of_ble_eq_true rfl⟩, ?_⟩
  show Ev sc d 261 0 [(2, v0), (0, v1), (0, v2)] [] h (some (0, r)) h
  refine Ev.blk (is := [.iload_n 2, .iconst 1]) (pc2 := 2) (L2 := [(2, v0), (0, v1), (0, v2)]) (S2 := [(0, 1), (0, v2)]) (h2 := h) (by decide +kernel) rfl trivial ?_
  obtain ⟨ha, hb⟩ := bite hx
  clear hx
  refine Ev.br (i := .if_icmp .lt 9) (len := 3) (a := 11) (b := 5) (by decide +kernel) rfl Iff.rfl (fun hc => ?_) (fun hc => ?_)
  · have hx := ha hc
    clear ha hb hc
    refine Ev.blk (is := [.sipush (-2)]) (pc2 := 13) (L2 := [(2, v0), (0, v1), (0, v2)]) (S2 := [(0, (-2))]) (h2 := h) (by decide +kernel) rfl trivial ?_
    refine Ev.jp (i := .goto 10) (len := 3) (pc2 := 23) (by decide +kernel) rfl ?_
    cases hx
    exact Ev.ret (i := .ireturn) (len := 1) (by decide +kernel) rfl (finOf (t := some .int) rfl (trivial))
  · have hx := hb hc
    clear ha hb hc
    obtain ⟨u1, hg, he, hx⟩ := bgd hx
    refine Ev.blk (is := [.iload_n 2, .iconst 2, .irem]) (pc2 := 8) (L2 := [(2, v0), (0, v1), (0, v2)]) (S2 := [(0, u1)]) (h2 := h) (by decide +kernel) (by subst he; rfl) (by exact hg) ?_
    clear hg he
    obtain ⟨ha, hb⟩ := bite hx
    clear hx
    refine Ev.br (i := .ifCond .ne 8) (len := 3) (a := 11) (b := 16) (by decide +kernel) rfl Iff.rfl (fun hc => ?_) (fun hc => ?_)
    · have hx := ha hc
      clear ha hb hc
      refine Ev.blk (is := [.sipush (-2)]) (pc2 := 13) (L2 := [(2, v0), (0, v1), (0, v2)]) (S2 := [(0, (-2))]) (h2 := h) (by decide +kernel) rfl trivial ?_
      refine Ev.jp (i := .goto 10) (len := 3) (pc2 := 23) (by decide +kernel) rfl ?_
      cases hx
      exact Ev.ret (i := .ireturn) (len := 1) (by decide +kernel) rfl (finOf (t := some .int) rfl (trivial))
    · have hx := hb hc
      clear ha hb hc
      refine Ev.blk (is := [.iload_n 1, .i2l, .iload_n 2, .i2l]) (pc2 := 20) (L2 := [(2, v0), (0, v1), (0, v2)]) (S2 := [(1, v2), (1, v1)]) (h2 := h) (by decide +kernel) rfl trivial ?_
      obtain ⟨u2, hc, hx⟩ := bca hx
      refine Ev.call (args := [(1, v1), (1, v2)]) (S2 := []) (r1 := (some (0, u2))) (h1 := h) (i := .invokestatic 182) (by decide +kernel) rfl rfl (Nat.le_of_ble_eq_true rfl) (Or.inl rfl) (x_R_signOf (by omega) hc) ?_
      cases hx
      exact Ev.ret (i := .ireturn) (len := 1) (by decide +kernel) rfl (finOf (t := some .int) rfl (trivial))
theorem x_R_u {sc : AS} {d : Nat} (hd : 3 ≤ d) {v0 : Int} {v1 : Int} {v2 : Int} {v3 : Int} {v4 : Int} {h : AH} {r : (Int × AH)} (hx : R_u v0 v1 v2 v3 v4 h = some r) : Runs sc d 262 [(2, v0), (0, v1), (0, v2), (0, v3), (0, v4)] h (some (0, r.1)) r.2 := by
  obtain ⟨d, rfl⟩ : ∃ e, d = e + 1 := ⟨d - 1, by omega⟩
  have hd : 2 ≤ d := by omega
  unfold R_u at hx
  refine ⟨⟨aM_262, rfl, Nat.le_of_ble_eq_true rfl⟩, ?_⟩
  show Ev sc d 262 0 [(2, v0), (0, v1), (0, v2), (0, v3), (0, v4)] [] h (some (0, r.1)) r.2
  refine Ev.blk (is := [.iload_n 1, .i2l, .lconst 1, .jsr_w 99]) (pc2 := 6) (L2 := [(2, v0), (0, v1), (0, v2), (0, v3), (0, v4)]) (S2 := [(1, 99), (1, 1), (1, v1)]) (h2 := h) (by decide +kernel) rfl trivial ?_
  obtain ⟨u1, hc, hx⟩ := bca hx
  refine Ev.call (args := [(1, v1), (1, 1), (1, 99)]) (S2 := []) (r1 := (some (0, u1))) (h1 := h) (i := .invokestatic 162) (by decide +kernel) rfl rfl (Nat.le_of_ble_eq_true rfl) (Or.inl rfl) (x_R_in (by omega) hc) ?_
  obtain ⟨ha, hb⟩ := bite hx
  clear hx
  refine Ev.br (i := .ifCond .eq 32) (len := 3) (a := 41) (b := 12) (by decide +kernel) rfl Iff.rfl (fun hc => ?_) (fun hc => ?_)
  · have hx := ha hc
    clear ha hb hc
    refine Ev.blk (is := [.iconst (-1)]) (pc2 := 42) (L2 := [(2, v0), (0, v1), (0, v2), (0, v3), (0, v4)]) (S2 := [(0, (-1))]) (h2 := h) (by decide +kernel) rfl trivial ?_
    cases hx
    exact Ev.ret (i := .ireturn) (len := 1) (by decide +kernel) rfl (finOf (t := some .int) rfl (trivial))
  · have hx := hb hc
    clear ha hb hc
    refine Ev.blk (is := [.iload_n 2, .i2l, .lconst 1, .jsr_w 99]) (pc2 := 18) (L2 := [(2, v0), (0, v1), (0, v2), (0, v3), (0, v4)]) (S2 := [(1, 99), (1, 1), (1, v2)]) (h2 := h) (by decide +kernel) rfl trivial ?_
    obtain ⟨u2, hc, hx⟩ := bca hx
    refine Ev.call (args := [(1, v2), (1, 1), (1, 99)]) (S2 := []) (r1 := (some (0, u2))) (h1 := h) (i := .invokestatic 162) (by decide +kernel) rfl rfl (Nat.le_of_ble_eq_true rfl) (Or.inl rfl) (x_R_in (by omega) hc) ?_
    obtain ⟨ha, hb⟩ := bite hx
    clear hx
    refine Ev.br (i := .ifCond .eq 20) (len := 3) (a := 41) (b := 24) (by decide +kernel) rfl Iff.rfl (fun hc => ?_) (fun hc => ?_)
    · have hx := ha hc
      clear ha hb hc
      refine Ev.blk (is := [.iconst (-1)]) (pc2 := 42) (L2 := [(2, v0), (0, v1), (0, v2), (0, v3), (0, v4)]) (S2 := [(0, (-1))]) (h2 := h) (by decide +kernel) rfl trivial ?_
      cases hx
      exact Ev.ret (i := .ireturn) (len := 1) (by decide +kernel) rfl (finOf (t := some .int) rfl (trivial))
    · have hx := hb hc
      clear ha hb hc
      refine Ev.blk (is := [.iload_n 3]) (pc2 := 25) (L2 := [(2, v0), (0, v1), (0, v2), (0, v3), (0, v4)]) (S2 := [(0, v3)]) (h2 := h) (by decide +kernel) rfl trivial ?_
      obtain ⟨ha, hb⟩ := bite hx
      clear hx
      refine Ev.br (i := .ifCond .lt 16) (len := 3) (a := 41) (b := 28) (by decide +kernel) rfl Iff.rfl (fun hc => ?_) (fun hc => ?_)
      · have hx := ha hc
        clear ha hb hc
        refine Ev.blk (is := [.iconst (-1)]) (pc2 := 42) (L2 := [(2, v0), (0, v1), (0, v2), (0, v3), (0, v4)]) (S2 := [(0, (-1))]) (h2 := h) (by decide +kernel) rfl trivial ?_
        cases hx
        exact Ev.ret (i := .ireturn) (len := 1) (by decide +kernel) rfl (finOf (t := some .int) rfl (trivial))
      · have hx := hb hc
        clear ha hb hc
        refine Ev.blk (is := [.iload 4, .i2l, .lconst 1, .jsr_w 1000000000]) (pc2 := 35) (L2 := [(2, v0), (0, v1), (0, v2), (0, v3), (0, v4)]) (S2 := [(1, 1000000000), (1, 1), (1, v4)]) (h2 := h) (by decide +kernel) rfl trivial ?_
        obtain ⟨u3, hc, hx⟩ := bca hx
        refine Ev.call (args := [(1, v4), (1, 1), (1, 1000000000)]) (S2 := []) (r1 := (some (0, u3))) (h1 := h) (i := .invokestatic 162) (by decide +kernel) rfl rfl (Nat.le_of_ble_eq_true rfl) (Or.inl rfl) (x_R_in (by omega) hc) ?_
        obtain ⟨ha, hb⟩ := bite hx
        clear hx
        refine Ev.br (i := .ifCond .ne 5) (len := 3) (a := 41) (b := 43) (by decide +kernel) rfl Iff.rfl (fun hc => ?_) (fun hc => ?_)
        · have hx := ha hc
          clear ha hb hc
          refine Ev.blk (is := [.iconst (-1)]) (pc2 := 42) (L2 := [(2, v0), (0, v1), (0, v2), (0, v3), (0, v4)]) (S2 := [(0, (-1))]) (h2 := h) (by decide +kernel) rfl trivial ?_
          cases hx
          exact Ev.ret (i := .ireturn) (len := 1) (by decide +kernel) rfl (finOf (t := some .int) rfl (trivial))
        · have hx := hb hc
          clear ha hb hc
          refine Ev.blk (is := [.aload_n 0, .iload_n 1, .i2l, .iload_n 2, .i2l, .iload_n 3, .i2l, .iload 4, .i2l]) (pc2 := 53) (L2 := [(2, v0), (0, v1), (0, v2), (0, v3), (0, v4)]) (S2 := [(1, v4), (1, v3), (1, v2), (1, v1), (2, v0)]) (h2 := h) (by decide +kernel) rfl trivial ?_
          obtain ⟨_, hg, -, hx⟩ := bgd hx
          obtain ⟨u4, hc, hx⟩ := bca hx
          refine Ev.call (args := [(2, v0), (1, v1), (1, v2), (1, v3), (1, v4)]) (S2 := []) (r1 := (some (1, u4.1))) (h1 := u4.2) (i := .invokevirtual 183) (by decide +kernel) rfl rfl (Nat.le_of_ble_eq_true rfl) (Or.inr (Or.inl ⟨rfl, hg, by decide +kernel⟩)) (x_R_sequence (by omega) hc) ?_
          refine Ev.blk (is := [.l2i]) (pc2 := 57) (L2 := [(2, v0), (0, v1), (0, v2), (0, v3), (0, v4)]) (S2 := [(0, w32 u4.1)]) (h2 := u4.2) (by decide +kernel) rfl trivial ?_
          cases hx
          exact Ev.ret (i := .ireturn) (len := 1) (by decide +kernel) rfl (finOf (t := some .int) rfl (trivial))
theorem y_R_units_26 {sc : AS} {d : Nat} (hd : 1 ≤ d) : ∀ (fu : Nat) (v0 : Int) (v2 : Int) (v4 : Int) (h : AH) (r : (Int × AH)), R_units_26 fu v0 v2 v4 h = some r → Ev sc d 263 26 [(2, v0), (9, 0), (1, v2), (8, 0), (0, v4)] [] h (some (0, r.1)) r.2 := by
  intro fu
  induction fu with
  | zero => intro v0 v2 v4 h r hx; unfold R_units_26 at hx; cases hx
  | succ fu ih =>
    intro v0 v2 v4 h r hx
    unfold R_units_26 at hx
    obtain ⟨u1, hg, he, hx⟩ := bgd hx
    refine Ev.blk (is := [.iload 4, .aload_n 0, .getfield 9006]) (pc2 := 32) (L2 := [(2, v0), (9, 0), (1, v2), (8, 0), (0, v4)]) (S2 := [(0, u1), (0, v4)]) (h2 := h) (by decide +kernel) (by subst he; rfl) (by exact hg) ?_
    clear hg he
    obtain ⟨ha, hb⟩ := bite hx
    clear hx
    refine Ev.br (i := .if_icmp .ge 31) (len := 3) (a := 35) (b := 63) (by decide +kernel) rfl Iff.rfl (fun hc => ?_) (fun hc => ?_)
    · have hx := ha hc
      clear ha hb hc
      obtain ⟨u2, hg, he, hx⟩ := bgd hx
      refine Ev.blk (is := [.lload_n 2, .aload_n 0, .getfield 9204]) (pc2 := 40) (L2 := [(2, v0), (9, 0), (1, v2), (8, 0), (0, v4)]) (S2 := [(2, u2), (1, v2)]) (h2 := h) (by decide +kernel) (by subst he; rfl) (by exact hg) ?_
      clear hg he
      obtain ⟨u3, hg, he, hx⟩ := bgd hx
      refine Ev.blk (is := [.iload 4, .iaload]) (pc2 := 43) (L2 := [(2, v0), (9, 0), (1, v2), (8, 0), (0, v4)]) (S2 := [(0, u3), (1, v2)]) (h2 := h) (by decide +kernel) (by subst he; rfl) (by exact hg) ?_
      clear hg he
      obtain ⟨u4, hg, he, hx⟩ := bgd hx
      refine Ev.blk (is := [.i2l, .ldiv]) (pc2 := 45) (L2 := [(2, v0), (9, 0), (1, v2), (8, 0), (0, v4)]) (S2 := [(1, u4)]) (h2 := h) (by decide +kernel) (by subst he; rfl) (by exact hg) ?_
      clear hg he
      obtain ⟨u5, hg, he, hx⟩ := bgd hx
      refine Ev.blk (is := [.aload_n 0, .getfield 9204]) (pc2 := 49) (L2 := [(2, v0), (9, 0), (1, v2), (8, 0), (0, v4)]) (S2 := [(2, u5), (1, u4)]) (h2 := h) (by decide +kernel) (by subst he; rfl) (by exact hg) ?_
      clear hg he
      obtain ⟨u6, hg, he, hx⟩ := bgd hx
      refine Ev.blk (is := [.iload 4, .iaload]) (pc2 := 52) (L2 := [(2, v0), (9, 0), (1, v2), (8, 0), (0, v4)]) (S2 := [(0, u6), (1, u4)]) (h2 := h) (by decide +kernel) (by subst he; rfl) (by exact hg) ?_
      clear hg he
      refine Ev.blk (is := [.iconst 1, .isub, .i2l, .lmul, .lstore_n 2, .iinc 4 1]) (pc2 := 60) (L2 := [(2, v0), (9, 0), (1, w64 (u4 * (w32 (u6 - 1)))), (8, 0), (0, w32 (v4 + 1))]) (S2 := []) (h2 := h) (by decide +kernel) rfl trivial ?_
      refine Ev.jp (i := .goto (-34)) (len := 3) (pc2 := 26) (by decide +kernel) rfl ?_
      exact ih v0 (w64 (u4 * (w32 (u6 - 1)))) (w32 (v4 + 1)) h _ hx
    · have hx := hb hc
      clear ha hb hc
      refine Ev.blk (is := [.lload_n 2, .l2i]) (pc2 := 65) (L2 := [(2, v0), (9, 0), (1, v2), (8, 0), (0, v4)]) (S2 := [(0, w32 v2)]) (h2 := h) (by decide +kernel) rfl trivial ?_
      cases hx
      exact Ev.ret (i := .ireturn) (len := 1) (by decide +kernel) rfl (finOf (t := some .int) rfl (trivial))
theorem x_R_units {sc : AS} {d : Nat} (hd : 2 ≤ d) {v0 : Int} {v1 : Int} {h : AH} {r : (Int × AH)} (hx : R_units v0 v1 h = some r) : Runs sc d 263 [(2, v0), (0, v1)] h (some (0, r.1)) r.2 := by
  obtain ⟨d, rfl⟩ : ∃ e, d = e + 1 := ⟨d - 1, by omega⟩
  have hd : 1 ≤ d := by omega
  unfold R_units at hx
  refine ⟨⟨aM_263, rfl, Nat.le_of_ble_eq_true rfl⟩, ?_⟩
  show Ev sc d 263 0 [(2, v0), (0, v1), (9, 0), (9, 0), (9, 0)] [] h (some (0, r.1)) r.2
  refine Ev.blk (is := [.iload_n 1, .i2l, .lconst 1, .jsr_w 1000000000]) (pc2 := 6) (L2 := [(2, v0), (0, v1), (9, 0), (9, 0), (9, 0)]) (S2 := [(1, 1000000000), (1, 1), (1, v1)]) (h2 := h) (by decide +kernel) rfl trivial ?_
  obtain ⟨u1, hc, hx⟩ := bca hx
  refine Ev.call (args := [(1, v1), (1, 1), (1, 1000000000)]) (S2 := []) (r1 := (some (0, u1))) (h1 := h) (i := .invokestatic 162) (by decide +kernel) rfl rfl (Nat.le_of_ble_eq_true rfl) (Or.inl rfl) (x_R_in (by omega) hc) ?_
  obtain ⟨ha, hb⟩ := bite hx
  clear hx
  refine Ev.br (i := .ifCond .ne 5) (len := 3) (a := 12) (b := 14) (by decide +kernel) rfl Iff.rfl (fun hc => ?_) (fun hc => ?_)
  · have hx := ha hc
    clear ha hb hc
    refine Ev.blk (is := [.iconst (-1)]) (pc2 := 13) (L2 := [(2, v0), (0, v1), (9, 0), (9, 0), (9, 0)]) (S2 := [(0, (-1))]) (h2 := h) (by decide +kernel) rfl trivial ?_
    cases hx
    exact Ev.ret (i := .ireturn) (len := 1) (by decide +kernel) rfl (finOf (t := some .int) rfl (trivial))
  · have hx := hb hc
    clear ha hb hc
    refine Ev.blk (is := [.aload_n 0, .iload_n 1, .i2l]) (pc2 := 17) (L2 := [(2, v0), (0, v1), (9, 0), (9, 0), (9, 0)]) (S2 := [(1, v1), (2, v0)]) (h2 := h) (by decide +kernel) rfl trivial ?_
    obtain ⟨_, hg, -, hx⟩ := bgd hx
    obtain ⟨h3, hc, hx⟩ := bca hx
    refine Ev.call (args := [(2, v0), (1, v1)]) (S2 := []) (r1 := none) (h1 := h3) (i := .invokevirtual 188) (by decide +kernel) rfl rfl (Nat.le_of_ble_eq_true rfl) (Or.inr (Or.inl ⟨rfl, hg, by decide +kernel⟩)) (x_R_laysFactors (by omega) hc) ?_
    refine Ev.blk (is := [.iload_n 1, .i2l, .lstore_n 2, .iconst 0, .istore 4]) (pc2 := 26) (L2 := [(2, v0), (0, v1), (1, v1), (8, 0), (0, 0)]) (S2 := []) (h2 := h3) (by decide +kernel) rfl trivial ?_
    refine Ev.wk (L2 := [(2, v0), (9, 0), (1, v1), (8, 0), (0, 0)]) (wkL_of ⟨Or.inl rfl, ⟨Or.inr rfl, ⟨Or.inl rfl, ⟨Or.inl rfl, ⟨Or.inl rfl, trivial⟩⟩⟩⟩⟩) ?_
    exact y_R_units_26 hd FU v0 v1 0 h3 _ hx
theorem y_R_count_210 {sc : AS} {d : Nat} (hd : 5 ≤ d) : ∀ (fu : Nat) (v0 : Int) (v2 : Int) (v3 : Int) (h : AH) (r : (Int × AH)), R_count_210 fu v0 v2 v3 h = some r → Ev sc d 264 210 [(2, v0), (9, 0), (0, v2), (0, v3)] [] h (some (0, r.1)) r.2 := by
  intro fu
  induction fu with
  | zero => intro v0 v2 v3 h r hx; unfold R_count_210 at hx; cases hx
  | succ fu ih =>
    intro v0 v2 v3 h r hx
    unfold R_count_210 at hx
    obtain ⟨u1, hg, he, hx⟩ := bgd hx
    refine Ev.blk (is := [.iload_n 3, .aload_n 0, .getfield 9007]) (pc2 := 215) (L2 := [(2, v0), (9, 0), (0, v2), (0, v3)]) (S2 := [(0, u1), (0, v3)]) (h2 := h) (by decide +kernel) (by subst he; rfl) (by exact hg) ?_
    clear hg he
    obtain ⟨ha, hb⟩ := bite hx
    clear hx
    refine Ev.br (i := .if_icmp .ge 26) (len := 3) (a := 218) (b := 241) (by decide +kernel) rfl Iff.rfl (fun hc => ?_) (fun hc => ?_)
    · have hx := ha hc
      clear ha hb hc
      obtain ⟨u2, hg, he, hx⟩ := bgd hx
      refine Ev.blk (is := [.aload_n 0, .getfield 9219]) (pc2 := 222) (L2 := [(2, v0), (9, 0), (0, v2), (0, v3)]) (S2 := [(2, u2)]) (h2 := h) (by decide +kernel) (by subst he; rfl) (by exact hg) ?_
      clear hg he
      obtain ⟨u3, hg, he, hx⟩ := bgd hx
      refine Ev.blk (is := [.iload_n 3, .baload]) (pc2 := 224) (L2 := [(2, v0), (9, 0), (0, v2), (0, v3)]) (S2 := [(0, u3)]) (h2 := h) (by decide +kernel) (by subst he; rfl) (by exact hg) ?_
      clear hg he
      obtain ⟨ha, hb⟩ := bite hx
      clear hx
      refine Ev.br (i := .ifCond .eq 11) (len := 3) (a := 235) (b := 227) (by decide +kernel) rfl Iff.rfl (fun hc => ?_) (fun hc => ?_)
      · have hx := ha hc
        clear ha hb hc
        refine Ev.blk (is := [.iinc 3 1]) (pc2 := 238) (L2 := [(2, v0), (9, 0), (0, v2), (0, w32 (v3 + 1))]) (S2 := []) (h2 := h) (by decide +kernel) rfl trivial ?_
        refine Ev.jp (i := .goto (-28)) (len := 3) (pc2 := 210) (by decide +kernel) rfl ?_
        exact ih v0 v2 (w32 (v3 + 1)) h _ hx
      · have hx := hb hc
        clear ha hb hc
        refine Ev.blk (is := [.iload_n 2, .aload_n 0, .iload_n 3]) (pc2 := 230) (L2 := [(2, v0), (9, 0), (0, v2), (0, v3)]) (S2 := [(0, v3), (2, v0), (0, v2)]) (h2 := h) (by decide +kernel) rfl trivial ?_
        obtain ⟨_, hg, -, hx⟩ := bgd hx
        obtain ⟨u4, hc, hx⟩ := bca hx
        refine Ev.call (args := [(2, v0), (0, v3)]) (S2 := [(0, v2)]) (r1 := (some (0, u4))) (h1 := h) (i := .invokevirtual 242) (by decide +kernel) rfl rfl (Nat.le_of_ble_eq_true rfl) (Or.inr (Or.inl ⟨rfl, hg, by decide +kernel⟩)) (x_R_costsOf (by omega) hc) ?_
        refine Ev.blk (is := [.iadd, .istore_n 2, .iinc 3 1]) (pc2 := 238) (L2 := [(2, v0), (9, 0), (0, w32 (v2 + u4)), (0, w32 (v3 + 1))]) (S2 := []) (h2 := h) (by decide +kernel) rfl trivial ?_
        refine Ev.jp (i := .goto (-28)) (len := 3) (pc2 := 210) (by decide +kernel) rfl ?_
        exact ih v0 (w32 (v2 + u4)) (w32 (v3 + 1)) h _ hx
    · have hx := hb hc
      clear ha hb hc
      refine Ev.blk (is := [.iload_n 2]) (pc2 := 242) (L2 := [(2, v0), (9, 0), (0, v2), (0, v3)]) (S2 := [(0, v2)]) (h2 := h) (by decide +kernel) rfl trivial ?_
      cases hx
      exact Ev.ret (i := .ireturn) (len := 1) (by decide +kernel) rfl (finOf (t := some .int) rfl (trivial))
theorem y_R_count_168 {sc : AS} {d : Nat} (hd : 5 ≤ d) : ∀ (fu : Nat) (v0 : Int) (v2 : Int) (v3 : Int) (h : AH) (r : (Int × AH)), R_count_168 fu v0 v2 v3 h = some r → Ev sc d 264 168 [(2, v0), (9, 0), (0, v2), (0, v3)] [] h (some (0, r.1)) r.2 := by
  intro fu
  induction fu with
  | zero => intro v0 v2 v3 h r hx; unfold R_count_168 at hx; cases hx
  | succ fu ih =>
    intro v0 v2 v3 h r hx
    unfold R_count_168 at hx
    obtain ⟨u1, hg, he, hx⟩ := bgd hx
    refine Ev.blk (is := [.iload_n 3, .aload_n 0, .getfield 9007]) (pc2 := 173) (L2 := [(2, v0), (9, 0), (0, v2), (0, v3)]) (S2 := [(0, u1), (0, v3)]) (h2 := h) (by decide +kernel) (by subst he; rfl) (by exact hg) ?_
    clear hg he
    obtain ⟨ha, hb⟩ := bite hx
    clear hx
    refine Ev.br (i := .if_icmp .ge 33) (len := 3) (a := 176) (b := 206) (by decide +kernel) rfl Iff.rfl (fun hc => ?_) (fun hc => ?_)
    · have hx := ha hc
      clear ha hb hc
      obtain ⟨u2, hg, he, hx⟩ := bgd hx
      refine Ev.blk (is := [.aload_n 0, .getfield 9219]) (pc2 := 180) (L2 := [(2, v0), (9, 0), (0, v2), (0, v3)]) (S2 := [(2, u2)]) (h2 := h) (by decide +kernel) (by subst he; rfl) (by exact hg) ?_
      clear hg he
      obtain ⟨u3, hg, he, hx⟩ := bgd hx
      refine Ev.blk (is := [.iload_n 3, .baload]) (pc2 := 182) (L2 := [(2, v0), (9, 0), (0, v2), (0, v3)]) (S2 := [(0, u3)]) (h2 := h) (by decide +kernel) (by subst he; rfl) (by exact hg) ?_
      clear hg he
      obtain ⟨ha, hb⟩ := bite hx
      clear hx
      refine Ev.br (i := .ifCond .eq 18) (len := 3) (a := 200) (b := 185) (by decide +kernel) rfl Iff.rfl (fun hc => ?_) (fun hc => ?_)
      · have hx := ha hc
        clear ha hb hc
        refine Ev.blk (is := [.iinc 3 1]) (pc2 := 203) (L2 := [(2, v0), (9, 0), (0, v2), (0, w32 (v3 + 1))]) (S2 := []) (h2 := h) (by decide +kernel) rfl trivial ?_
        refine Ev.jp (i := .goto (-35)) (len := 3) (pc2 := 168) (by decide +kernel) rfl ?_
        exact ih v0 v2 (w32 (v3 + 1)) h _ hx
      · have hx := hb hc
        clear ha hb hc
        refine Ev.blk (is := [.aload_n 0, .iload_n 3]) (pc2 := 187) (L2 := [(2, v0), (9, 0), (0, v2), (0, v3)]) (S2 := [(0, v3), (2, v0)]) (h2 := h) (by decide +kernel) rfl trivial ?_
        obtain ⟨_, hg, -, hx⟩ := bgd hx
        obtain ⟨u4, hc, hx⟩ := bca hx
        refine Ev.call (args := [(2, v0), (0, v3)]) (S2 := []) (r1 := (some (0, u4.1))) (h1 := u4.2) (i := .invokevirtual 239) (by decide +kernel) rfl rfl (Nat.le_of_ble_eq_true rfl) (Or.inr (Or.inl ⟨rfl, hg, by decide +kernel⟩)) (x_R_deepOf (by omega) hc) ?_
        refine Ev.blk (is := [.iload_n 2]) (pc2 := 191) (L2 := [(2, v0), (9, 0), (0, v2), (0, v3)]) (S2 := [(0, v2), (0, u4.1)]) (h2 := u4.2) (by decide +kernel) rfl trivial ?_
        obtain ⟨ha, hb⟩ := bite hx
        clear hx
        refine Ev.br (i := .if_icmp .le 9) (len := 3) (a := 194) (b := 200) (by decide +kernel) rfl Iff.rfl (fun hc => ?_) (fun hc => ?_)
        · have hx := ha hc
          clear ha hb hc
          refine Ev.blk (is := [.aload_n 0, .iload_n 3]) (pc2 := 196) (L2 := [(2, v0), (9, 0), (0, v2), (0, v3)]) (S2 := [(0, v3), (2, v0)]) (h2 := u4.2) (by decide +kernel) rfl trivial ?_
          obtain ⟨_, hg, -, hx⟩ := bgd hx
          obtain ⟨u5, hc, hx⟩ := bca hx
          refine Ev.call (args := [(2, v0), (0, v3)]) (S2 := []) (r1 := (some (0, u5.1))) (h1 := u5.2) (i := .invokevirtual 239) (by decide +kernel) rfl rfl (Nat.le_of_ble_eq_true rfl) (Or.inr (Or.inl ⟨rfl, hg, by decide +kernel⟩)) (x_R_deepOf (by omega) hc) ?_
          refine Ev.blk (is := [.istore_n 2, .iinc 3 1]) (pc2 := 203) (L2 := [(2, v0), (9, 0), (0, u5.1), (0, w32 (v3 + 1))]) (S2 := []) (h2 := u5.2) (by decide +kernel) rfl trivial ?_
          refine Ev.jp (i := .goto (-35)) (len := 3) (pc2 := 168) (by decide +kernel) rfl ?_
          exact ih v0 u5.1 (w32 (v3 + 1)) u5.2 _ hx
        · have hx := hb hc
          clear ha hb hc
          refine Ev.blk (is := [.iinc 3 1]) (pc2 := 203) (L2 := [(2, v0), (9, 0), (0, v2), (0, w32 (v3 + 1))]) (S2 := []) (h2 := u4.2) (by decide +kernel) rfl trivial ?_
          refine Ev.jp (i := .goto (-35)) (len := 3) (pc2 := 168) (by decide +kernel) rfl ?_
          exact ih v0 v2 (w32 (v3 + 1)) u4.2 _ hx
    · have hx := hb hc
      clear ha hb hc
      refine Ev.blk (is := [.iload_n 2]) (pc2 := 207) (L2 := [(2, v0), (9, 0), (0, v2), (0, v3)]) (S2 := [(0, v2)]) (h2 := h) (by decide +kernel) rfl trivial ?_
      cases hx
      exact Ev.ret (i := .ireturn) (len := 1) (by decide +kernel) rfl (finOf (t := some .int) rfl (trivial))
theorem y_R_count_124 {sc : AS} {d : Nat} (hd : 5 ≤ d) : ∀ (fu : Nat) (v0 : Int) (v2 : Int) (v3 : Int) (h : AH) (r : (Int × AH)), R_count_124 fu v0 v2 v3 h = some r → Ev sc d 264 124 [(2, v0), (9, 0), (0, v2), (0, v3)] [] h (some (0, r.1)) r.2 := by
  intro fu
  induction fu with
  | zero => intro v0 v2 v3 h r hx; unfold R_count_124 at hx; cases hx
  | succ fu ih =>
    intro v0 v2 v3 h r hx
    unfold R_count_124 at hx
    obtain ⟨u1, hg, he, hx⟩ := bgd hx
    refine Ev.blk (is := [.iload_n 3, .aload_n 0, .getfield 9007]) (pc2 := 129) (L2 := [(2, v0), (9, 0), (0, v2), (0, v3)]) (S2 := [(0, u1), (0, v3)]) (h2 := h) (by decide +kernel) (by subst he; rfl) (by exact hg) ?_
    clear hg he
    obtain ⟨ha, hb⟩ := bite hx
    clear hx
    refine Ev.br (i := .if_icmp .ge 35) (len := 3) (a := 132) (b := 164) (by decide +kernel) rfl Iff.rfl (fun hc => ?_) (fun hc => ?_)
    · have hx := ha hc
      clear ha hb hc
      obtain ⟨u2, hg, he, hx⟩ := bgd hx
      refine Ev.blk (is := [.aload_n 0, .getfield 9219]) (pc2 := 136) (L2 := [(2, v0), (9, 0), (0, v2), (0, v3)]) (S2 := [(2, u2)]) (h2 := h) (by decide +kernel) (by subst he; rfl) (by exact hg) ?_
      clear hg he
      obtain ⟨u3, hg, he, hx⟩ := bgd hx
      refine Ev.blk (is := [.iload_n 3, .baload]) (pc2 := 138) (L2 := [(2, v0), (9, 0), (0, v2), (0, v3)]) (S2 := [(0, u3)]) (h2 := h) (by decide +kernel) (by subst he; rfl) (by exact hg) ?_
      clear hg he
      obtain ⟨ha, hb⟩ := bite hx
      clear hx
      refine Ev.br (i := .ifCond .eq 20) (len := 3) (a := 158) (b := 141) (by decide +kernel) rfl Iff.rfl (fun hc => ?_) (fun hc => ?_)
      · have hx := ha hc
        clear ha hb hc
        refine Ev.blk (is := [.iinc 3 1]) (pc2 := 161) (L2 := [(2, v0), (9, 0), (0, v2), (0, w32 (v3 + 1))]) (S2 := []) (h2 := h) (by decide +kernel) rfl trivial ?_
        refine Ev.jp (i := .goto (-37)) (len := 3) (pc2 := 124) (by decide +kernel) rfl ?_
        exact ih v0 v2 (w32 (v3 + 1)) h _ hx
      · have hx := hb hc
        clear ha hb hc
        obtain ⟨u4, hg, he, hx⟩ := bgd hx
        refine Ev.blk (is := [.aload_n 0, .getfield 9208]) (pc2 := 145) (L2 := [(2, v0), (9, 0), (0, v2), (0, v3)]) (S2 := [(2, u4)]) (h2 := h) (by decide +kernel) (by subst he; rfl) (by exact hg) ?_
        clear hg he
        obtain ⟨u5, hg, he, hx⟩ := bgd hx
        refine Ev.blk (is := [.iload_n 3, .iaload]) (pc2 := 147) (L2 := [(2, v0), (9, 0), (0, v2), (0, v3)]) (S2 := [(0, u5)]) (h2 := h) (by decide +kernel) (by subst he; rfl) (by exact hg) ?_
        clear hg he
        refine Ev.blk (is := [.iload_n 2]) (pc2 := 148) (L2 := [(2, v0), (9, 0), (0, v2), (0, v3)]) (S2 := [(0, v2), (0, u5)]) (h2 := h) (by decide +kernel) rfl trivial ?_
        obtain ⟨ha, hb⟩ := bite hx
        clear hx
        refine Ev.br (i := .if_icmp .le 10) (len := 3) (a := 151) (b := 158) (by decide +kernel) rfl Iff.rfl (fun hc => ?_) (fun hc => ?_)
        · have hx := ha hc
          clear ha hb hc
          obtain ⟨u6, hg, he, hx⟩ := bgd hx
          refine Ev.blk (is := [.aload_n 0, .getfield 9208]) (pc2 := 155) (L2 := [(2, v0), (9, 0), (0, v2), (0, v3)]) (S2 := [(2, u6)]) (h2 := h) (by decide +kernel) (by subst he; rfl) (by exact hg) ?_
          clear hg he
          obtain ⟨u7, hg, he, hx⟩ := bgd hx
          refine Ev.blk (is := [.iload_n 3, .iaload]) (pc2 := 157) (L2 := [(2, v0), (9, 0), (0, v2), (0, v3)]) (S2 := [(0, u7)]) (h2 := h) (by decide +kernel) (by subst he; rfl) (by exact hg) ?_
          clear hg he
          refine Ev.blk (is := [.istore_n 2, .iinc 3 1]) (pc2 := 161) (L2 := [(2, v0), (9, 0), (0, u7), (0, w32 (v3 + 1))]) (S2 := []) (h2 := h) (by decide +kernel) rfl trivial ?_
          refine Ev.jp (i := .goto (-37)) (len := 3) (pc2 := 124) (by decide +kernel) rfl ?_
          exact ih v0 u7 (w32 (v3 + 1)) h _ hx
        · have hx := hb hc
          clear ha hb hc
          refine Ev.blk (is := [.iinc 3 1]) (pc2 := 161) (L2 := [(2, v0), (9, 0), (0, v2), (0, w32 (v3 + 1))]) (S2 := []) (h2 := h) (by decide +kernel) rfl trivial ?_
          refine Ev.jp (i := .goto (-37)) (len := 3) (pc2 := 124) (by decide +kernel) rfl ?_
          exact ih v0 v2 (w32 (v3 + 1)) h _ hx
    · have hx := hb hc
      clear ha hb hc
      refine Ev.blk (is := [.iload_n 2]) (pc2 := 165) (L2 := [(2, v0), (9, 0), (0, v2), (0, v3)]) (S2 := [(0, v2)]) (h2 := h) (by decide +kernel) rfl trivial ?_
      cases hx
      exact Ev.ret (i := .ireturn) (len := 1) (by decide +kernel) rfl (finOf (t := some .int) rfl (trivial))
theorem y_R_count_85 {sc : AS} {d : Nat} (hd : 5 ≤ d) : ∀ (fu : Nat) (v0 : Int) (v2 : Int) (v3 : Int) (h : AH) (r : (Int × AH)), R_count_85 fu v0 v2 v3 h = some r → Ev sc d 264 85 [(2, v0), (9, 0), (0, v2), (0, v3)] [] h (some (0, r.1)) r.2 := by
  intro fu
  induction fu with
  | zero => intro v0 v2 v3 h r hx; unfold R_count_85 at hx; cases hx
  | succ fu ih =>
    intro v0 v2 v3 h r hx
    unfold R_count_85 at hx
    obtain ⟨u1, hg, he, hx⟩ := bgd hx
    refine Ev.blk (is := [.iload_n 3, .aload_n 0, .getfield 9007]) (pc2 := 90) (L2 := [(2, v0), (9, 0), (0, v2), (0, v3)]) (S2 := [(0, u1), (0, v3)]) (h2 := h) (by decide +kernel) (by subst he; rfl) (by exact hg) ?_
    clear hg he
    obtain ⟨ha, hb⟩ := bite hx
    clear hx
    refine Ev.br (i := .if_icmp .ge 25) (len := 3) (a := 93) (b := 115) (by decide +kernel) rfl Iff.rfl (fun hc => ?_) (fun hc => ?_)
    · have hx := ha hc
      clear ha hb hc
      obtain ⟨u2, hg, he, hx⟩ := bgd hx
      refine Ev.blk (is := [.iload_n 2, .aload_n 0, .getfield 9212]) (pc2 := 98) (L2 := [(2, v0), (9, 0), (0, v2), (0, v3)]) (S2 := [(2, u2), (0, v2)]) (h2 := h) (by decide +kernel) (by subst he; rfl) (by exact hg) ?_
      clear hg he
      obtain ⟨u3, hg, he, hx⟩ := bgd hx
      refine Ev.blk (is := [.iload_n 3, .iaload]) (pc2 := 100) (L2 := [(2, v0), (9, 0), (0, v2), (0, v3)]) (S2 := [(0, u3), (0, v2)]) (h2 := h) (by decide +kernel) (by subst he; rfl) (by exact hg) ?_
      clear hg he
      obtain ⟨u4, hg, he, hx⟩ := bgd hx
      refine Ev.blk (is := [.aload_n 0, .getfield 9213]) (pc2 := 104) (L2 := [(2, v0), (9, 0), (0, v2), (0, v3)]) (S2 := [(2, u4), (0, u3), (0, v2)]) (h2 := h) (by decide +kernel) (by subst he; rfl) (by exact hg) ?_
      clear hg he
      obtain ⟨u5, hg, he, hx⟩ := bgd hx
      refine Ev.blk (is := [.iload_n 3, .iaload]) (pc2 := 106) (L2 := [(2, v0), (9, 0), (0, v2), (0, v3)]) (S2 := [(0, u5), (0, u3), (0, v2)]) (h2 := h) (by decide +kernel) (by subst he; rfl) (by exact hg) ?_
      clear hg he
      refine Ev.blk (is := [.iadd, .iadd, .istore_n 2, .iinc 3 1]) (pc2 := 112) (L2 := [(2, v0), (9, 0), (0, w32 (v2 + (w32 (u3 + u5)))), (0, w32 (v3 + 1))]) (S2 := []) (h2 := h) (by decide +kernel) rfl trivial ?_
      refine Ev.jp (i := .goto (-27)) (len := 3) (pc2 := 85) (by decide +kernel) rfl ?_
      exact ih v0 (w32 (v2 + (w32 (u3 + u5)))) (w32 (v3 + 1)) h _ hx
    · have hx := hb hc
      clear ha hb hc
      refine Ev.blk (is := [.iload_n 2]) (pc2 := 116) (L2 := [(2, v0), (9, 0), (0, v2), (0, v3)]) (S2 := [(0, v2)]) (h2 := h) (by decide +kernel) rfl trivial ?_
      cases hx
      exact Ev.ret (i := .ireturn) (len := 1) (by decide +kernel) rfl (finOf (t := some .int) rfl (trivial))
theorem y_R_count_55 {sc : AS} {d : Nat} (hd : 5 ≤ d) : ∀ (fu : Nat) (v0 : Int) (v2 : Int) (v3 : Int) (h : AH) (r : (Int × AH)), R_count_55 fu v0 v2 v3 h = some r → Ev sc d 264 55 [(2, v0), (9, 0), (0, v2), (0, v3)] [] h (some (0, r.1)) r.2 := by
  intro fu
  induction fu with
  | zero => intro v0 v2 v3 h r hx; unfold R_count_55 at hx; cases hx
  | succ fu ih =>
    intro v0 v2 v3 h r hx
    unfold R_count_55 at hx
    obtain ⟨u1, hg, he, hx⟩ := bgd hx
    refine Ev.blk (is := [.iload_n 3, .aload_n 0, .getfield 9007]) (pc2 := 60) (L2 := [(2, v0), (9, 0), (0, v2), (0, v3)]) (S2 := [(0, u1), (0, v3)]) (h2 := h) (by decide +kernel) (by subst he; rfl) (by exact hg) ?_
    clear hg he
    obtain ⟨ha, hb⟩ := bite hx
    clear hx
    refine Ev.br (i := .if_icmp .ge 21) (len := 3) (a := 63) (b := 81) (by decide +kernel) rfl Iff.rfl (fun hc => ?_) (fun hc => ?_)
    · have hx := ha hc
      clear ha hb hc
      obtain ⟨u2, hg, he, hx⟩ := bgd hx
      refine Ev.blk (is := [.aload_n 0, .getfield 9219]) (pc2 := 67) (L2 := [(2, v0), (9, 0), (0, v2), (0, v3)]) (S2 := [(2, u2)]) (h2 := h) (by decide +kernel) (by subst he; rfl) (by exact hg) ?_
      clear hg he
      obtain ⟨u3, hg, he, hx⟩ := bgd hx
      refine Ev.blk (is := [.iload_n 3, .baload]) (pc2 := 69) (L2 := [(2, v0), (9, 0), (0, v2), (0, v3)]) (S2 := [(0, u3)]) (h2 := h) (by decide +kernel) (by subst he; rfl) (by exact hg) ?_
      clear hg he
      obtain ⟨ha, hb⟩ := bite hx
      clear hx
      refine Ev.br (i := .ifCond .eq 6) (len := 3) (a := 75) (b := 72) (by decide +kernel) rfl Iff.rfl (fun hc => ?_) (fun hc => ?_)
      · have hx := ha hc
        clear ha hb hc
        refine Ev.blk (is := [.iinc 3 1]) (pc2 := 78) (L2 := [(2, v0), (9, 0), (0, v2), (0, w32 (v3 + 1))]) (S2 := []) (h2 := h) (by decide +kernel) rfl trivial ?_
        refine Ev.jp (i := .goto (-23)) (len := 3) (pc2 := 55) (by decide +kernel) rfl ?_
        exact ih v0 v2 (w32 (v3 + 1)) h _ hx
      · have hx := hb hc
        clear ha hb hc
        refine Ev.blk (is := [.iinc 2 1, .iinc 3 1]) (pc2 := 78) (L2 := [(2, v0), (9, 0), (0, w32 (v2 + 1)), (0, w32 (v3 + 1))]) (S2 := []) (h2 := h) (by decide +kernel) rfl trivial ?_
        refine Ev.jp (i := .goto (-23)) (len := 3) (pc2 := 55) (by decide +kernel) rfl ?_
        exact ih v0 (w32 (v2 + 1)) (w32 (v3 + 1)) h _ hx
    · have hx := hb hc
      clear ha hb hc
      refine Ev.blk (is := [.iload_n 2]) (pc2 := 82) (L2 := [(2, v0), (9, 0), (0, v2), (0, v3)]) (S2 := [(0, v2)]) (h2 := h) (by decide +kernel) rfl trivial ?_
      cases hx
      exact Ev.ret (i := .ireturn) (len := 1) (by decide +kernel) rfl (finOf (t := some .int) rfl (trivial))
theorem x_R_count {sc : AS} {d : Nat} (hd : 6 ≤ d) {v0 : Int} {v1 : Int} {h : AH} {r : (Int × AH)} (hx : R_count v0 v1 h = some r) : Runs sc d 264 [(2, v0), (0, v1)] h (some (0, r.1)) r.2 := by
  obtain ⟨d, rfl⟩ : ∃ e, d = e + 1 := ⟨d - 1, by omega⟩
  have hd : 5 ≤ d := by omega
  unfold R_count at hx
  refine ⟨⟨aM_264, rfl, Nat.le_of_ble_eq_true rfl⟩, ?_⟩
  show Ev sc d 264 0 [(2, v0), (0, v1), (9, 0), (9, 0)] [] h (some (0, r.1)) r.2
  refine Ev.blk (is := [.aload_n 0]) (pc2 := 1) (L2 := [(2, v0), (0, v1), (9, 0), (9, 0)]) (S2 := [(2, v0)]) (h2 := h) (by decide +kernel) rfl trivial ?_
  obtain ⟨_, hg, -, hx⟩ := bgd hx
  obtain ⟨h2, hc, hx⟩ := bca hx
  refine Ev.call (args := [(2, v0)]) (S2 := []) (r1 := none) (h1 := h2) (i := .invokevirtual 164) (by decide +kernel) rfl rfl (Nat.le_of_ble_eq_true rfl) (Or.inr (Or.inl ⟨rfl, hg, by decide +kernel⟩)) (x_R_laysRight (by omega) hc) ?_
  refine Ev.blk (is := [.iconst 0, .istore_n 2, .iload_n 1]) (pc2 := 7) (L2 := [(2, v0), (0, v1), (0, 0), (9, 0)]) (S2 := [(0, v1)]) (h2 := h2) (by decide +kernel) rfl trivial ?_
  obtain ⟨ha, hb⟩ := bite hx
  clear hx
  by_cases hc0 : v1 = 0
  · have hx := ha hc0
    clear ha hb
    refine Ev.jp (i := .tableswitch 236 0 6 #[41, 46, 76, 110, 115, 159, 201]) (len := 41) (pc2 := 48) (by decide +kernel) (by rw [hc0]; rfl) ?_
    clear hc0
    obtain ⟨u3, hg, he, hx⟩ := bgd hx
    refine Ev.blk (is := [.aload_n 0, .getfield 9007]) (pc2 := 52) (L2 := [(2, v0), (0, v1), (0, 0), (9, 0)]) (S2 := [(0, u3)]) (h2 := h2) (by decide +kernel) (by subst he; rfl) (by exact hg) ?_
    clear hg he
    cases hx
    exact Ev.ret (i := .ireturn) (len := 1) (by decide +kernel) rfl (finOf (t := some .int) rfl (trivial))
  have hx := hb hc0
  clear ha hb
  obtain ⟨ha, hb⟩ := bite hx
  clear hx
  by_cases hc1 : v1 = 1
  · have hx := ha hc1
    clear ha hb
    refine Ev.jp (i := .tableswitch 236 0 6 #[41, 46, 76, 110, 115, 159, 201]) (len := 41) (pc2 := 53) (by decide +kernel) (by rw [hc1]; rfl) ?_
    clear hc1
    refine Ev.blk (is := [.iconst 0, .istore_n 3]) (pc2 := 55) (L2 := [(2, v0), (0, v1), (0, 0), (0, 0)]) (S2 := []) (h2 := h2) (by decide +kernel) rfl trivial ?_
    refine Ev.wk (L2 := [(2, v0), (9, 0), (0, 0), (0, 0)]) (wkL_of ⟨Or.inl rfl, ⟨Or.inr rfl, ⟨Or.inl rfl, ⟨Or.inl rfl, trivial⟩⟩⟩⟩) ?_
    exact y_R_count_55 hd FU v0 0 0 h2 _ hx
  have hx := hb hc1
  clear ha hb
  obtain ⟨ha, hb⟩ := bite hx
  clear hx
  by_cases hc2 : v1 = 2
  · have hx := ha hc2
    clear ha hb
    refine Ev.jp (i := .tableswitch 236 0 6 #[41, 46, 76, 110, 115, 159, 201]) (len := 41) (pc2 := 83) (by decide +kernel) (by rw [hc2]; rfl) ?_
    clear hc2
    refine Ev.blk (is := [.iconst 0, .istore_n 3]) (pc2 := 85) (L2 := [(2, v0), (0, v1), (0, 0), (0, 0)]) (S2 := []) (h2 := h2) (by decide +kernel) rfl trivial ?_
    refine Ev.wk (L2 := [(2, v0), (9, 0), (0, 0), (0, 0)]) (wkL_of ⟨Or.inl rfl, ⟨Or.inr rfl, ⟨Or.inl rfl, ⟨Or.inl rfl, trivial⟩⟩⟩⟩) ?_
    exact y_R_count_85 hd FU v0 0 0 h2 _ hx
  have hx := hb hc2
  clear ha hb
  obtain ⟨ha, hb⟩ := bite hx
  clear hx
  by_cases hc3 : v1 = 3
  · have hx := ha hc3
    clear ha hb
    refine Ev.jp (i := .tableswitch 236 0 6 #[41, 46, 76, 110, 115, 159, 201]) (len := 41) (pc2 := 117) (by decide +kernel) (by rw [hc3]; rfl) ?_
    clear hc3
    obtain ⟨u4, hg, he, hx⟩ := bgd hx
    refine Ev.blk (is := [.aload_n 0, .getfield 9024]) (pc2 := 121) (L2 := [(2, v0), (0, v1), (0, 0), (9, 0)]) (S2 := [(0, u4)]) (h2 := h2) (by decide +kernel) (by subst he; rfl) (by exact hg) ?_
    clear hg he
    cases hx
    exact Ev.ret (i := .ireturn) (len := 1) (by decide +kernel) rfl (finOf (t := some .int) rfl (trivial))
  have hx := hb hc3
  clear ha hb
  obtain ⟨ha, hb⟩ := bite hx
  clear hx
  by_cases hc4 : v1 = 4
  · have hx := ha hc4
    clear ha hb
    refine Ev.jp (i := .tableswitch 236 0 6 #[41, 46, 76, 110, 115, 159, 201]) (len := 41) (pc2 := 122) (by decide +kernel) (by rw [hc4]; rfl) ?_
    clear hc4
    refine Ev.blk (is := [.iconst 0, .istore_n 3]) (pc2 := 124) (L2 := [(2, v0), (0, v1), (0, 0), (0, 0)]) (S2 := []) (h2 := h2) (by decide +kernel) rfl trivial ?_
    refine Ev.wk (L2 := [(2, v0), (9, 0), (0, 0), (0, 0)]) (wkL_of ⟨Or.inl rfl, ⟨Or.inr rfl, ⟨Or.inl rfl, ⟨Or.inl rfl, trivial⟩⟩⟩⟩) ?_
    exact y_R_count_124 hd FU v0 0 0 h2 _ hx
  have hx := hb hc4
  clear ha hb
  obtain ⟨ha, hb⟩ := bite hx
  clear hx
  by_cases hc5 : v1 = 5
  · have hx := ha hc5
    clear ha hb
    refine Ev.jp (i := .tableswitch 236 0 6 #[41, 46, 76, 110, 115, 159, 201]) (len := 41) (pc2 := 166) (by decide +kernel) (by rw [hc5]; rfl) ?_
    clear hc5
    refine Ev.blk (is := [.iconst 0, .istore_n 3]) (pc2 := 168) (L2 := [(2, v0), (0, v1), (0, 0), (0, 0)]) (S2 := []) (h2 := h2) (by decide +kernel) rfl trivial ?_
    refine Ev.wk (L2 := [(2, v0), (9, 0), (0, 0), (0, 0)]) (wkL_of ⟨Or.inl rfl, ⟨Or.inr rfl, ⟨Or.inl rfl, ⟨Or.inl rfl, trivial⟩⟩⟩⟩) ?_
    exact y_R_count_168 hd FU v0 0 0 h2 _ hx
  have hx := hb hc5
  clear ha hb
  obtain ⟨ha, hb⟩ := bite hx
  clear hx
  by_cases hc6 : v1 = 6
  · have hx := ha hc6
    clear ha hb
    refine Ev.jp (i := .tableswitch 236 0 6 #[41, 46, 76, 110, 115, 159, 201]) (len := 41) (pc2 := 208) (by decide +kernel) (by rw [hc6]; rfl) ?_
    clear hc6
    refine Ev.blk (is := [.iconst 0, .istore_n 3]) (pc2 := 210) (L2 := [(2, v0), (0, v1), (0, 0), (0, 0)]) (S2 := []) (h2 := h2) (by decide +kernel) rfl trivial ?_
    refine Ev.wk (L2 := [(2, v0), (9, 0), (0, 0), (0, 0)]) (wkL_of ⟨Or.inl rfl, ⟨Or.inr rfl, ⟨Or.inl rfl, ⟨Or.inl rfl, trivial⟩⟩⟩⟩) ?_
    exact y_R_count_210 hd FU v0 0 0 h2 _ hx
  have hx := hb hc6
  clear ha hb
  refine Ev.jp (i := .tableswitch 236 0 6 #[41, 46, 76, 110, 115, 159, 201]) (len := 41) (pc2 := 243) (by decide +kernel) (jsw (by omega)) ?_
  clear hc0 hc1 hc2 hc3 hc4 hc5 hc6
  refine Ev.blk (is := [.iconst (-1)]) (pc2 := 244) (L2 := [(2, v0), (0, v1), (0, 0), (9, 0)]) (S2 := [(0, (-1))]) (h2 := h2) (by decide +kernel) rfl trivial ?_
  cases hx
  exact Ev.ret (i := .ireturn) (len := 1) (by decide +kernel) rfl (finOf (t := some .int) rfl (trivial))
