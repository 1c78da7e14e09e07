/-! the methods run as their shallow functions say -/
theorem x_R_proof {sc : AS} {d : Nat} (hd : 6 ≤ d) {v0 : Int} {v1 : Int} {h : AH} {r : (Int × AH)} (hx : R_proof v0 v1 h = some r) : Runs sc d 246 [(2, v0), (0, v1)] h (some (0, r.1)) r.2 := by
  obtain ⟨d, rfl⟩ : ∃ e, d = e + 1 := ⟨d - 1, by omega⟩
  have hd : 5 ≤ d := by omega
  unfold R_proof at hx
  refine ⟨⟨aM_246, rfl, Nat.le_of_ble_eq_true rfl⟩, ?_⟩
  show Ev sc d 246 0 [(2, v0), (0, v1), (9, 0)] [] h (some (0, r.1)) r.2
  refine Ev.blk (is := [.iload_n 1, .i2l]) (pc2 := 2) (L2 := [(2, v0), (0, v1), (9, 0)]) (S2 := [(1, v1)]) (h2 := h) (by decide +kernel) rfl trivial ?_
  obtain ⟨u1, hc, hx⟩ := bca hx
  refine Ev.call (args := [(1, v1)]) (S2 := []) (r1 := (some (0, u1))) (h1 := h) (i := .invokestatic 163) (by decide +kernel) rfl rfl (Nat.le_of_ble_eq_true rfl) (Or.inl rfl) (x_R_isNumber (by omega) hc) ?_
  obtain ⟨ha, hb⟩ := bite hx
  clear hx
  refine Ev.br (i := .ifCond .ne 5) (len := 3) (a := 8) (b := 10) (by decide +kernel) rfl Iff.rfl (fun hc => ?_) (fun hc => ?_)
  · have hx := ha hc
    clear ha hb hc
    refine Ev.blk (is := [.iconst (-1)]) (pc2 := 9) (L2 := [(2, v0), (0, v1), (9, 0)]) (S2 := [(0, (-1))]) (h2 := h) (by decide +kernel) rfl trivial ?_
    cases hx
    exact Ev.ret (i := .ireturn) (len := 1) (by decide +kernel) rfl (finOf (t := some .int) rfl (trivial))
  · have hx := hb hc
    clear ha hb hc
    refine Ev.blk (is := [.aload_n 0]) (pc2 := 11) (L2 := [(2, v0), (0, v1), (9, 0)]) (S2 := [(2, v0)]) (h2 := h) (by decide +kernel) rfl trivial ?_
    obtain ⟨_, hg, -, hx⟩ := bgd hx
    obtain ⟨h3, hc, hx⟩ := bca hx
    refine Ev.call (args := [(2, v0)]) (S2 := []) (r1 := none) (h1 := h3) (i := .invokevirtual 164) (by decide +kernel) rfl rfl (Nat.le_of_ble_eq_true rfl) (Or.inr (Or.inl ⟨rfl, hg, by decide +kernel⟩)) (x_R_laysRight (by omega) hc) ?_
    obtain ⟨u4, hg, he, hx⟩ := bgd hx
    refine Ev.blk (is := [.aload_n 0, .iload_n 1, .aload_n 0, .getfield 9007]) (pc2 := 20) (L2 := [(2, v0), (0, v1), (9, 0)]) (S2 := [(0, u4), (0, v1), (2, v0)]) (h2 := h3) (by decide +kernel) (by subst he; rfl) (by exact hg) ?_
    clear hg he
    obtain ⟨_, hg, -, hx⟩ := bgd hx
    obtain ⟨u5, hc, hx⟩ := bca hx
    refine Ev.call (args := [(2, v0), (0, v1), (0, u4)]) (S2 := []) (r1 := (some (0, u5))) (h1 := h3) (i := .invokevirtual 169) (by decide +kernel) rfl rfl (Nat.le_of_ble_eq_true rfl) (Or.inr (Or.inl ⟨rfl, hg, by decide +kernel⟩)) (x_R_lineFor (by omega) hc) ?_
    refine Ev.blk (is := [.istore_n 2, .iload_n 2, .iconst (-1)]) (pc2 := 26) (L2 := [(2, v0), (0, v1), (0, u5)]) (S2 := [(0, (-1)), (0, u5)]) (h2 := h3) (by decide +kernel) rfl trivial ?_
    obtain ⟨ha, hb⟩ := bite hx
    clear hx
    refine Ev.br (i := .if_icmp .ne 8) (len := 3) (a := 29) (b := 34) (by decide +kernel) rfl Iff.rfl (fun hc => ?_) (fun hc => ?_)
    · have hx := ha hc
      clear ha hb hc
      refine Ev.blk (is := [.sipush (-2)]) (pc2 := 31) (L2 := [(2, v0), (0, v1), (0, u5)]) (S2 := [(0, (-2))]) (h2 := h3) (by decide +kernel) rfl trivial ?_
      refine Ev.jp (i := .goto 4) (len := 3) (pc2 := 35) (by decide +kernel) rfl ?_
      cases hx
      exact Ev.ret (i := .ireturn) (len := 1) (by decide +kernel) rfl (finOf (t := some .int) rfl (trivial))
    · have hx := hb hc
      clear ha hb hc
      refine Ev.blk (is := [.iload_n 2]) (pc2 := 35) (L2 := [(2, v0), (0, v1), (0, u5)]) (S2 := [(0, u5)]) (h2 := h3) (by decide +kernel) rfl trivial ?_
      cases hx
      exact Ev.ret (i := .ireturn) (len := 1) (by decide +kernel) rfl (finOf (t := some .int) rfl (trivial))
theorem x_R_prime {sc : AS} {d : Nat} (hd : 3 ≤ d) {v0 : Int} {v1 : Int} {v2 : Int} {h : AH} {r : (Int × AH)} (hx : R_prime v0 v1 v2 h = some r) : Runs sc d 247 [(2, v0), (0, v1), (0, v2)] h (some (0, r.1)) r.2 := by
  obtain ⟨d, rfl⟩ : ∃ e, d = e + 1 := ⟨d - 1, by omega⟩
  have hd : 2 ≤ d := by omega
  unfold R_prime at hx
  refine ⟨⟨aM_247, rfl, Nat.le_of_ble_eq_true rfl⟩, ?_⟩
  show Ev sc d 247 0 [(2, v0), (0, v1), (0, v2)] [] h (some (0, r.1)) r.2
  refine Ev.blk (is := [.iload_n 1, .i2l]) (pc2 := 2) (L2 := [(2, v0), (0, v1), (0, v2)]) (S2 := [(1, v1)]) (h2 := h) (by decide +kernel) rfl trivial ?_
  obtain ⟨u1, hc, hx⟩ := bca hx
  refine Ev.call (args := [(1, v1)]) (S2 := []) (r1 := (some (0, u1))) (h1 := h) (i := .invokestatic 163) (by decide +kernel) rfl rfl (Nat.le_of_ble_eq_true rfl) (Or.inl rfl) (x_R_isNumber (by omega) hc) ?_
  obtain ⟨ha, hb⟩ := bite hx
  clear hx
  refine Ev.br (i := .ifCond .eq 8) (len := 3) (a := 13) (b := 8) (by decide +kernel) rfl Iff.rfl (fun hc => ?_) (fun hc => ?_)
  · have hx := ha hc
    clear ha hb hc
    refine Ev.blk (is := [.iconst (-1)]) (pc2 := 14) (L2 := [(2, v0), (0, v1), (0, v2)]) (S2 := [(0, (-1))]) (h2 := h) (by decide +kernel) rfl trivial ?_
    cases hx
    exact Ev.ret (i := .ireturn) (len := 1) (by decide +kernel) rfl (finOf (t := some .int) rfl (trivial))
  · have hx := hb hc
    clear ha hb hc
    refine Ev.blk (is := [.iload_n 2, .iconst (-1)]) (pc2 := 10) (L2 := [(2, v0), (0, v1), (0, v2)]) (S2 := [(0, (-1)), (0, v2)]) (h2 := h) (by decide +kernel) rfl trivial ?_
    obtain ⟨ha, hb⟩ := bite hx
    clear hx
    refine Ev.br (i := .if_icmp .ge 5) (len := 3) (a := 13) (b := 15) (by decide +kernel) rfl Iff.rfl (fun hc => ?_) (fun hc => ?_)
    · have hx := ha hc
      clear ha hb hc
      refine Ev.blk (is := [.iconst (-1)]) (pc2 := 14) (L2 := [(2, v0), (0, v1), (0, v2)]) (S2 := [(0, (-1))]) (h2 := h) (by decide +kernel) rfl trivial ?_
      cases hx
      exact Ev.ret (i := .ireturn) (len := 1) (by decide +kernel) rfl (finOf (t := some .int) rfl (trivial))
    · have hx := hb hc
      clear ha hb hc
      refine Ev.blk (is := [.aload_n 0, .iload_n 1, .i2l]) (pc2 := 18) (L2 := [(2, v0), (0, v1), (0, v2)]) (S2 := [(1, v1), (2, v0)]) (h2 := h) (by decide +kernel) rfl trivial ?_
      obtain ⟨_, hg, -, hx⟩ := bgd hx
      obtain ⟨h3, hc, hx⟩ := bca hx
      refine Ev.call (args := [(2, v0), (1, v1)]) (S2 := []) (r1 := none) (h1 := h3) (i := .invokevirtual 188) (by decide +kernel) rfl rfl (Nat.le_of_ble_eq_true rfl) (Or.inr (Or.inl ⟨rfl, hg, by decide +kernel⟩)) (x_R_laysFactors (by omega) hc) ?_
      refine Ev.blk (is := [.iload_n 2, .iconst (-1)]) (pc2 := 23) (L2 := [(2, v0), (0, v1), (0, v2)]) (S2 := [(0, (-1)), (0, v2)]) (h2 := h3) (by decide +kernel) rfl trivial ?_
      obtain ⟨ha, hb⟩ := bite hx
      clear hx
      refine Ev.br (i := .if_icmp .ne 10) (len := 3) (a := 26) (b := 33) (by decide +kernel) rfl Iff.rfl (fun hc => ?_) (fun hc => ?_)
      · have hx := ha hc
        clear ha hb hc
        obtain ⟨u4, hg, he, hx⟩ := bgd hx
        refine Ev.blk (is := [.aload_n 0, .getfield 9006]) (pc2 := 30) (L2 := [(2, v0), (0, v1), (0, v2)]) (S2 := [(0, u4)]) (h2 := h3) (by decide +kernel) (by subst he; rfl) (by exact hg) ?_
        clear hg he
        refine Ev.jp (i := .goto 21) (len := 3) (pc2 := 51) (by decide +kernel) rfl ?_
        cases hx
        exact Ev.ret (i := .ireturn) (len := 1) (by decide +kernel) rfl (finOf (t := some .int) rfl (trivial))
      · have hx := hb hc
        clear ha hb hc
        obtain ⟨u5, hg, he, hx⟩ := bgd hx
        refine Ev.blk (is := [.iload_n 2, .aload_n 0, .getfield 9006]) (pc2 := 38) (L2 := [(2, v0), (0, v1), (0, v2)]) (S2 := [(0, u5), (0, v2)]) (h2 := h3) (by decide +kernel) (by subst he; rfl) (by exact hg) ?_
        clear hg he
        obtain ⟨ha, hb⟩ := bite hx
        clear hx
        refine Ev.br (i := .if_icmp .ge 12) (len := 3) (a := 41) (b := 50) (by decide +kernel) rfl Iff.rfl (fun hc => ?_) (fun hc => ?_)
        · have hx := ha hc
          clear ha hb hc
          obtain ⟨u6, hg, he, hx⟩ := bgd hx
          refine Ev.blk (is := [.aload_n 0, .getfield 9204]) (pc2 := 45) (L2 := [(2, v0), (0, v1), (0, v2)]) (S2 := [(2, u6)]) (h2 := h3) (by decide +kernel) (by subst he; rfl) (by exact hg) ?_
          clear hg he
          obtain ⟨u7, hg, he, hx⟩ := bgd hx
          refine Ev.blk (is := [.iload_n 2, .iaload]) (pc2 := 47) (L2 := [(2, v0), (0, v1), (0, v2)]) (S2 := [(0, u7)]) (h2 := h3) (by decide +kernel) (by subst he; rfl) (by exact hg) ?_
          clear hg he
          refine Ev.jp (i := .goto 4) (len := 3) (pc2 := 51) (by decide +kernel) rfl ?_
          cases hx
          exact Ev.ret (i := .ireturn) (len := 1) (by decide +kernel) rfl (finOf (t := some .int) rfl (trivial))
        · have hx := hb hc
          clear ha hb hc
          refine Ev.blk (is := [.iconst (-1)]) (pc2 := 51) (L2 := [(2, v0), (0, v1), (0, v2)]) (S2 := [(0, (-1))]) (h2 := h3) (by decide +kernel) rfl trivial ?_
          cases hx
          exact Ev.ret (i := .ireturn) (len := 1) (by decide +kernel) rfl (finOf (t := some .int) rfl (trivial))
theorem y_R_often_23 {sc : AS} {d : Nat} (hd : 2 ≤ d) : ∀ (fu : Nat) (v2 : Int) (v3 : Int) (v4 : Int) (h : AH) (r : Int), R_often_23 fu v2 v3 v4 = some r → Ev sc d 248 23 [(9, 0), (9, 0), (0, v2), (0, v3), (0, v4)] [] h (some (0, r)) h := by
  intro fu
  induction fu with
  | zero => intro v2 v3 v4 h r hx; unfold R_often_23 at hx; cases hx
  | succ fu ih =>
    intro v2 v3 v4 h r hx
    unfold R_often_23 at hx
    obtain ⟨u1, hg, he, hx⟩ := bgd hx
    refine Ev.blk (is := [.iload 4, .iload_n 2, .irem]) (pc2 := 27) (L2 := [(9, 0), (9, 0), (0, v2), (0, v3), (0, v4)]) (S2 := [(0, u1)]) (h2 := h) (by decide +kernel) (by subst he; rfl) (by exact hg) ?_
    clear hg he
    obtain ⟨ha, hb⟩ := bite hx
    clear hx
    refine Ev.br (i := .ifCond .ne 15) (len := 3) (a := 30) (b := 42) (by decide +kernel) rfl Iff.rfl (fun hc => ?_) (fun hc => ?_)
    · have hx := ha hc
      clear ha hb hc
      obtain ⟨u2, hg, he, hx⟩ := bgd hx
      refine Ev.blk (is := [.iinc 3 1, .iload 4, .iload_n 2, .idiv]) (pc2 := 37) (L2 := [(9, 0), (9, 0), (0, v2), (0, w32 (v3 + 1)), (0, v4)]) (S2 := [(0, u2)]) (h2 := h) (by decide +kernel) (by subst he; rfl) (by exact hg) ?_
      clear hg he
      refine Ev.blk (is := [.istore 4]) (pc2 := 39) (L2 := [(9, 0), (9, 0), (0, v2), (0, w32 (v3 + 1)), (0, u2)]) (S2 := []) (h2 := h) (by decide +kernel) rfl trivial ?_
      refine Ev.jp (i := .goto (-16)) (len := 3) (pc2 := 23) (by decide +kernel) rfl ?_
      exact ih v2 (w32 (v3 + 1)) u2 h _ hx
    · have hx := hb hc
      clear ha hb hc
      refine Ev.blk (is := [.iload_n 3]) (pc2 := 43) (L2 := [(9, 0), (9, 0), (0, v2), (0, v3), (0, v4)]) (S2 := [(0, v3)]) (h2 := h) (by decide +kernel) rfl trivial ?_
      cases hx
      exact Ev.ret (i := .ireturn) (len := 1) (by decide +kernel) rfl (finOf (t := some .int) rfl (trivial))
theorem x_R_often {sc : AS} {d : Nat} (hd : 3 ≤ d) {v0 : Int} {v1 : Int} {v2 : Int} {h : AH} {r : Int} (hx : R_often v0 v1 v2 = some r) : Runs sc d 248 [(2, v0), (0, v1), (0, v2)] h (some (0, r)) h := by
  obtain ⟨d, rfl⟩ : ∃ e, d = e + 1 := ⟨d - 1, by omega⟩
  have hd : 2 ≤ d := by omega
  unfold R_often at hx
  refine ⟨⟨aM_248, rfl, Nat.le_of_ble_eq_true rfl⟩, ?_⟩
  show Ev sc d 248 0 [(2, v0), (0, v1), (0, v2), (9, 0), (9, 0)] [] h (some (0, r)) h
  refine Ev.blk (is := [.iload_n 1, .i2l]) (pc2 := 2) (L2 := [(2, v0), (0, v1), (0, v2), (9, 0), (9, 0)]) (S2 := [(1, v1)]) (h2 := h) (by decide +kernel) rfl trivial ?_
  obtain ⟨u1, hc, hx⟩ := bca hx
  refine Ev.call (args := [(1, v1)]) (S2 := []) (r1 := (some (0, u1))) (h1 := h) (i := .invokestatic 163) (by decide +kernel) rfl rfl (Nat.le_of_ble_eq_true rfl) (Or.inl rfl) (x_R_isNumber (by omega) hc) ?_
  obtain ⟨ha, hb⟩ := bite hx
  clear hx
  refine Ev.br (i := .ifCond .eq 11) (len := 3) (a := 16) (b := 8) (by decide +kernel) rfl Iff.rfl (fun hc => ?_) (fun hc => ?_)
  · have hx := ha hc
    clear ha hb hc
    refine Ev.blk (is := [.iconst (-1)]) (pc2 := 17) (L2 := [(2, v0), (0, v1), (0, v2), (9, 0), (9, 0)]) (S2 := [(0, (-1))]) (h2 := h) (by decide +kernel) rfl trivial ?_
    cases hx
    exact Ev.ret (i := .ireturn) (len := 1) (by decide +kernel) rfl (finOf (t := some .int) rfl (trivial))
  · have hx := hb hc
    clear ha hb hc
    refine Ev.blk (is := [.iload_n 2, .i2l]) (pc2 := 10) (L2 := [(2, v0), (0, v1), (0, v2), (9, 0), (9, 0)]) (S2 := [(1, v2)]) (h2 := h) (by decide +kernel) rfl trivial ?_
    obtain ⟨u2, hc, hx⟩ := bca hx
    refine Ev.call (args := [(1, v2)]) (S2 := []) (r1 := (some (0, u2))) (h1 := h) (i := .invokestatic 163) (by decide +kernel) rfl rfl (Nat.le_of_ble_eq_true rfl) (Or.inl rfl) (x_R_isNumber (by omega) hc) ?_
    obtain ⟨ha, hb⟩ := bite hx
    clear hx
    refine Ev.br (i := .ifCond .ne 5) (len := 3) (a := 16) (b := 18) (by decide +kernel) rfl Iff.rfl (fun hc => ?_) (fun hc => ?_)
    · have hx := ha hc
      clear ha hb hc
      refine Ev.blk (is := [.iconst (-1)]) (pc2 := 17) (L2 := [(2, v0), (0, v1), (0, v2), (9, 0), (9, 0)]) (S2 := [(0, (-1))]) (h2 := h) (by decide +kernel) rfl trivial ?_
      cases hx
      exact Ev.ret (i := .ireturn) (len := 1) (by decide +kernel) rfl (finOf (t := some .int) rfl (trivial))
    · have hx := hb hc
      clear ha hb hc
      refine Ev.blk (is := [.iconst 0, .istore_n 3, .iload_n 1, .istore 4]) (pc2 := 23) (L2 := [(2, v0), (0, v1), (0, v2), (0, 0), (0, v1)]) (S2 := []) (h2 := h) (by decide +kernel) rfl trivial ?_
      refine Ev.wk (L2 := [(9, 0), (9, 0), (0, v2), (0, 0), (0, v1)]) (wkL_of ⟨Or.inr rfl, ⟨Or.inr rfl, ⟨Or.inl rfl, ⟨Or.inl rfl, ⟨Or.inl rfl, trivial⟩⟩⟩⟩⟩) ?_
      exact y_R_often_23 hd FU v2 0 v1 h _ hx
theorem y_R_next_18 {sc : AS} {d : Nat} (hd : 1 ≤ d) : ∀ (fu : Nat) (v2 : Int) (h : AH) (r : Int), R_next_18 fu v2 = some r → Ev sc d 249 18 [(9, 0), (9, 0), (0, v2)] [] h (some (0, r)) h := by
  intro fu
  induction fu with
  | zero => intro v2 h r hx; unfold R_next_18 at hx; cases hx
  | succ fu ih =>
    intro v2 h r hx
    unfold R_next_18 at hx
    refine Ev.blk (is := [.iload_n 2, .i2l]) (pc2 := 20) (L2 := [(9, 0), (9, 0), (0, v2)]) (S2 := [(1, v2)]) (h2 := h) (by decide +kernel) rfl trivial ?_
    obtain ⟨u1, hc, hx⟩ := bca hx
    refine Ev.call (args := [(1, v2)]) (S2 := []) (r1 := (some (0, u1))) (h1 := h) (i := .invokestatic 166) (by decide +kernel) rfl rfl (Nat.le_of_ble_eq_true rfl) (Or.inl rfl) (x_R_isPrime (by omega) hc) ?_
    obtain ⟨ha, hb⟩ := bite hx
    clear hx
    refine Ev.br (i := .ifCond .ne 9) (len := 3) (a := 26) (b := 32) (by decide +kernel) rfl Iff.rfl (fun hc => ?_) (fun hc => ?_)
    · have hx := ha hc
      clear ha hb hc
      refine Ev.blk (is := [.iinc 2 1]) (pc2 := 29) (L2 := [(9, 0), (9, 0), (0, w32 (v2 + 1))]) (S2 := []) (h2 := h) (by decide +kernel) rfl trivial ?_
      refine Ev.jp (i := .goto (-11)) (len := 3) (pc2 := 18) (by decide +kernel) rfl ?_
      exact ih (w32 (v2 + 1)) h _ hx
    · have hx := hb hc
      clear ha hb hc
      refine Ev.blk (is := [.iload_n 2]) (pc2 := 33) (L2 := [(9, 0), (9, 0), (0, v2)]) (S2 := [(0, v2)]) (h2 := h) (by decide +kernel) rfl trivial ?_
      cases hx
      exact Ev.ret (i := .ireturn) (len := 1) (by decide +kernel) rfl (finOf (t := some .int) rfl (trivial))
theorem x_R_next {sc : AS} {d : Nat} (hd : 2 ≤ d) {v0 : Int} {v1 : Int} {h : AH} {r : Int} (hx : R_next v0 v1 = some r) : Runs sc d 249 [(2, v0), (0, v1)] h (some (0, r)) h := by
  obtain ⟨d, rfl⟩ : ∃ e, d = e + 1 := ⟨d - 1, by omega⟩
  have hd : 1 ≤ d := by omega
  unfold R_next at hx
  refine ⟨⟨aM_249, rfl, Nat.le_of_ble_eq_true rfl⟩, ?_⟩
  show Ev sc d 249 0 [(2, v0), (0, v1), (9, 0)] [] h (some (0, r)) h
  refine Ev.blk (is := [.iload_n 1, .i2l, .lconst 0, .jsr_w 999999936]) (pc2 := 6) (L2 := [(2, v0), (0, v1), (9, 0)]) (S2 := [(1, 999999936), (1, 0), (1, v1)]) (h2 := h) (by decide +kernel) rfl trivial ?_
  obtain ⟨u1, hc, hx⟩ := bca hx
  refine Ev.call (args := [(1, v1), (1, 0), (1, 999999936)]) (S2 := []) (r1 := (some (0, u1))) (h1 := h) (i := .invokestatic 162) (by decide +kernel) rfl rfl (Nat.le_of_ble_eq_true rfl) (Or.inl rfl) (x_R_in (by omega) hc) ?_
  obtain ⟨ha, hb⟩ := bite hx
  clear hx
  refine Ev.br (i := .ifCond .ne 5) (len := 3) (a := 12) (b := 14) (by decide +kernel) rfl Iff.rfl (fun hc => ?_) (fun hc => ?_)
  · have hx := ha hc
    clear ha hb hc
    refine Ev.blk (is := [.iconst (-1)]) (pc2 := 13) (L2 := [(2, v0), (0, v1), (9, 0)]) (S2 := [(0, (-1))]) (h2 := h) (by decide +kernel) rfl trivial ?_
    cases hx
    exact Ev.ret (i := .ireturn) (len := 1) (by decide +kernel) rfl (finOf (t := some .int) rfl (trivial))
  · have hx := hb hc
    clear ha hb hc
    refine Ev.blk (is := [.iload_n 1, .iconst 1, .iadd, .istore_n 2]) (pc2 := 18) (L2 := [(2, v0), (0, v1), (0, w32 (v1 + 1))]) (S2 := []) (h2 := h) (by decide +kernel) rfl trivial ?_
    refine Ev.wk (L2 := [(9, 0), (9, 0), (0, w32 (v1 + 1))]) (wkL_of ⟨Or.inr rfl, ⟨Or.inr rfl, ⟨Or.inl rfl, trivial⟩⟩⟩) ?_
    exact y_R_next_18 hd FU (w32 (v1 + 1)) h _ hx
theorem y_R_smoothBy_28 {sc : AS} {d : Nat} (hd : 0 ≤ d) {k5 : Int → Int → Int → Int → AH → Option Int} (hk5 : ∀ (v0 : Int) (v1 : Int) (v2 : Int) (v4 : Int) (h : AH) (r : Int), k5 v0 v1 v2 v4 h = some r → Ev sc d 251 5 [(2, v0), (0, v1), (1, v2), (8, 0), (0, v4), (9, 0)] [] h (some (1, r)) h) : ∀ (fu : Nat) (v0 : Int) (v1 : Int) (v2 : Int) (v4 : Int) (v5 : Int) (h : AH) (r : Int), R_smoothBy_28 k5 fu v0 v1 v2 v4 v5 h = some r → Ev sc d 251 28 [(2, v0), (0, v1), (1, v2), (8, 0), (0, v4), (0, v5)] [] h (some (1, r)) h := by
  intro fu
  induction fu with
  | zero => intro v0 v1 v2 v4 v5 h r hx; unfold R_smoothBy_28 at hx; cases hx
  | succ fu ih =>
    intro v0 v1 v2 v4 v5 h r hx
    unfold R_smoothBy_28 at hx
    obtain ⟨u1, hg, he, hx⟩ := bgd hx
    refine Ev.blk (is := [.iload 5, .aload_n 0, .getfield 9205]) (pc2 := 34) (L2 := [(2, v0), (0, v1), (1, v2), (8, 0), (0, v4), (0, v5)]) (S2 := [(2, u1), (0, v5)]) (h2 := h) (by decide +kernel) (by subst he; rfl) (by exact hg) ?_
    clear hg he
    obtain ⟨u2, hg, he, hx⟩ := bgd hx
    refine Ev.blk (is := [.iload 4, .iaload]) (pc2 := 37) (L2 := [(2, v0), (0, v1), (1, v2), (8, 0), (0, v4), (0, v5)]) (S2 := [(0, u2), (0, v5)]) (h2 := h) (by decide +kernel) (by subst he; rfl) (by exact hg) ?_
    clear hg he
    obtain ⟨ha, hb⟩ := bite hx
    clear hx
    refine Ev.br (i := .if_icmp .ge 20) (len := 3) (a := 40) (b := 57) (by decide +kernel) rfl Iff.rfl (fun hc => ?_) (fun hc => ?_)
    · have hx := ha hc
      clear ha hb hc
      obtain ⟨u3, hg, he, hx⟩ := bgd hx
      refine Ev.blk (is := [.lload_n 2, .aload_n 0, .getfield 9204]) (pc2 := 45) (L2 := [(2, v0), (0, v1), (1, v2), (8, 0), (0, v4), (0, v5)]) (S2 := [(2, u3), (1, v2)]) (h2 := h) (by decide +kernel) (by subst he; rfl) (by exact hg) ?_
      clear hg he
      obtain ⟨u4, hg, he, hx⟩ := bgd hx
      refine Ev.blk (is := [.iload 4, .iaload]) (pc2 := 48) (L2 := [(2, v0), (0, v1), (1, v2), (8, 0), (0, v4), (0, v5)]) (S2 := [(0, u4), (1, v2)]) (h2 := h) (by decide +kernel) (by subst he; rfl) (by exact hg) ?_
      clear hg he
      refine Ev.blk (is := [.i2l, .lmul, .lstore_n 2, .iinc 5 1]) (pc2 := 54) (L2 := [(2, v0), (0, v1), (1, w64 (v2 * u4)), (8, 0), (0, v4), (0, w32 (v5 + 1))]) (S2 := []) (h2 := h) (by decide +kernel) rfl trivial ?_
      refine Ev.jp (i := .goto (-26)) (len := 3) (pc2 := 28) (by decide +kernel) rfl ?_
      exact ih v0 v1 (w64 (v2 * u4)) v4 (w32 (v5 + 1)) h _ hx
    · have hx := hb hc
      clear ha hb hc
      refine Ev.blk (is := [.iinc 4 1]) (pc2 := 60) (L2 := [(2, v0), (0, v1), (1, v2), (8, 0), (0, w32 (v4 + 1)), (0, v5)]) (S2 := []) (h2 := h) (by decide +kernel) rfl trivial ?_
      refine Ev.jp (i := .goto (-55)) (len := 3) (pc2 := 5) (by decide +kernel) rfl ?_
      refine Ev.wk (L2 := [(2, v0), (0, v1), (1, v2), (8, 0), (0, w32 (v4 + 1)), (9, 0)]) (wkL_of ⟨Or.inl rfl, ⟨Or.inl rfl, ⟨Or.inl rfl, ⟨Or.inl rfl, ⟨Or.inl rfl, ⟨Or.inr rfl, trivial⟩⟩⟩⟩⟩⟩) ?_
      exact hk5 v0 v1 v2 (w32 (v4 + 1)) h _ hx
theorem y_R_smoothBy_5 {sc : AS} {d : Nat} (hd : 0 ≤ d) : ∀ (fu : Nat) (v0 : Int) (v1 : Int) (v2 : Int) (v4 : Int) (h : AH) (r : Int), R_smoothBy_5 fu v0 v1 v2 v4 h = some r → Ev sc d 251 5 [(2, v0), (0, v1), (1, v2), (8, 0), (0, v4), (9, 0)] [] h (some (1, r)) h := by
  intro fu
  induction fu with
  | zero => intro v0 v1 v2 v4 h r hx; unfold R_smoothBy_5 at hx; cases hx
  | succ fu ih =>
    intro v0 v1 v2 v4 h r hx
    unfold R_smoothBy_5 at hx
    obtain ⟨u1, hg, he, hx⟩ := bgd hx
    refine Ev.blk (is := [.iload 4, .aload_n 0, .getfield 9006]) (pc2 := 11) (L2 := [(2, v0), (0, v1), (1, v2), (8, 0), (0, v4), (9, 0)]) (S2 := [(0, u1), (0, v4)]) (h2 := h) (by decide +kernel) (by subst he; rfl) (by exact hg) ?_
    clear hg he
    obtain ⟨ha, hb⟩ := bite hx
    clear hx
    refine Ev.br (i := .if_icmp .ge 52) (len := 3) (a := 14) (b := 63) (by decide +kernel) rfl Iff.rfl (fun hc => ?_) (fun hc => ?_)
    · have hx := ha hc
      clear ha hb hc
      obtain ⟨u2, hg, he, hx⟩ := bgd hx
      refine Ev.blk (is := [.aload_n 0, .getfield 9204]) (pc2 := 18) (L2 := [(2, v0), (0, v1), (1, v2), (8, 0), (0, v4), (9, 0)]) (S2 := [(2, u2)]) (h2 := h) (by decide +kernel) (by subst he; rfl) (by exact hg) ?_
      clear hg he
      obtain ⟨u3, hg, he, hx⟩ := bgd hx
      refine Ev.blk (is := [.iload 4, .iaload]) (pc2 := 21) (L2 := [(2, v0), (0, v1), (1, v2), (8, 0), (0, v4), (9, 0)]) (S2 := [(0, u3)]) (h2 := h) (by decide +kernel) (by subst he; rfl) (by exact hg) ?_
      clear hg he
      refine Ev.blk (is := [.iload_n 1]) (pc2 := 22) (L2 := [(2, v0), (0, v1), (1, v2), (8, 0), (0, v4), (9, 0)]) (S2 := [(0, v1), (0, u3)]) (h2 := h) (by decide +kernel) rfl trivial ?_
      obtain ⟨ha, hb⟩ := bite hx
      clear hx
      refine Ev.br (i := .if_icmp .gt 35) (len := 3) (a := 57) (b := 25) (by decide +kernel) rfl Iff.rfl (fun hc => ?_) (fun hc => ?_)
      · have hx := ha hc
        clear ha hb hc
        refine Ev.blk (is := [.iinc 4 1]) (pc2 := 60) (L2 := [(2, v0), (0, v1), (1, v2), (8, 0), (0, w32 (v4 + 1)), (9, 0)]) (S2 := []) (h2 := h) (by decide +kernel) rfl trivial ?_
        refine Ev.jp (i := .goto (-55)) (len := 3) (pc2 := 5) (by decide +kernel) rfl ?_
        exact ih v0 v1 v2 (w32 (v4 + 1)) h _ hx
      · have hx := hb hc
        clear ha hb hc
        refine Ev.blk (is := [.iconst 0, .istore 5]) (pc2 := 28) (L2 := [(2, v0), (0, v1), (1, v2), (8, 0), (0, v4), (0, 0)]) (S2 := []) (h2 := h) (by decide +kernel) rfl trivial ?_
        exact y_R_smoothBy_28 hd ih FU v0 v1 v2 v4 0 h _ hx
    · have hx := hb hc
      clear ha hb hc
      refine Ev.blk (is := [.lload_n 2]) (pc2 := 64) (L2 := [(2, v0), (0, v1), (1, v2), (8, 0), (0, v4), (9, 0)]) (S2 := [(1, v2)]) (h2 := h) (by decide +kernel) rfl trivial ?_
      cases hx
      exact Ev.ret (i := .lreturn) (len := 1) (by decide +kernel) rfl (finOf (t := some .long) rfl (trivial))
theorem x_R_smoothBy {sc : AS} {d : Nat} (hd : 1 ≤ d) {v0 : Int} {v1 : Int} {h : AH} {r : Int} (hx : R_smoothBy v0 v1 h = some r) : Runs sc d 251 [(2, v0), (0, v1)] h (some (1, r)) h := by
  obtain ⟨d, rfl⟩ : ∃ e, d = e + 1 := ⟨d - 1, by omega⟩
  have hd : 0 ≤ d := by omega
  unfold R_smoothBy at hx
  refine ⟨⟨aM_251, rfl, Nat.le_of_ble_eq_true rfl⟩, ?_⟩
  show Ev sc d 251 0 [(2, v0), (0, v1), (9, 0), (9, 0), (9, 0), (9, 0)] [] h (some (1, r)) h
  refine Ev.blk (is := [.lconst 1, .lstore_n 2, .iconst 0, .istore 4]) (pc2 := 5) (L2 := [(2, v0), (0, v1), (1, 1), (8, 0), (0, 0), (9, 0)]) (S2 := []) (h2 := h) (by decide +kernel) rfl trivial ?_
  exact y_R_smoothBy_5 hd FU v0 v1 1 0 h _ hx
theorem x_R_smooth {sc : AS} {d : Nat} (hd : 3 ≤ d) {v0 : Int} {v1 : Int} {v2 : Int} {h : AH} {r : (Int × AH)} (hx : R_smooth v0 v1 v2 h = some r) : Runs sc d 250 [(2, v0), (0, v1), (0, v2)] h (some (0, r.1)) r.2 := by
  obtain ⟨d, rfl⟩ : ∃ e, d = e + 1 := ⟨d - 1, by omega⟩
  have hd : 2 ≤ d := by omega
  unfold R_smooth at hx
  refine ⟨⟨aM_250, rfl, Nat.le_of_ble_eq_true rfl⟩, ?_⟩
  show Ev sc d 250 0 [(2, v0), (0, v1), (0, v2)] [] h (some (0, r.1)) r.2
  refine Ev.blk (is := [.iload_n 1, .i2l]) (pc2 := 2) (L2 := [(2, v0), (0, v1), (0, v2)]) (S2 := [(1, v1)]) (h2 := h) (by decide +kernel) rfl trivial ?_
  obtain ⟨u1, hc, hx⟩ := bca hx
  refine Ev.call (args := [(1, v1)]) (S2 := []) (r1 := (some (0, u1))) (h1 := h) (i := .invokestatic 163) (by decide +kernel) rfl rfl (Nat.le_of_ble_eq_true rfl) (Or.inl rfl) (x_R_isNumber (by omega) hc) ?_
  obtain ⟨ha, hb⟩ := bite hx
  clear hx
  refine Ev.br (i := .ifCond .eq 7) (len := 3) (a := 12) (b := 8) (by decide +kernel) rfl Iff.rfl (fun hc => ?_) (fun hc => ?_)
  · have hx := ha hc
    clear ha hb hc
    refine Ev.blk (is := [.iconst (-1)]) (pc2 := 13) (L2 := [(2, v0), (0, v1), (0, v2)]) (S2 := [(0, (-1))]) (h2 := h) (by decide +kernel) rfl trivial ?_
    cases hx
    exact Ev.ret (i := .ireturn) (len := 1) (by decide +kernel) rfl (finOf (t := some .int) rfl (trivial))
  · have hx := hb hc
    clear ha hb hc
    refine Ev.blk (is := [.iload_n 2]) (pc2 := 9) (L2 := [(2, v0), (0, v1), (0, v2)]) (S2 := [(0, v2)]) (h2 := h) (by decide +kernel) rfl trivial ?_
    obtain ⟨ha, hb⟩ := bite hx
    clear hx
    refine Ev.br (i := .ifCond .ge 5) (len := 3) (a := 12) (b := 14) (by decide +kernel) rfl Iff.rfl (fun hc => ?_) (fun hc => ?_)
    · have hx := ha hc
      clear ha hb hc
      refine Ev.blk (is := [.iconst (-1)]) (pc2 := 13) (L2 := [(2, v0), (0, v1), (0, v2)]) (S2 := [(0, (-1))]) (h2 := h) (by decide +kernel) rfl trivial ?_
      cases hx
      exact Ev.ret (i := .ireturn) (len := 1) (by decide +kernel) rfl (finOf (t := some .int) rfl (trivial))
    · have hx := hb hc
      clear ha hb hc
      refine Ev.blk (is := [.aload_n 0, .iload_n 1, .i2l]) (pc2 := 17) (L2 := [(2, v0), (0, v1), (0, v2)]) (S2 := [(1, v1), (2, v0)]) (h2 := h) (by decide +kernel) rfl trivial ?_
      obtain ⟨_, hg, -, hx⟩ := bgd hx
      obtain ⟨h3, hc, hx⟩ := bca hx
      refine Ev.call (args := [(2, v0), (1, v1)]) (S2 := []) (r1 := none) (h1 := h3) (i := .invokevirtual 188) (by decide +kernel) rfl rfl (Nat.le_of_ble_eq_true rfl) (Or.inr (Or.inl ⟨rfl, hg, by decide +kernel⟩)) (x_R_laysFactors (by omega) hc) ?_
      refine Ev.blk (is := [.aload_n 0, .iload_n 2]) (pc2 := 22) (L2 := [(2, v0), (0, v1), (0, v2)]) (S2 := [(0, v2), (2, v0)]) (h2 := h3) (by decide +kernel) rfl trivial ?_
      obtain ⟨_, hg, -, hx⟩ := bgd hx
      obtain ⟨u4, hc, hx⟩ := bca hx
      refine Ev.call (args := [(2, v0), (0, v2)]) (S2 := []) (r1 := (some (1, u4))) (h1 := h3) (i := .invokevirtual 251) (by decide +kernel) rfl rfl (Nat.le_of_ble_eq_true rfl) (Or.inr (Or.inl ⟨rfl, hg, by decide +kernel⟩)) (x_R_smoothBy (by omega) hc) ?_
      refine Ev.blk (is := [.l2i]) (pc2 := 26) (L2 := [(2, v0), (0, v1), (0, v2)]) (S2 := [(0, w32 u4)]) (h2 := h3) (by decide +kernel) rfl trivial ?_
      cases hx
      exact Ev.ret (i := .ireturn) (len := 1) (by decide +kernel) rfl (finOf (t := some .int) rfl (trivial))
theorem y_R_bound_26 {sc : AS} {d : Nat} (hd : 1 ≤ d) : ∀ (fu : Nat) (v0 : Int) (v1 : Int) (v2 : Int) (h : AH) (r : (Int × AH)), R_bound_26 fu v0 v1 v2 h = some r → Ev sc d 252 26 [(2, v0), (0, v1), (0, v2)] [] h (some (0, r.1)) r.2 := by
  intro fu
  induction fu with
  | zero => intro v0 v1 v2 h r hx; unfold R_bound_26 at hx; cases hx
  | succ fu ih =>
    intro v0 v1 v2 h r hx
    unfold R_bound_26 at hx
    obtain ⟨u1, hg, he, hx⟩ := bgd hx
    refine Ev.blk (is := [.aload_n 0, .aload_n 0, .getfield 9204]) (pc2 := 31) (L2 := [(2, v0), (0, v1), (0, v2)]) (S2 := [(2, u1), (2, v0)]) (h2 := h) (by decide +kernel) (by subst he; rfl) (by exact hg) ?_
    clear hg he
    obtain ⟨u2, hg, he, hx⟩ := bgd hx
    refine Ev.blk (is := [.iload_n 2, .iaload]) (pc2 := 33) (L2 := [(2, v0), (0, v1), (0, v2)]) (S2 := [(0, u2), (2, v0)]) (h2 := h) (by decide +kernel) (by subst he; rfl) (by exact hg) ?_
    clear hg he
    obtain ⟨_, hg, -, hx⟩ := bgd hx
    obtain ⟨u3, hc, hx⟩ := bca hx
    refine Ev.call (args := [(2, v0), (0, u2)]) (S2 := []) (r1 := (some (1, u3))) (h1 := h) (i := .invokevirtual 251) (by decide +kernel) rfl rfl (Nat.le_of_ble_eq_true rfl) (Or.inr (Or.inl ⟨rfl, hg, by decide +kernel⟩)) (x_R_smoothBy (by omega) hc) ?_
    obtain ⟨u4, hg, he, hx⟩ := bgd hx
    refine Ev.blk (is := [.aload_n 0, .aload_n 0, .getfield 9204]) (pc2 := 41) (L2 := [(2, v0), (0, v1), (0, v2)]) (S2 := [(2, u4), (2, v0), (1, u3)]) (h2 := h) (by decide +kernel) (by subst he; rfl) (by exact hg) ?_
    clear hg he
    obtain ⟨u5, hg, he, hx⟩ := bgd hx
    refine Ev.blk (is := [.iload_n 2, .iaload]) (pc2 := 43) (L2 := [(2, v0), (0, v1), (0, v2)]) (S2 := [(0, u5), (2, v0), (1, u3)]) (h2 := h) (by decide +kernel) (by subst he; rfl) (by exact hg) ?_
    clear hg he
    obtain ⟨_, hg, -, hx⟩ := bgd hx
    obtain ⟨u6, hc, hx⟩ := bca hx
    refine Ev.call (args := [(2, v0), (0, u5)]) (S2 := [(1, u3)]) (r1 := (some (1, u6))) (h1 := h) (i := .invokevirtual 251) (by decide +kernel) rfl rfl (Nat.le_of_ble_eq_true rfl) (Or.inr (Or.inl ⟨rfl, hg, by decide +kernel⟩)) (x_R_smoothBy (by omega) hc) ?_
    refine Ev.blk (is := [.lmul, .iload_n 1, .i2l, .lcmp]) (pc2 := 50) (L2 := [(2, v0), (0, v1), (0, v2)]) (S2 := [(0, cmpL (w64 (u3 * u6)) v1)]) (h2 := h) (by decide +kernel) rfl trivial ?_
    obtain ⟨ha, hb⟩ := bite hx
    clear hx
    refine Ev.br (i := .ifCond .gt 9) (len := 3) (a := 59) (b := 53) (by decide +kernel) rfl cmpL_gt (fun hc => ?_) (fun hc => ?_)
    · have hx := ha hc
      clear ha hb hc
      obtain ⟨u7, hg, he, hx⟩ := bgd hx
      refine Ev.blk (is := [.aload_n 0, .getfield 9204]) (pc2 := 63) (L2 := [(2, v0), (0, v1), (0, v2)]) (S2 := [(2, u7)]) (h2 := h) (by decide +kernel) (by subst he; rfl) (by exact hg) ?_
      clear hg he
      obtain ⟨u8, hg, he, hx⟩ := bgd hx
      refine Ev.blk (is := [.iload_n 2, .iaload]) (pc2 := 65) (L2 := [(2, v0), (0, v1), (0, v2)]) (S2 := [(0, u8)]) (h2 := h) (by decide +kernel) (by subst he; rfl) (by exact hg) ?_
      clear hg he
      cases hx
      exact Ev.ret (i := .ireturn) (len := 1) (by decide +kernel) rfl (finOf (t := some .int) rfl (trivial))
    · have hx := hb hc
      clear ha hb hc
      refine Ev.blk (is := [.iinc 2 1]) (pc2 := 56) (L2 := [(2, v0), (0, v1), (0, w32 (v2 + 1))]) (S2 := []) (h2 := h) (by decide +kernel) rfl trivial ?_
      refine Ev.jp (i := .goto (-30)) (len := 3) (pc2 := 26) (by decide +kernel) rfl ?_
      exact ih v0 v1 (w32 (v2 + 1)) h _ hx
theorem x_R_bound {sc : AS} {d : Nat} (hd : 2 ≤ d) {v0 : Int} {v1 : Int} {h : AH} {r : (Int × AH)} (hx : R_bound v0 v1 h = some r) : Runs sc d 252 [(2, v0), (0, v1)] h (some (0, r.1)) r.2 := by
  obtain ⟨d, rfl⟩ : ∃ e, d = e + 1 := ⟨d - 1, by omega⟩
  have hd : 1 ≤ d := by omega
  unfold R_bound at hx
  refine ⟨⟨aM_252, rfl, Nat.le_of_ble_eq_true rfl⟩, ?_⟩
  show Ev sc d 252 0 [(2, v0), (0, v1), (9, 0)] [] h (some (0, r.1)) r.2
  refine Ev.blk (is := [.iload_n 1, .i2l, .jsr_w 3, .jsr_w 1000000000]) (pc2 := 8) (L2 := [(2, v0), (0, v1), (9, 0)]) (S2 := [(1, 1000000000), (1, 3), (1, v1)]) (h2 := h) (by decide +kernel) rfl trivial ?_
  obtain ⟨u1, hc, hx⟩ := bca hx
  refine Ev.call (args := [(1, v1), (1, 3), (1, 1000000000)]) (S2 := []) (r1 := (some (0, u1))) (h1 := h) (i := .invokestatic 162) (by decide +kernel) rfl rfl (Nat.le_of_ble_eq_true rfl) (Or.inl rfl) (x_R_in (by omega) hc) ?_
  obtain ⟨ha, hb⟩ := bite hx
  clear hx
  refine Ev.br (i := .ifCond .ne 5) (len := 3) (a := 14) (b := 16) (by decide +kernel) rfl Iff.rfl (fun hc => ?_) (fun hc => ?_)
  · have hx := ha hc
    clear ha hb hc
    refine Ev.blk (is := [.iconst (-1)]) (pc2 := 15) (L2 := [(2, v0), (0, v1), (9, 0)]) (S2 := [(0, (-1))]) (h2 := h) (by decide +kernel) rfl trivial ?_
    cases hx
    exact Ev.ret (i := .ireturn) (len := 1) (by decide +kernel) rfl (finOf (t := some .int) rfl (trivial))
  · have hx := hb hc
    clear ha hb hc
    refine Ev.blk (is := [.aload_n 0, .iload_n 1, .i2l, .lconst 1, .lsub]) (pc2 := 21) (L2 := [(2, v0), (0, v1), (9, 0)]) (S2 := [(1, w64 (v1 - 1)), (2, v0)]) (h2 := h) (by decide +kernel) rfl trivial ?_
    obtain ⟨_, hg, -, hx⟩ := bgd hx
    obtain ⟨h3, hc, hx⟩ := bca hx
    refine Ev.call (args := [(2, v0), (1, w64 (v1 - 1))]) (S2 := []) (r1 := none) (h1 := h3) (i := .invokevirtual 188) (by decide +kernel) rfl rfl (Nat.le_of_ble_eq_true rfl) (Or.inr (Or.inl ⟨rfl, hg, by decide +kernel⟩)) (x_R_laysFactors (by omega) hc) ?_
    refine Ev.blk (is := [.iconst 0, .istore_n 2]) (pc2 := 26) (L2 := [(2, v0), (0, v1), (0, 0)]) (S2 := []) (h2 := h3) (by decide +kernel) rfl trivial ?_
    exact y_R_bound_26 hd FU v0 v1 0 h3 _ hx
theorem y_R_chase_96 {sc : AS} {d : Nat} (hd : 2 ≤ d) {k34 : Int → Int → Int → Int → Int → Option Int} (hk34 : ∀ (v1 : Int) (v2 : Int) (v3 : Int) (v5 : Int) (v7 : Int) (h : AH) (r : Int), k34 v1 v2 v3 v5 v7 = some r → Ev sc d 253 34 [(9, 0), (0, v1), (0, v2), (1, v3), (8, 0), (1, v5), (8, 0), (0, v7), (9, 0), (9, 0)] [] h (some (0, r)) h) : ∀ (v1 : Int) (v2 : Int) (v3 : Int) (v5 : Int) (v7 : Int) (s0 : Int) (h : AH) (r : Int), R_chase_96 k34 v1 v2 v3 v5 v7 s0 = some r → Ev sc d 253 96 [(9, 0), (0, v1), (0, v2), (1, v3), (8, 0), (1, v5), (8, 0), (0, v7), (9, 0), (9, 0)] [(1, s0)] h (some (0, r)) h := by
  intro v1 v2 v3 v5 v7 s0 h r hx
  unfold R_chase_96 at hx
  refine Ev.blk (is := [.iload_n 1, .i2l]) (pc2 := 98) (L2 := [(9, 0), (0, v1), (0, v2), (1, v3), (8, 0), (1, v5), (8, 0), (0, v7), (9, 0), (9, 0)]) (S2 := [(1, v1), (1, s0)]) (h2 := h) (by decide +kernel) rfl trivial ?_
  obtain ⟨u1, hc, hx⟩ := bca hx
  refine Ev.call (args := [(1, s0), (1, v1)]) (S2 := []) (r1 := (some (1, u1))) (h1 := h) (i := .invokestatic 176) (by decide +kernel) rfl rfl (Nat.le_of_ble_eq_true rfl) (Or.inl rfl) (x_R_common (by omega) hc) ?_
  refine Ev.blk (is := [.lstore 8, .lload 8, .lconst 1, .lcmp]) (pc2 := 107) (L2 := [(9, 0), (0, v1), (0, v2), (1, v3), (8, 0), (1, v5), (8, 0), (0, v7), (1, u1), (8, 0)]) (S2 := [(0, cmpL u1 1)]) (h2 := h) (by decide +kernel) rfl trivial ?_
  obtain ⟨ha, hb⟩ := bite hx
  clear hx
  refine Ev.br (i := .ifCond .eq 7) (len := 3) (a := 114) (b := 110) (by decide +kernel) rfl cmpL_eq (fun hc => ?_) (fun hc => ?_)
  · have hx := ha hc
    clear ha hb hc
    refine Ev.blk (is := [.iinc 7 1]) (pc2 := 117) (L2 := [(9, 0), (0, v1), (0, v2), (1, v3), (8, 0), (1, v5), (8, 0), (0, w32 (v7 + 1)), (1, u1), (8, 0)]) (S2 := []) (h2 := h) (by decide +kernel) rfl trivial ?_
    refine Ev.jp (i := .goto (-83)) (len := 3) (pc2 := 34) (by decide +kernel) rfl ?_
    refine Ev.wk (L2 := [(9, 0), (0, v1), (0, v2), (1, v3), (8, 0), (1, v5), (8, 0), (0, w32 (v7 + 1)), (9, 0), (9, 0)]) (wkL_of ⟨Or.inl rfl, ⟨Or.inl rfl, ⟨Or.inl rfl, ⟨Or.inl rfl, ⟨Or.inl rfl, ⟨Or.inl rfl, ⟨Or.inl rfl, ⟨Or.inl rfl, ⟨Or.inr rfl, ⟨Or.inr rfl, trivial⟩⟩⟩⟩⟩⟩⟩⟩⟩⟩) ?_
    exact hk34 v1 v2 v3 v5 (w32 (v7 + 1)) h _ hx
  · have hx := hb hc
    clear ha hb hc
    refine Ev.blk (is := [.lload 8, .l2i]) (pc2 := 113) (L2 := [(9, 0), (0, v1), (0, v2), (1, v3), (8, 0), (1, v5), (8, 0), (0, v7), (1, u1), (8, 0)]) (S2 := [(0, w32 u1)]) (h2 := h) (by decide +kernel) rfl trivial ?_
    cases hx
    exact Ev.ret (i := .ireturn) (len := 1) (by decide +kernel) rfl (finOf (t := some .int) rfl (trivial))
theorem y_R_chase_34 {sc : AS} {d : Nat} (hd : 2 ≤ d) : ∀ (fu : Nat) (v1 : Int) (v2 : Int) (v3 : Int) (v5 : Int) (v7 : Int) (h : AH) (r : Int), R_chase_34 fu v1 v2 v3 v5 v7 = some r → Ev sc d 253 34 [(9, 0), (0, v1), (0, v2), (1, v3), (8, 0), (1, v5), (8, 0), (0, v7), (9, 0), (9, 0)] [] h (some (0, r)) h := by
  intro fu
  induction fu with
  | zero => intro v1 v2 v3 v5 v7 h r hx; unfold R_chase_34 at hx; cases hx
  | succ fu ih =>
    intro v1 v2 v3 v5 v7 h r hx
    unfold R_chase_34 at hx
    refine Ev.blk (is := [.iload 7, .sipush 1000]) (pc2 := 39) (L2 := [(9, 0), (0, v1), (0, v2), (1, v3), (8, 0), (1, v5), (8, 0), (0, v7), (9, 0), (9, 0)]) (S2 := [(0, 1000), (0, v7)]) (h2 := h) (by decide +kernel) rfl trivial ?_
    obtain ⟨ha, hb⟩ := bite hx
    clear hx
    refine Ev.br (i := .if_icmp .ge 81) (len := 3) (a := 42) (b := 120) (by decide +kernel) rfl Iff.rfl (fun hc => ?_) (fun hc => ?_)
    · have hx := ha hc
      clear ha hb hc
      obtain ⟨u1, hg, he, hx⟩ := bgd hx
      refine Ev.blk (is := [.lload_n 3, .lload_n 3, .lmul, .iload_n 2, .i2l, .ladd, .iload_n 1, .i2l, .lrem]) (pc2 := 51) (L2 := [(9, 0), (0, v1), (0, v2), (1, v3), (8, 0), (1, v5), (8, 0), (0, v7), (9, 0), (9, 0)]) (S2 := [(1, u1)]) (h2 := h) (by decide +kernel) (by subst he; rfl) (by exact hg) ?_
      clear hg he
      obtain ⟨u2, hg, he, hx⟩ := bgd hx
      refine Ev.blk (is := [.lstore_n 3, .lload 5, .lload 5, .lmul, .iload_n 2, .i2l, .ladd, .iload_n 1, .i2l, .lrem]) (pc2 := 63) (L2 := [(9, 0), (0, v1), (0, v2), (1, u1), (8, 0), (1, v5), (8, 0), (0, v7), (9, 0), (9, 0)]) (S2 := [(1, u2)]) (h2 := h) (by decide +kernel) (by subst he; rfl) (by exact hg) ?_
      clear hg he
      obtain ⟨u3, hg, he, hx⟩ := bgd hx
      refine Ev.blk (is := [.lstore 5, .lload 5, .lload 5, .lmul, .iload_n 2, .i2l, .ladd, .iload_n 1, .i2l, .lrem]) (pc2 := 76) (L2 := [(9, 0), (0, v1), (0, v2), (1, u1), (8, 0), (1, u2), (8, 0), (0, v7), (9, 0), (9, 0)]) (S2 := [(1, u3)]) (h2 := h) (by decide +kernel) (by subst he; rfl) (by exact hg) ?_
      clear hg he
      refine Ev.blk (is := [.lstore 5, .lload_n 3, .lload 5, .lcmp]) (pc2 := 82) (L2 := [(9, 0), (0, v1), (0, v2), (1, u1), (8, 0), (1, u3), (8, 0), (0, v7), (9, 0), (9, 0)]) (S2 := [(0, cmpL u1 u3)]) (h2 := h) (by decide +kernel) rfl trivial ?_
      obtain ⟨ha, hb⟩ := bite hx
      clear hx
      refine Ev.br (i := .ifCond .le 10) (len := 3) (a := 85) (b := 92) (by decide +kernel) rfl cmpL_gt (fun hc => ?_) (fun hc => ?_)
      · have hx := ha hc
        clear ha hb hc
        refine Ev.blk (is := [.lload_n 3, .lload 5, .lsub]) (pc2 := 89) (L2 := [(9, 0), (0, v1), (0, v2), (1, u1), (8, 0), (1, u3), (8, 0), (0, v7), (9, 0), (9, 0)]) (S2 := [(1, w64 (u1 - u3))]) (h2 := h) (by decide +kernel) rfl trivial ?_
        refine Ev.jp (i := .goto 7) (len := 3) (pc2 := 96) (by decide +kernel) rfl ?_
        exact y_R_chase_96 hd ih v1 v2 u1 u3 v7 (w64 (u1 - u3)) h _ hx
      · have hx := hb hc
        clear ha hb hc
        refine Ev.blk (is := [.lload 5, .lload_n 3, .lsub]) (pc2 := 96) (L2 := [(9, 0), (0, v1), (0, v2), (1, u1), (8, 0), (1, u3), (8, 0), (0, v7), (9, 0), (9, 0)]) (S2 := [(1, w64 (u3 - u1))]) (h2 := h) (by decide +kernel) rfl trivial ?_
        exact y_R_chase_96 hd ih v1 v2 u1 u3 v7 (w64 (u3 - u1)) h _ hx
    · have hx := hb hc
      clear ha hb hc
      refine Ev.blk (is := [.sipush (-2)]) (pc2 := 122) (L2 := [(9, 0), (0, v1), (0, v2), (1, v3), (8, 0), (1, v5), (8, 0), (0, v7), (9, 0), (9, 0)]) (S2 := [(0, (-2))]) (h2 := h) (by decide +kernel) rfl trivial ?_
      cases hx
      exact Ev.ret (i := .ireturn) (len := 1) (by decide +kernel) rfl (finOf (t := some .int) rfl (trivial))
theorem x_R_chase {sc : AS} {d : Nat} (hd : 3 ≤ d) {v0 : Int} {v1 : Int} {v2 : Int} {h : AH} {r : Int} (hx : R_chase v0 v1 v2 = some r) : Runs sc d 253 [(2, v0), (0, v1), (0, v2)] h (some (0, r)) h := by
  obtain ⟨d, rfl⟩ : ∃ e, d = e + 1 := ⟨d - 1, by omega⟩
  have hd : 2 ≤ d := by omega
  unfold R_chase at hx
  refine ⟨⟨aM_253, rfl, Nat.le_of_ble_eq_true rfl⟩, ?_⟩
  show Ev sc d 253 0 [(2, v0), (0, v1), (0, v2), (9, 0), (9, 0), (9, 0), (9, 0), (9, 0), (9, 0), (9, 0)] [] h (some (0, r)) h
  refine Ev.blk (is := [.iload_n 1, .i2l]) (pc2 := 2) (L2 := [(2, v0), (0, v1), (0, v2), (9, 0), (9, 0), (9, 0), (9, 0), (9, 0), (9, 0), (9, 0)]) (S2 := [(1, v1)]) (h2 := h) (by decide +kernel) rfl trivial ?_
  obtain ⟨u1, hc, hx⟩ := bca hx
  refine Ev.call (args := [(1, v1)]) (S2 := []) (r1 := (some (0, u1))) (h1 := h) (i := .invokestatic 163) (by decide +kernel) rfl rfl (Nat.le_of_ble_eq_true rfl) (Or.inl rfl) (x_R_isNumber (by omega) hc) ?_
  obtain ⟨ha, hb⟩ := bite hx
  clear hx
  refine Ev.br (i := .ifCond .eq 15) (len := 3) (a := 20) (b := 8) (by decide +kernel) rfl Iff.rfl (fun hc => ?_) (fun hc => ?_)
  · have hx := ha hc
    clear ha hb hc
    refine Ev.blk (is := [.iconst (-1)]) (pc2 := 21) (L2 := [(2, v0), (0, v1), (0, v2), (9, 0), (9, 0), (9, 0), (9, 0), (9, 0), (9, 0), (9, 0)]) (S2 := [(0, (-1))]) (h2 := h) (by decide +kernel) rfl trivial ?_
    cases hx
    exact Ev.ret (i := .ireturn) (len := 1) (by decide +kernel) rfl (finOf (t := some .int) rfl (trivial))
  · have hx := hb hc
    clear ha hb hc
    refine Ev.blk (is := [.iload_n 2, .i2l, .lconst 1, .jsr_w 99]) (pc2 := 14) (L2 := [(2, v0), (0, v1), (0, v2), (9, 0), (9, 0), (9, 0), (9, 0), (9, 0), (9, 0), (9, 0)]) (S2 := [(1, 99), (1, 1), (1, v2)]) (h2 := h) (by decide +kernel) rfl trivial ?_
    obtain ⟨u2, hc, hx⟩ := bca hx
    refine Ev.call (args := [(1, v2), (1, 1), (1, 99)]) (S2 := []) (r1 := (some (0, u2))) (h1 := h) (i := .invokestatic 162) (by decide +kernel) rfl rfl (Nat.le_of_ble_eq_true rfl) (Or.inl rfl) (x_R_in (by omega) hc) ?_
    obtain ⟨ha, hb⟩ := bite hx
    clear hx
    refine Ev.br (i := .ifCond .ne 5) (len := 3) (a := 20) (b := 22) (by decide +kernel) rfl Iff.rfl (fun hc => ?_) (fun hc => ?_)
    · have hx := ha hc
      clear ha hb hc
      refine Ev.blk (is := [.iconst (-1)]) (pc2 := 21) (L2 := [(2, v0), (0, v1), (0, v2), (9, 0), (9, 0), (9, 0), (9, 0), (9, 0), (9, 0), (9, 0)]) (S2 := [(0, (-1))]) (h2 := h) (by decide +kernel) rfl trivial ?_
      cases hx
      exact Ev.ret (i := .ireturn) (len := 1) (by decide +kernel) rfl (finOf (t := some .int) rfl (trivial))
    · have hx := hb hc
      clear ha hb hc
      refine Ev.blk (is := [.jsr_w 2, .lstore_n 3, .jsr_w 2, .lstore 5, .iconst 0, .istore 7]) (pc2 := 34) (L2 := [(2, v0), (0, v1), (0, v2), (1, 2), (8, 0), (1, 2), (8, 0), (0, 0), (9, 0), (9, 0)]) (S2 := []) (h2 := h) (by decide +kernel) rfl trivial ?_
      refine Ev.wk (L2 := [(9, 0), (0, v1), (0, v2), (1, 2), (8, 0), (1, 2), (8, 0), (0, 0), (9, 0), (9, 0)]) (wkL_of ⟨Or.inr rfl, ⟨Or.inl rfl, ⟨Or.inl rfl, ⟨Or.inl rfl, ⟨Or.inl rfl, ⟨Or.inl rfl, ⟨Or.inl rfl, ⟨Or.inl rfl, ⟨Or.inl rfl, ⟨Or.inl rfl, trivial⟩⟩⟩⟩⟩⟩⟩⟩⟩⟩) ?_
      exact y_R_chase_34 hd FU v1 v2 2 2 0 h _ hx
theorem y_R_primes_32 {sc : AS} {d : Nat} (hd : 1 ≤ d) : ∀ (fu : Nat) (v2 : Int) (v3 : Int) (v4 : Int) (h : AH) (r : Int), R_primes_32 fu v2 v3 v4 = some r → Ev sc d 254 32 [(9, 0), (9, 0), (0, v2), (0, v3), (0, v4)] [] h (some (0, r)) h := by
  intro fu
  induction fu with
  | zero => intro v2 v3 v4 h r hx; unfold R_primes_32 at hx; cases hx
  | succ fu ih =>
    intro v2 v3 v4 h r hx
    unfold R_primes_32 at hx
    refine Ev.blk (is := [.iload 4, .iload_n 2]) (pc2 := 35) (L2 := [(9, 0), (9, 0), (0, v2), (0, v3), (0, v4)]) (S2 := [(0, v2), (0, v4)]) (h2 := h) (by decide +kernel) rfl trivial ?_
    obtain ⟨ha, hb⟩ := bite hx
    clear hx
    refine Ev.br (i := .if_icmp .gt 21) (len := 3) (a := 56) (b := 38) (by decide +kernel) rfl Iff.rfl (fun hc => ?_) (fun hc => ?_)
    · have hx := ha hc
      clear ha hb hc
      refine Ev.blk (is := [.iload_n 3]) (pc2 := 57) (L2 := [(9, 0), (9, 0), (0, v2), (0, v3), (0, v4)]) (S2 := [(0, v3)]) (h2 := h) (by decide +kernel) rfl trivial ?_
      cases hx
      exact Ev.ret (i := .ireturn) (len := 1) (by decide +kernel) rfl (finOf (t := some .int) rfl (trivial))
    · have hx := hb hc
      clear ha hb hc
      refine Ev.blk (is := [.iload 4, .i2l]) (pc2 := 41) (L2 := [(9, 0), (9, 0), (0, v2), (0, v3), (0, v4)]) (S2 := [(1, v4)]) (h2 := h) (by decide +kernel) rfl trivial ?_
      obtain ⟨u1, hc, hx⟩ := bca hx
      refine Ev.call (args := [(1, v4)]) (S2 := []) (r1 := (some (0, u1))) (h1 := h) (i := .invokestatic 166) (by decide +kernel) rfl rfl (Nat.le_of_ble_eq_true rfl) (Or.inl rfl) (x_R_isPrime (by omega) hc) ?_
      obtain ⟨ha, hb⟩ := bite hx
      clear hx
      refine Ev.br (i := .ifCond .eq 6) (len := 3) (a := 50) (b := 47) (by decide +kernel) rfl Iff.rfl (fun hc => ?_) (fun hc => ?_)
      · have hx := ha hc
        clear ha hb hc
        refine Ev.blk (is := [.iinc 4 1]) (pc2 := 53) (L2 := [(9, 0), (9, 0), (0, v2), (0, v3), (0, w32 (v4 + 1))]) (S2 := []) (h2 := h) (by decide +kernel) rfl trivial ?_
        refine Ev.jp (i := .goto (-21)) (len := 3) (pc2 := 32) (by decide +kernel) rfl ?_
        exact ih v2 v3 (w32 (v4 + 1)) h _ hx
      · have hx := hb hc
        clear ha hb hc
        refine Ev.blk (is := [.iinc 3 1, .iinc 4 1]) (pc2 := 53) (L2 := [(9, 0), (9, 0), (0, v2), (0, w32 (v3 + 1)), (0, w32 (v4 + 1))]) (S2 := []) (h2 := h) (by decide +kernel) rfl trivial ?_
        refine Ev.jp (i := .goto (-21)) (len := 3) (pc2 := 32) (by decide +kernel) rfl ?_
        exact ih v2 (w32 (v3 + 1)) (w32 (v4 + 1)) h _ hx
theorem x_R_primes {sc : AS} {d : Nat} (hd : 2 ≤ d) {v0 : Int} {v1 : Int} {v2 : Int} {h : AH} {r : Int} (hx : R_primes v0 v1 v2 = some r) : Runs sc d 254 [(2, v0), (0, v1), (0, v2)] h (some (0, r)) h := by
  obtain ⟨d, rfl⟩ : ∃ e, d = e + 1 := ⟨d - 1, by omega⟩
  have hd : 1 ≤ d := by omega
  unfold R_primes at hx
  refine ⟨⟨aM_254, rfl, Nat.le_of_ble_eq_true rfl⟩, ?_⟩
  show Ev sc d 254 0 [(2, v0), (0, v1), (0, v2), (9, 0), (9, 0)] [] h (some (0, r)) h
  refine Ev.blk (is := [.iload_n 1]) (pc2 := 1) (L2 := [(2, v0), (0, v1), (0, v2), (9, 0), (9, 0)]) (S2 := [(0, v1)]) (h2 := h) (by decide +kernel) rfl trivial ?_
  obtain ⟨ha, hb⟩ := bite hx
  clear hx
  refine Ev.br (i := .ifCond .lt 24) (len := 3) (a := 25) (b := 4) (by decide +kernel) rfl Iff.rfl (fun hc => ?_) (fun hc => ?_)
  · have hx := ha hc
    clear ha hb hc
    refine Ev.blk (is := [.iconst (-1)]) (pc2 := 26) (L2 := [(2, v0), (0, v1), (0, v2), (9, 0), (9, 0)]) (S2 := [(0, (-1))]) (h2 := h) (by decide +kernel) rfl trivial ?_
    cases hx
    exact Ev.ret (i := .ireturn) (len := 1) (by decide +kernel) rfl (finOf (t := some .int) rfl (trivial))
  · have hx := hb hc
    clear ha hb hc
    refine Ev.blk (is := [.iload_n 2, .iload_n 1]) (pc2 := 6) (L2 := [(2, v0), (0, v1), (0, v2), (9, 0), (9, 0)]) (S2 := [(0, v1), (0, v2)]) (h2 := h) (by decide +kernel) rfl trivial ?_
    obtain ⟨ha, hb⟩ := bite hx
    clear hx
    refine Ev.br (i := .if_icmp .lt 19) (len := 3) (a := 25) (b := 9) (by decide +kernel) rfl Iff.rfl (fun hc => ?_) (fun hc => ?_)
    · have hx := ha hc
      clear ha hb hc
      refine Ev.blk (is := [.iconst (-1)]) (pc2 := 26) (L2 := [(2, v0), (0, v1), (0, v2), (9, 0), (9, 0)]) (S2 := [(0, (-1))]) (h2 := h) (by decide +kernel) rfl trivial ?_
      cases hx
      exact Ev.ret (i := .ireturn) (len := 1) (by decide +kernel) rfl (finOf (t := some .int) rfl (trivial))
    · have hx := hb hc
      clear ha hb hc
      refine Ev.blk (is := [.iload_n 2, .sipush 1000000000]) (pc2 := 13) (L2 := [(2, v0), (0, v1), (0, v2), (9, 0), (9, 0)]) (S2 := [(0, 1000000000), (0, v2)]) (h2 := h) (by decide +kernel) rfl trivial ?_
      obtain ⟨ha, hb⟩ := bite hx
      clear hx
      refine Ev.br (i := .if_icmp .gt 12) (len := 3) (a := 25) (b := 16) (by decide +kernel) rfl Iff.rfl (fun hc => ?_) (fun hc => ?_)
      · have hx := ha hc
        clear ha hb hc
        refine Ev.blk (is := [.iconst (-1)]) (pc2 := 26) (L2 := [(2, v0), (0, v1), (0, v2), (9, 0), (9, 0)]) (S2 := [(0, (-1))]) (h2 := h) (by decide +kernel) rfl trivial ?_
        cases hx
        exact Ev.ret (i := .ireturn) (len := 1) (by decide +kernel) rfl (finOf (t := some .int) rfl (trivial))
      · have hx := hb hc
        clear ha hb hc
        refine Ev.blk (is := [.iload_n 2, .iload_n 1, .isub, .sipush 1000]) (pc2 := 22) (L2 := [(2, v0), (0, v1), (0, v2), (9, 0), (9, 0)]) (S2 := [(0, 1000), (0, w32 (v2 - v1))]) (h2 := h) (by decide +kernel) rfl trivial ?_
        obtain ⟨ha, hb⟩ := bite hx
        clear hx
        refine Ev.br (i := .if_icmp .lt 5) (len := 3) (a := 27) (b := 25) (by decide +kernel) rfl Iff.rfl (fun hc => ?_) (fun hc => ?_)
        · have hx := ha hc
          clear ha hb hc
          refine Ev.blk (is := [.iconst 0, .istore_n 3, .iload_n 1, .istore 4]) (pc2 := 32) (L2 := [(2, v0), (0, v1), (0, v2), (0, 0), (0, v1)]) (S2 := []) (h2 := h) (by decide +kernel) rfl trivial ?_
          refine Ev.wk (L2 := [(9, 0), (9, 0), (0, v2), (0, 0), (0, v1)]) (wkL_of ⟨Or.inr rfl, ⟨Or.inr rfl, ⟨Or.inl rfl, ⟨Or.inl rfl, ⟨Or.inl rfl, trivial⟩⟩⟩⟩⟩) ?_
          exact y_R_primes_32 hd FU v2 0 v1 h _ hx
        · have hx := hb hc
          clear ha hb hc
          refine Ev.blk (is := [.iconst (-1)]) (pc2 := 26) (L2 := [(2, v0), (0, v1), (0, v2), (9, 0), (9, 0)]) (S2 := [(0, (-1))]) (h2 := h) (by decide +kernel) rfl trivial ?_
          cases hx
          exact Ev.ret (i := .ireturn) (len := 1) (by decide +kernel) rfl (finOf (t := some .int) rfl (trivial))
theorem x_R_isOdd {sc : AS} {d : Nat} (hd : 2 ≤ d) {v0 : Int} {h : AH} {r : Int} (hx : R_isOdd v0 = some r) : Runs sc d 256 [(0, v0)] h (some (0, r)) h := by
  obtain ⟨d, rfl⟩ : ∃ e, d = e + 1 := ⟨d - 1, by omega⟩
  have hd : 1 ≤ d := by omega
  unfold R_isOdd at hx
  refine ⟨⟨aM_256, rfl, Nat.le_of_ble_eq_true rfl⟩, ?_⟩
  show Ev sc d 256 0 [(0, v0)] [] h (some (0, r)) h
  refine Ev.blk (is := [.iload_n 0, .i2l, .jsr_w 3, .jsr_w 1000000000]) (pc2 := 8) (L2 := [(0, v0)]) (S2 := [(1, 1000000000), (1, 3), (1, v0)]) (h2 := h) (by decide +kernel) rfl trivial ?_
  obtain ⟨u1, hc, hx⟩ := bca hx
  refine Ev.call (args := [(1, v0), (1, 3), (1, 1000000000)]) (S2 := []) (r1 := (some (0, u1))) (h1 := h) (i := .invokestatic 162) (by decide +kernel) rfl rfl (Nat.le_of_ble_eq_true rfl) (Or.inl rfl) (x_R_in (by omega) hc) ?_
  obtain ⟨ha, hb⟩ := bite hx
  clear hx
  refine Ev.br (i := .ifCond .eq 14) (len := 3) (a := 25) (b := 14) (by decide +kernel) rfl Iff.rfl (fun hc => ?_) (fun hc => ?_)
  · have hx := ha hc
    clear ha hb hc
    refine Ev.blk (is := [.iconst 0]) (pc2 := 26) (L2 := [(0, v0)]) (S2 := [(0, 0)]) (h2 := h) (by decide +kernel) rfl trivial ?_
    cases hx
    exact Ev.ret (i := .ireturn) (len := 1) (by decide +kernel) rfl (finOf (t := some .boolean) rfl (bz0))
  · have hx := hb hc
    clear ha hb hc
    obtain ⟨u2, hg, he, hx⟩ := bgd hx
    refine Ev.blk (is := [.iload_n 0, .iconst 2, .irem]) (pc2 := 17) (L2 := [(0, v0)]) (S2 := [(0, u2)]) (h2 := h) (by decide +kernel) (by subst he; rfl) (by exact hg) ?_
    clear hg he
    refine Ev.blk (is := [.iconst 1]) (pc2 := 18) (L2 := [(0, v0)]) (S2 := [(0, 1), (0, u2)]) (h2 := h) (by decide +kernel) rfl trivial ?_
    obtain ⟨ha, hb⟩ := bite hx
    clear hx
    refine Ev.br (i := .if_icmp .ne 7) (len := 3) (a := 21) (b := 25) (by decide +kernel) rfl Iff.rfl (fun hc => ?_) (fun hc => ?_)
    · have hx := ha hc
      clear ha hb hc
      refine Ev.blk (is := [.iconst 1]) (pc2 := 22) (L2 := [(0, v0)]) (S2 := [(0, 1)]) (h2 := h) (by decide +kernel) rfl trivial ?_
      refine Ev.jp (i := .goto 4) (len := 3) (pc2 := 26) (by decide +kernel) rfl ?_
      cases hx
      exact Ev.ret (i := .ireturn) (len := 1) (by decide +kernel) rfl (finOf (t := some .boolean) rfl (bz1))
    · have hx := hb hc
      clear ha hb hc
      refine Ev.blk (is := [.iconst 0]) (pc2 := 26) (L2 := [(0, v0)]) (S2 := [(0, 0)]) (h2 := h) (by decide +kernel) rfl trivial ?_
      cases hx
      exact Ev.ret (i := .ireturn) (len := 1) (by decide +kernel) rfl (finOf (t := some .boolean) rfl (bz0))
theorem y_R_doesPass_45 {sc : AS} {d : Nat} (hd : 1 ≤ d) : ∀ (fu : Nat) (v0 : Int) (v4 : Int) (v6 : Int) (h : AH) (r : Int), R_doesPass_45 fu v0 v4 v6 = some r → Ev sc d 257 45 [(1, v0), (8, 0), (9, 0), (9, 0), (1, v4), (8, 0), (1, v6), (8, 0)] [] h (some (0, r)) h := by
  intro fu
  induction fu with
  | zero => intro v0 v4 v6 h r hx; unfold R_doesPass_45 at hx; cases hx
  | succ fu ih =>
    intro v0 v4 v6 h r hx
    unfold R_doesPass_45 at hx
    refine Ev.blk (is := [.lload 4, .lload_n 0, .lconst 1, .lsub, .lcmp]) (pc2 := 51) (L2 := [(1, v0), (8, 0), (9, 0), (9, 0), (1, v4), (8, 0), (1, v6), (8, 0)]) (S2 := [(0, cmpL v4 (w64 (v0 - 1)))]) (h2 := h) (by decide +kernel) rfl trivial ?_
    obtain ⟨ha, hb⟩ := bite hx
    clear hx
    refine Ev.br (i := .ifCond .ge 34) (len := 3) (a := 54) (b := 85) (by decide +kernel) rfl cmpL_lt (fun hc => ?_) (fun hc => ?_)
    · have hx := ha hc
      clear ha hb hc
      refine Ev.blk (is := [.lload 6, .lload_n 0, .lconst 1, .lsub, .lcmp]) (pc2 := 60) (L2 := [(1, v0), (8, 0), (9, 0), (9, 0), (1, v4), (8, 0), (1, v6), (8, 0)]) (S2 := [(0, cmpL v6 (w64 (v0 - 1)))]) (h2 := h) (by decide +kernel) rfl trivial ?_
      obtain ⟨ha, hb⟩ := bite hx
      clear hx
      refine Ev.br (i := .ifCond .ne 5) (len := 3) (a := 63) (b := 65) (by decide +kernel) rfl cmpL_eq (fun hc => ?_) (fun hc => ?_)
      · have hx := ha hc
        clear ha hb hc
        refine Ev.blk (is := [.iconst 1]) (pc2 := 64) (L2 := [(1, v0), (8, 0), (9, 0), (9, 0), (1, v4), (8, 0), (1, v6), (8, 0)]) (S2 := [(0, 1)]) (h2 := h) (by decide +kernel) rfl trivial ?_
        cases hx
        exact Ev.ret (i := .ireturn) (len := 1) (by decide +kernel) rfl (finOf (t := some .boolean) rfl (bz1))
      · have hx := hb hc
        clear ha hb hc
        obtain ⟨u1, hg, he, hx⟩ := bgd hx
        refine Ev.blk (is := [.lload 6, .lload 6, .lmul, .lload_n 0, .lrem]) (pc2 := 72) (L2 := [(1, v0), (8, 0), (9, 0), (9, 0), (1, v4), (8, 0), (1, v6), (8, 0)]) (S2 := [(1, u1)]) (h2 := h) (by decide +kernel) (by subst he; rfl) (by exact hg) ?_
        clear hg he
        refine Ev.blk (is := [.lstore 6, .lload 4, .jsr_w 2, .lmul, .lstore 4]) (pc2 := 82) (L2 := [(1, v0), (8, 0), (9, 0), (9, 0), (1, w64 (v4 * 2)), (8, 0), (1, u1), (8, 0)]) (S2 := []) (h2 := h) (by decide +kernel) rfl trivial ?_
        refine Ev.jp (i := .goto (-37)) (len := 3) (pc2 := 45) (by decide +kernel) rfl ?_
        exact ih v0 (w64 (v4 * 2)) u1 h _ hx
    · have hx := hb hc
      clear ha hb hc
      refine Ev.blk (is := [.iconst 0]) (pc2 := 86) (L2 := [(1, v0), (8, 0), (9, 0), (9, 0), (1, v4), (8, 0), (1, v6), (8, 0)]) (S2 := [(0, 0)]) (h2 := h) (by decide +kernel) rfl trivial ?_
      cases hx
      exact Ev.ret (i := .ireturn) (len := 1) (by decide +kernel) rfl (finOf (t := some .boolean) rfl (bz0))
theorem y_R_doesPass_5 {sc : AS} {d : Nat} (hd : 1 ≤ d) : ∀ (fu : Nat) (v0 : Int) (v2 : Int) (v4 : Int) (h : AH) (r : Int), R_doesPass_5 fu v0 v2 v4 = some r → Ev sc d 257 5 [(1, v0), (8, 0), (1, v2), (8, 0), (1, v4), (8, 0), (9, 0), (9, 0)] [] h (some (0, r)) h := by
  intro fu
  induction fu with
  | zero => intro v0 v2 v4 h r hx; unfold R_doesPass_5 at hx; cases hx
  | succ fu ih =>
    intro v0 v2 v4 h r hx
    unfold R_doesPass_5 at hx
    obtain ⟨u1, hg, he, hx⟩ := bgd hx
    refine Ev.blk (is := [.lload 4, .jsr_w 2, .lrem]) (pc2 := 11) (L2 := [(1, v0), (8, 0), (1, v2), (8, 0), (1, v4), (8, 0), (9, 0), (9, 0)]) (S2 := [(1, u1)]) (h2 := h) (by decide +kernel) (by subst he; rfl) (by exact hg) ?_
    clear hg he
    refine Ev.blk (is := [.lconst 0, .lcmp]) (pc2 := 13) (L2 := [(1, v0), (8, 0), (1, v2), (8, 0), (1, v4), (8, 0), (9, 0), (9, 0)]) (S2 := [(0, cmpL u1 0)]) (h2 := h) (by decide +kernel) rfl trivial ?_
    obtain ⟨ha, hb⟩ := bite hx
    clear hx
    refine Ev.br (i := .ifCond .ne 14) (len := 3) (a := 16) (b := 27) (by decide +kernel) rfl cmpL_eq (fun hc => ?_) (fun hc => ?_)
    · have hx := ha hc
      clear ha hb hc
      obtain ⟨u2, hg, he, hx⟩ := bgd hx
      refine Ev.blk (is := [.lload 4, .jsr_w 2, .ldiv]) (pc2 := 22) (L2 := [(1, v0), (8, 0), (1, v2), (8, 0), (1, v4), (8, 0), (9, 0), (9, 0)]) (S2 := [(1, u2)]) (h2 := h) (by decide +kernel) (by subst he; rfl) (by exact hg) ?_
      clear hg he
      refine Ev.blk (is := [.lstore 4]) (pc2 := 24) (L2 := [(1, v0), (8, 0), (1, v2), (8, 0), (1, u2), (8, 0), (9, 0), (9, 0)]) (S2 := []) (h2 := h) (by decide +kernel) rfl trivial ?_
      refine Ev.jp (i := .goto (-19)) (len := 3) (pc2 := 5) (by decide +kernel) rfl ?_
      exact ih v0 v2 u2 h _ hx
    · have hx := hb hc
      clear ha hb hc
      refine Ev.blk (is := [.lload_n 2, .lload 4, .lload_n 0]) (pc2 := 31) (L2 := [(1, v0), (8, 0), (1, v2), (8, 0), (1, v4), (8, 0), (9, 0), (9, 0)]) (S2 := [(1, v0), (1, v4), (1, v2)]) (h2 := h) (by decide +kernel) rfl trivial ?_
      obtain ⟨u3, hc, hx⟩ := bca hx
      refine Ev.call (args := [(1, v2), (1, v4), (1, v0)]) (S2 := []) (r1 := (some (1, u3))) (h1 := h) (i := .invokestatic 178) (by decide +kernel) rfl rfl (Nat.le_of_ble_eq_true rfl) (Or.inl rfl) (x_R_powerOf (by omega) hc) ?_
      refine Ev.blk (is := [.lstore 6, .lload 6, .lconst 1, .lcmp]) (pc2 := 40) (L2 := [(1, v0), (8, 0), (1, v2), (8, 0), (1, v4), (8, 0), (1, u3), (8, 0)]) (S2 := [(0, cmpL u3 1)]) (h2 := h) (by decide +kernel) rfl trivial ?_
      obtain ⟨ha, hb⟩ := bite hx
      clear hx
      refine Ev.br (i := .ifCond .ne 5) (len := 3) (a := 43) (b := 45) (by decide +kernel) rfl cmpL_eq (fun hc => ?_) (fun hc => ?_)
      · have hx := ha hc
        clear ha hb hc
        refine Ev.blk (is := [.iconst 1]) (pc2 := 44) (L2 := [(1, v0), (8, 0), (1, v2), (8, 0), (1, v4), (8, 0), (1, u3), (8, 0)]) (S2 := [(0, 1)]) (h2 := h) (by decide +kernel) rfl trivial ?_
        cases hx
        exact Ev.ret (i := .ireturn) (len := 1) (by decide +kernel) rfl (finOf (t := some .boolean) rfl (bz1))
      · have hx := hb hc
        clear ha hb hc
        refine Ev.wk (L2 := [(1, v0), (8, 0), (9, 0), (9, 0), (1, v4), (8, 0), (1, u3), (8, 0)]) (wkL_of ⟨Or.inl rfl, ⟨Or.inl rfl, ⟨Or.inr rfl, ⟨Or.inr rfl, ⟨Or.inl rfl, ⟨Or.inl rfl, ⟨Or.inl rfl, ⟨Or.inl rfl, trivial⟩⟩⟩⟩⟩⟩⟩⟩) ?_
        exact y_R_doesPass_45 hd FU v0 v4 u3 h _ hx
theorem x_R_doesPass {sc : AS} {d : Nat} (hd : 2 ≤ d) {v0 : Int} {v2 : Int} {h : AH} {r : Int} (hx : R_doesPass v0 v2 = some r) : Runs sc d 257 [(1, v0), (1, v2)] h (some (0, r)) h := by
  obtain ⟨d, rfl⟩ : ∃ e, d = e + 1 := ⟨d - 1, by omega⟩
  have hd : 1 ≤ d := by omega
  unfold R_doesPass at hx
  refine ⟨⟨aM_257, rfl, Nat.le_of_ble_eq_true rfl⟩, ?_⟩
  show Ev sc d 257 0 [(1, v0), (8, 0), (1, v2), (8, 0), (9, 0), (9, 0), (9, 0), (9, 0)] [] h (some (0, r)) h
  refine Ev.blk (is := [.lload_n 0, .lconst 1, .lsub, .lstore 4]) (pc2 := 5) (L2 := [(1, v0), (8, 0), (1, v2), (8, 0), (1, w64 (v0 - 1)), (8, 0), (9, 0), (9, 0)]) (S2 := []) (h2 := h) (by decide +kernel) rfl trivial ?_
  exact y_R_doesPass_5 hd FU v0 v2 (w64 (v0 - 1)) h _ hx
theorem x_R_passes {sc : AS} {d : Nat} (hd : 3 ≤ d) {v0 : Int} {v1 : Int} {v2 : Int} {h : AH} {r : Int} (hx : R_passes v0 v1 v2 = some r) : Runs sc d 255 [(2, v0), (0, v1), (0, v2)] h (some (0, r)) h := by
  obtain ⟨d, rfl⟩ : ∃ e, d = e + 1 := ⟨d - 1, by omega⟩
  have hd : 2 ≤ d := by omega
  unfold R_passes at hx
  refine ⟨⟨aM_255, rfl, Nat.le_of_ble_eq_true rfl⟩, ?_⟩
  show Ev sc d 255 0 [(2, v0), (0, v1), (0, v2)] [] h (some (0, r)) h
  refine Ev.blk (is := [.iload_n 1]) (pc2 := 1) (L2 := [(2, v0), (0, v1), (0, v2)]) (S2 := [(0, v1)]) (h2 := h) (by decide +kernel) rfl trivial ?_
  obtain ⟨u1, hc, hx⟩ := bca hx
  refine Ev.call (args := [(0, v1)]) (S2 := []) (r1 := (some (0, u1))) (h1 := h) (i := .invokestatic 256) (by decide +kernel) rfl rfl (Nat.le_of_ble_eq_true rfl) (Or.inl rfl) (x_R_isOdd (by omega) hc) ?_
  obtain ⟨ha, hb⟩ := bite hx
  clear hx
  refine Ev.br (i := .ifCond .eq 22) (len := 3) (a := 26) (b := 7) (by decide +kernel) rfl Iff.rfl (fun hc => ?_) (fun hc => ?_)
  · have hx := ha hc
    clear ha hb hc
    refine Ev.blk (is := [.iconst (-1)]) (pc2 := 27) (L2 := [(2, v0), (0, v1), (0, v2)]) (S2 := [(0, (-1))]) (h2 := h) (by decide +kernel) rfl trivial ?_
    cases hx
    exact Ev.ret (i := .ireturn) (len := 1) (by decide +kernel) rfl (finOf (t := some .int) rfl (trivial))
  · have hx := hb hc
    clear ha hb hc
    refine Ev.blk (is := [.iload_n 2, .i2l, .jsr_w 2, .jsr_w 999]) (pc2 := 15) (L2 := [(2, v0), (0, v1), (0, v2)]) (S2 := [(1, 999), (1, 2), (1, v2)]) (h2 := h) (by decide +kernel) rfl trivial ?_
    obtain ⟨u2, hc, hx⟩ := bca hx
    refine Ev.call (args := [(1, v2), (1, 2), (1, 999)]) (S2 := []) (r1 := (some (0, u2))) (h1 := h) (i := .invokestatic 162) (by decide +kernel) rfl rfl (Nat.le_of_ble_eq_true rfl) (Or.inl rfl) (x_R_in (by omega) hc) ?_
    obtain ⟨ha, hb⟩ := bite hx
    clear hx
    refine Ev.br (i := .ifCond .eq 8) (len := 3) (a := 26) (b := 21) (by decide +kernel) rfl Iff.rfl (fun hc => ?_) (fun hc => ?_)
    · have hx := ha hc
      clear ha hb hc
      refine Ev.blk (is := [.iconst (-1)]) (pc2 := 27) (L2 := [(2, v0), (0, v1), (0, v2)]) (S2 := [(0, (-1))]) (h2 := h) (by decide +kernel) rfl trivial ?_
      cases hx
      exact Ev.ret (i := .ireturn) (len := 1) (by decide +kernel) rfl (finOf (t := some .int) rfl (trivial))
    · have hx := hb hc
      clear ha hb hc
      refine Ev.blk (is := [.iload_n 2, .iload_n 1]) (pc2 := 23) (L2 := [(2, v0), (0, v1), (0, v2)]) (S2 := [(0, v1), (0, v2)]) (h2 := h) (by decide +kernel) rfl trivial ?_
      obtain ⟨ha, hb⟩ := bite hx
      clear hx
      refine Ev.br (i := .if_icmp .lt 5) (len := 3) (a := 28) (b := 26) (by decide +kernel) rfl Iff.rfl (fun hc => ?_) (fun hc => ?_)
      · have hx := ha hc
        clear ha hb hc
        refine Ev.blk (is := [.iload_n 1, .i2l, .iload_n 2, .i2l]) (pc2 := 32) (L2 := [(2, v0), (0, v1), (0, v2)]) (S2 := [(1, v2), (1, v1)]) (h2 := h) (by decide +kernel) rfl trivial ?_
        obtain ⟨u3, hc, hx⟩ := bca hx
        refine Ev.call (args := [(1, v1), (1, v2)]) (S2 := []) (r1 := (some (0, u3))) (h1 := h) (i := .invokestatic 257) (by decide +kernel) rfl rfl (Nat.le_of_ble_eq_true rfl) (Or.inl rfl) (x_R_doesPass (by omega) hc) ?_
        obtain ⟨ha, hb⟩ := bite hx
        clear hx
        refine Ev.br (i := .ifCond .eq 7) (len := 3) (a := 42) (b := 38) (by decide +kernel) rfl Iff.rfl (fun hc => ?_) (fun hc => ?_)
        · have hx := ha hc
          clear ha hb hc
          refine Ev.blk (is := [.iconst 0]) (pc2 := 43) (L2 := [(2, v0), (0, v1), (0, v2)]) (S2 := [(0, 0)]) (h2 := h) (by decide +kernel) rfl trivial ?_
          cases hx
          exact Ev.ret (i := .ireturn) (len := 1) (by decide +kernel) rfl (finOf (t := some .int) rfl (trivial))
        · have hx := hb hc
          clear ha hb hc
          refine Ev.blk (is := [.iconst 1]) (pc2 := 39) (L2 := [(2, v0), (0, v1), (0, v2)]) (S2 := [(0, 1)]) (h2 := h) (by decide +kernel) rfl trivial ?_
          refine Ev.jp (i := .goto 4) (len := 3) (pc2 := 43) (by decide +kernel) rfl ?_
          cases hx
          exact Ev.ret (i := .ireturn) (len := 1) (by decide +kernel) rfl (finOf (t := some .int) rfl (trivial))
      · have hx := hb hc
        clear ha hb hc
        refine Ev.blk (is := [.iconst (-1)]) (pc2 := 27) (L2 := [(2, v0), (0, v1), (0, v2)]) (S2 := [(0, (-1))]) (h2 := h) (by decide +kernel) rfl trivial ?_
        cases hx
        exact Ev.ret (i := .ireturn) (len := 1) (by decide +kernel) rfl (finOf (t := some .int) rfl (trivial))
theorem y_R_fools_27 {sc : AS} {d : Nat} (hd : 2 ≤ d) : ∀ (fu : Nat) (v1 : Int) (v2 : Int) (v3 : Int) (v4 : Int) (v5 : Int) (h : AH) (r : Int), R_fools_27 fu v1 v2 v3 v4 v5 = some r → Ev sc d 258 27 [(9, 0), (0, v1), (0, v2), (0, v3), (0, v4), (0, v5)] [] h (some (0, r)) h := by
  intro fu
  induction fu with
  | zero => intro v1 v2 v3 v4 v5 h r hx; unfold R_fools_27 at hx; cases hx
  | succ fu ih =>
    intro v1 v2 v3 v4 v5 h r hx
    unfold R_fools_27 at hx
    refine Ev.blk (is := [.iload 5, .sipush 999]) (pc2 := 32) (L2 := [(9, 0), (0, v1), (0, v2), (0, v3), (0, v4), (0, v5)]) (S2 := [(0, 999), (0, v5)]) (h2 := h) (by decide +kernel) rfl trivial ?_
    obtain ⟨ha, hb⟩ := bite hx
    clear hx
    refine Ev.br (i := .if_icmp .gt 41) (len := 3) (a := 73) (b := 35) (by decide +kernel) rfl Iff.rfl (fun hc => ?_) (fun hc => ?_)
    · have hx := ha hc
      clear ha hb hc
      refine Ev.blk (is := [.iload_n 2]) (pc2 := 74) (L2 := [(9, 0), (0, v1), (0, v2), (0, v3), (0, v4), (0, v5)]) (S2 := [(0, v2)]) (h2 := h) (by decide +kernel) rfl trivial ?_
      obtain ⟨ha, hb⟩ := bite hx
      clear hx
      refine Ev.br (i := .ifCond .ne 7) (len := 3) (a := 77) (b := 81) (by decide +kernel) rfl Iff.rfl (fun hc => ?_) (fun hc => ?_)
      · have hx := ha hc
        clear ha hb hc
        refine Ev.blk (is := [.iload_n 3]) (pc2 := 78) (L2 := [(9, 0), (0, v1), (0, v2), (0, v3), (0, v4), (0, v5)]) (S2 := [(0, v3)]) (h2 := h) (by decide +kernel) rfl trivial ?_
        refine Ev.jp (i := .goto 5) (len := 3) (pc2 := 83) (by decide +kernel) rfl ?_
        cases hx
        exact Ev.ret (i := .ireturn) (len := 1) (by decide +kernel) rfl (finOf (t := some .int) rfl (trivial))
      · have hx := hb hc
        clear ha hb hc
        refine Ev.blk (is := [.iload 4]) (pc2 := 83) (L2 := [(9, 0), (0, v1), (0, v2), (0, v3), (0, v4), (0, v5)]) (S2 := [(0, v4)]) (h2 := h) (by decide +kernel) rfl trivial ?_
        cases hx
        exact Ev.ret (i := .ireturn) (len := 1) (by decide +kernel) rfl (finOf (t := some .int) rfl (trivial))
    · have hx := hb hc
      clear ha hb hc
      refine Ev.blk (is := [.iload 5, .iload_n 1]) (pc2 := 38) (L2 := [(9, 0), (0, v1), (0, v2), (0, v3), (0, v4), (0, v5)]) (S2 := [(0, v1), (0, v5)]) (h2 := h) (by decide +kernel) rfl trivial ?_
      obtain ⟨ha, hb⟩ := bite hx
      clear hx
      refine Ev.br (i := .if_icmp .ge 35) (len := 3) (a := 41) (b := 73) (by decide +kernel) rfl Iff.rfl (fun hc => ?_) (fun hc => ?_)
      · have hx := ha hc
        clear ha hb hc
        refine Ev.blk (is := [.iload_n 1, .i2l, .iload 5, .i2l]) (pc2 := 46) (L2 := [(9, 0), (0, v1), (0, v2), (0, v3), (0, v4), (0, v5)]) (S2 := [(1, v5), (1, v1)]) (h2 := h) (by decide +kernel) rfl trivial ?_
        obtain ⟨u1, hc, hx⟩ := bca hx
        refine Ev.call (args := [(1, v1), (1, v5)]) (S2 := []) (r1 := (some (0, u1))) (h1 := h) (i := .invokestatic 257) (by decide +kernel) rfl rfl (Nat.le_of_ble_eq_true rfl) (Or.inl rfl) (x_R_doesPass (by omega) hc) ?_
        obtain ⟨ha, hb⟩ := bite hx
        clear hx
        refine Ev.br (i := .ifCond .eq 9) (len := 3) (a := 58) (b := 52) (by decide +kernel) rfl Iff.rfl (fun hc => ?_) (fun hc => ?_)
        · have hx := ha hc
          clear ha hb hc
          refine Ev.blk (is := [.iload 4]) (pc2 := 60) (L2 := [(9, 0), (0, v1), (0, v2), (0, v3), (0, v4), (0, v5)]) (S2 := [(0, v4)]) (h2 := h) (by decide +kernel) rfl trivial ?_
          obtain ⟨ha, hb⟩ := bite hx
          clear hx
          refine Ev.br (i := .ifCond .ne 7) (len := 3) (a := 63) (b := 67) (by decide +kernel) rfl Iff.rfl (fun hc => ?_) (fun hc => ?_)
          · have hx := ha hc
            clear ha hb hc
            refine Ev.blk (is := [.iload 5, .istore 4, .iinc 5 1]) (pc2 := 70) (L2 := [(9, 0), (0, v1), (0, v2), (0, v3), (0, v5), (0, w32 (v5 + 1))]) (S2 := []) (h2 := h) (by decide +kernel) rfl trivial ?_
            refine Ev.jp (i := .goto (-43)) (len := 3) (pc2 := 27) (by decide +kernel) rfl ?_
            exact ih v1 v2 v3 v5 (w32 (v5 + 1)) h _ hx
          · have hx := hb hc
            clear ha hb hc
            refine Ev.blk (is := [.iinc 5 1]) (pc2 := 70) (L2 := [(9, 0), (0, v1), (0, v2), (0, v3), (0, v4), (0, w32 (v5 + 1))]) (S2 := []) (h2 := h) (by decide +kernel) rfl trivial ?_
            refine Ev.jp (i := .goto (-43)) (len := 3) (pc2 := 27) (by decide +kernel) rfl ?_
            exact ih v1 v2 v3 v4 (w32 (v5 + 1)) h _ hx
        · have hx := hb hc
          clear ha hb hc
          refine Ev.blk (is := [.iinc 3 1]) (pc2 := 55) (L2 := [(9, 0), (0, v1), (0, v2), (0, w32 (v3 + 1)), (0, v4), (0, v5)]) (S2 := []) (h2 := h) (by decide +kernel) rfl trivial ?_
          refine Ev.jp (i := .goto 12) (len := 3) (pc2 := 67) (by decide +kernel) rfl ?_
          refine Ev.blk (is := [.iinc 5 1]) (pc2 := 70) (L2 := [(9, 0), (0, v1), (0, v2), (0, w32 (v3 + 1)), (0, v4), (0, w32 (v5 + 1))]) (S2 := []) (h2 := h) (by decide +kernel) rfl trivial ?_
          refine Ev.jp (i := .goto (-43)) (len := 3) (pc2 := 27) (by decide +kernel) rfl ?_
          exact ih v1 v2 (w32 (v3 + 1)) v4 (w32 (v5 + 1)) h _ hx
      · have hx := hb hc
        clear ha hb hc
        refine Ev.blk (is := [.iload_n 2]) (pc2 := 74) (L2 := [(9, 0), (0, v1), (0, v2), (0, v3), (0, v4), (0, v5)]) (S2 := [(0, v2)]) (h2 := h) (by decide +kernel) rfl trivial ?_
        obtain ⟨ha, hb⟩ := bite hx
        clear hx
        refine Ev.br (i := .ifCond .ne 7) (len := 3) (a := 77) (b := 81) (by decide +kernel) rfl Iff.rfl (fun hc => ?_) (fun hc => ?_)
        · have hx := ha hc
          clear ha hb hc
          refine Ev.blk (is := [.iload_n 3]) (pc2 := 78) (L2 := [(9, 0), (0, v1), (0, v2), (0, v3), (0, v4), (0, v5)]) (S2 := [(0, v3)]) (h2 := h) (by decide +kernel) rfl trivial ?_
          refine Ev.jp (i := .goto 5) (len := 3) (pc2 := 83) (by decide +kernel) rfl ?_
          cases hx
          exact Ev.ret (i := .ireturn) (len := 1) (by decide +kernel) rfl (finOf (t := some .int) rfl (trivial))
        · have hx := hb hc
          clear ha hb hc
          refine Ev.blk (is := [.iload 4]) (pc2 := 83) (L2 := [(9, 0), (0, v1), (0, v2), (0, v3), (0, v4), (0, v5)]) (S2 := [(0, v4)]) (h2 := h) (by decide +kernel) rfl trivial ?_
          cases hx
          exact Ev.ret (i := .ireturn) (len := 1) (by decide +kernel) rfl (finOf (t := some .int) rfl (trivial))
theorem x_R_fools {sc : AS} {d : Nat} (hd : 3 ≤ d) {v0 : Int} {v1 : Int} {v2 : Int} {h : AH} {r : Int} (hx : R_fools v0 v1 v2 = some r) : Runs sc d 258 [(2, v0), (0, v1), (0, v2)] h (some (0, r)) h := by
  obtain ⟨d, rfl⟩ : ∃ e, d = e + 1 := ⟨d - 1, by omega⟩
  have hd : 2 ≤ d := by omega
  unfold R_fools at hx
  refine ⟨⟨aM_258, rfl, Nat.le_of_ble_eq_true rfl⟩, ?_⟩
  show Ev sc d 258 0 [(2, v0), (0, v1), (0, v2), (9, 0), (9, 0), (9, 0)] [] h (some (0, r)) h
  refine Ev.blk (is := [.iload_n 1]) (pc2 := 1) (L2 := [(2, v0), (0, v1), (0, v2), (9, 0), (9, 0), (9, 0)]) (S2 := [(0, v1)]) (h2 := h) (by decide +kernel) rfl trivial ?_
  obtain ⟨u1, hc, hx⟩ := bca hx
  refine Ev.call (args := [(0, v1)]) (S2 := []) (r1 := (some (0, u1))) (h1 := h) (i := .invokestatic 256) (by decide +kernel) rfl rfl (Nat.le_of_ble_eq_true rfl) (Or.inl rfl) (x_R_isOdd (by omega) hc) ?_
  obtain ⟨ha, hb⟩ := bite hx
  clear hx
  refine Ev.br (i := .ifCond .eq 13) (len := 3) (a := 17) (b := 7) (by decide +kernel) rfl Iff.rfl (fun hc => ?_) (fun hc => ?_)
  · have hx := ha hc
    clear ha hb hc
    refine Ev.blk (is := [.iconst (-1)]) (pc2 := 18) (L2 := [(2, v0), (0, v1), (0, v2), (9, 0), (9, 0), (9, 0)]) (S2 := [(0, (-1))]) (h2 := h) (by decide +kernel) rfl trivial ?_
    cases hx
    exact Ev.ret (i := .ireturn) (len := 1) (by decide +kernel) rfl (finOf (t := some .int) rfl (trivial))
  · have hx := hb hc
    clear ha hb hc
    refine Ev.blk (is := [.iload_n 2, .i2l, .lconst 0, .lconst 1]) (pc2 := 11) (L2 := [(2, v0), (0, v1), (0, v2), (9, 0), (9, 0), (9, 0)]) (S2 := [(1, 1), (1, 0), (1, v2)]) (h2 := h) (by decide +kernel) rfl trivial ?_
    obtain ⟨u2, hc, hx⟩ := bca hx
    refine Ev.call (args := [(1, v2), (1, 0), (1, 1)]) (S2 := []) (r1 := (some (0, u2))) (h1 := h) (i := .invokestatic 162) (by decide +kernel) rfl rfl (Nat.le_of_ble_eq_true rfl) (Or.inl rfl) (x_R_in (by omega) hc) ?_
    obtain ⟨ha, hb⟩ := bite hx
    clear hx
    refine Ev.br (i := .ifCond .ne 5) (len := 3) (a := 17) (b := 19) (by decide +kernel) rfl Iff.rfl (fun hc => ?_) (fun hc => ?_)
    · have hx := ha hc
      clear ha hb hc
      refine Ev.blk (is := [.iconst (-1)]) (pc2 := 18) (L2 := [(2, v0), (0, v1), (0, v2), (9, 0), (9, 0), (9, 0)]) (S2 := [(0, (-1))]) (h2 := h) (by decide +kernel) rfl trivial ?_
      cases hx
      exact Ev.ret (i := .ireturn) (len := 1) (by decide +kernel) rfl (finOf (t := some .int) rfl (trivial))
    · have hx := hb hc
      clear ha hb hc
      refine Ev.blk (is := [.iconst 0, .istore_n 3, .iconst 0, .istore 4, .iconst 2, .istore 5]) (pc2 := 27) (L2 := [(2, v0), (0, v1), (0, v2), (0, 0), (0, 0), (0, 2)]) (S2 := []) (h2 := h) (by decide +kernel) rfl trivial ?_
      refine Ev.wk (L2 := [(9, 0), (0, v1), (0, v2), (0, 0), (0, 0), (0, 2)]) (wkL_of ⟨Or.inr rfl, ⟨Or.inl rfl, ⟨Or.inl rfl, ⟨Or.inl rfl, ⟨Or.inl rfl, ⟨Or.inl rfl, trivial⟩⟩⟩⟩⟩⟩) ?_
      exact y_R_fools_27 hd FU v1 v2 0 0 2 h _ hx
theorem x_R_power {sc : AS} {d : Nat} (hd : 2 ≤ d) {v0 : Int} {v1 : Int} {v2 : Int} {v3 : Int} {h : AH} {r : Int} (hx : R_power v0 v1 v2 v3 = some r) : Runs sc d 259 [(2, v0), (0, v1), (0, v2), (0, v3)] h (some (0, r)) h := by
  obtain ⟨d, rfl⟩ : ∃ e, d = e + 1 := ⟨d - 1, by omega⟩
  have hd : 1 ≤ d := by omega
  unfold R_power at hx
  refine ⟨⟨aM_259, rfl, Nat.le_of_ble_eq_true rfl⟩, ?_⟩
  show Ev sc d 259 0 [(2, v0), (0, v1), (0, v2), (0, v3)] [] h (some (0, r)) h
  refine Ev.blk (is := [.iload_n 1]) (pc2 := 1) (L2 := [(2, v0), (0, v1), (0, v2), (0, v3)]) (S2 := [(0, v1)]) (h2 := h) (by decide +kernel) rfl trivial ?_
  obtain ⟨ha, hb⟩ := bite hx
  clear hx
  refine Ev.br (i := .ifCond .lt 12) (len := 3) (a := 13) (b := 4) (by decide +kernel) rfl Iff.rfl (fun hc => ?_) (fun hc => ?_)
  · have hx := ha hc
    clear ha hb hc
    refine Ev.blk (is := [.iconst (-1)]) (pc2 := 14) (L2 := [(2, v0), (0, v1), (0, v2), (0, v3)]) (S2 := [(0, (-1))]) (h2 := h) (by decide +kernel) rfl trivial ?_
    refine Ev.jp (i := .goto 13) (len := 3) (pc2 := 27) (by decide +kernel) rfl ?_
    cases hx
    exact Ev.ret (i := .ireturn) (len := 1) (by decide +kernel) rfl (finOf (t := some .int) rfl (trivial))
  · have hx := hb hc
    clear ha hb hc
    refine Ev.blk (is := [.iload_n 2]) (pc2 := 5) (L2 := [(2, v0), (0, v1), (0, v2), (0, v3)]) (S2 := [(0, v2)]) (h2 := h) (by decide +kernel) rfl trivial ?_
    obtain ⟨ha, hb⟩ := bite hx
    clear hx
    refine Ev.br (i := .ifCond .lt 8) (len := 3) (a := 13) (b := 8) (by decide +kernel) rfl Iff.rfl (fun hc => ?_) (fun hc => ?_)
    · have hx := ha hc
      clear ha hb hc
      refine Ev.blk (is := [.iconst (-1)]) (pc2 := 14) (L2 := [(2, v0), (0, v1), (0, v2), (0, v3)]) (S2 := [(0, (-1))]) (h2 := h) (by decide +kernel) rfl trivial ?_
      refine Ev.jp (i := .goto 13) (len := 3) (pc2 := 27) (by decide +kernel) rfl ?_
      cases hx
      exact Ev.ret (i := .ireturn) (len := 1) (by decide +kernel) rfl (finOf (t := some .int) rfl (trivial))
    · have hx := hb hc
      clear ha hb hc
      refine Ev.blk (is := [.iload_n 3, .iconst 1]) (pc2 := 10) (L2 := [(2, v0), (0, v1), (0, v2), (0, v3)]) (S2 := [(0, 1), (0, v3)]) (h2 := h) (by decide +kernel) rfl trivial ?_
      obtain ⟨ha, hb⟩ := bite hx
      clear hx
      refine Ev.br (i := .if_icmp .ge 7) (len := 3) (a := 13) (b := 17) (by decide +kernel) rfl Iff.rfl (fun hc => ?_) (fun hc => ?_)
      · have hx := ha hc
        clear ha hb hc
        refine Ev.blk (is := [.iconst (-1)]) (pc2 := 14) (L2 := [(2, v0), (0, v1), (0, v2), (0, v3)]) (S2 := [(0, (-1))]) (h2 := h) (by decide +kernel) rfl trivial ?_
        refine Ev.jp (i := .goto 13) (len := 3) (pc2 := 27) (by decide +kernel) rfl ?_
        cases hx
        exact Ev.ret (i := .ireturn) (len := 1) (by decide +kernel) rfl (finOf (t := some .int) rfl (trivial))
      · have hx := hb hc
        clear ha hb hc
        refine Ev.blk (is := [.iload_n 1, .i2l, .iload_n 2, .i2l, .iload_n 3, .i2l]) (pc2 := 23) (L2 := [(2, v0), (0, v1), (0, v2), (0, v3)]) (S2 := [(1, v3), (1, v2), (1, v1)]) (h2 := h) (by decide +kernel) rfl trivial ?_
        obtain ⟨u1, hc, hx⟩ := bca hx
        refine Ev.call (args := [(1, v1), (1, v2), (1, v3)]) (S2 := []) (r1 := (some (1, u1))) (h1 := h) (i := .invokestatic 178) (by decide +kernel) rfl rfl (Nat.le_of_ble_eq_true rfl) (Or.inl rfl) (x_R_powerOf (by omega) hc) ?_
        refine Ev.blk (is := [.l2i]) (pc2 := 27) (L2 := [(2, v0), (0, v1), (0, v2), (0, v3)]) (S2 := [(0, w32 u1)]) (h2 := h) (by decide +kernel) rfl trivial ?_
        cases hx
        exact Ev.ret (i := .ireturn) (len := 1) (by decide +kernel) rfl (finOf (t := some .int) rfl (trivial))
theorem y_R_order_43 {sc : AS} {d : Nat} (hd : 1 ≤ d) : ∀ (fu : Nat) (v1 : Int) (v2 : Int) (v3 : Int) (v4 : Int) (h : AH) (r : Int), R_order_43 fu v1 v2 v3 v4 = some r → Ev sc d 260 43 [(9, 0), (0, v1), (0, v2), (0, v3), (1, v4), (8, 0)] [] h (some (0, r)) h := by
  intro fu
  induction fu with
  | zero => intro v1 v2 v3 v4 h r hx; unfold R_order_43 at hx; cases hx
  | succ fu ih =>
    intro v1 v2 v3 v4 h r hx
    unfold R_order_43 at hx
    refine Ev.blk (is := [.lload 4, .lconst 1, .lcmp]) (pc2 := 47) (L2 := [(9, 0), (0, v1), (0, v2), (0, v3), (1, v4), (8, 0)]) (S2 := [(0, cmpL v4 1)]) (h2 := h) (by decide +kernel) rfl trivial ?_
    obtain ⟨ha, hb⟩ := bite hx
    clear hx
    refine Ev.br (i := .ifCond .eq 19) (len := 3) (a := 66) (b := 50) (by decide +kernel) rfl cmpL_eq (fun hc => ?_) (fun hc => ?_)
    · have hx := ha hc
      clear ha hb hc
      refine Ev.blk (is := [.iload_n 3]) (pc2 := 67) (L2 := [(9, 0), (0, v1), (0, v2), (0, v3), (1, v4), (8, 0)]) (S2 := [(0, v3)]) (h2 := h) (by decide +kernel) rfl trivial ?_
      cases hx
      exact Ev.ret (i := .ireturn) (len := 1) (by decide +kernel) rfl (finOf (t := some .int) rfl (trivial))
    · have hx := hb hc
      clear ha hb hc
      obtain ⟨u1, hg, he, hx⟩ := bgd hx
      refine Ev.blk (is := [.lload 4, .iload_n 1, .i2l, .lmul, .iload_n 2, .i2l, .lrem]) (pc2 := 58) (L2 := [(9, 0), (0, v1), (0, v2), (0, v3), (1, v4), (8, 0)]) (S2 := [(1, u1)]) (h2 := h) (by decide +kernel) (by subst he; rfl) (by exact hg) ?_
      clear hg he
      refine Ev.blk (is := [.lstore 4, .iinc 3 1]) (pc2 := 63) (L2 := [(9, 0), (0, v1), (0, v2), (0, w32 (v3 + 1)), (1, u1), (8, 0)]) (S2 := []) (h2 := h) (by decide +kernel) rfl trivial ?_
      refine Ev.jp (i := .goto (-20)) (len := 3) (pc2 := 43) (by decide +kernel) rfl ?_
      exact ih v1 v2 (w32 (v3 + 1)) u1 h _ hx
theorem x_R_order {sc : AS} {d : Nat} (hd : 2 ≤ d) {v0 : Int} {v1 : Int} {v2 : Int} {h : AH} {r : Int} (hx : R_order v0 v1 v2 = some r) : Runs sc d 260 [(2, v0), (0, v1), (0, v2)] h (some (0, r)) h := by
  obtain ⟨d, rfl⟩ : ∃ e, d = e + 1 := ⟨d - 1, by omega⟩
  have hd : 1 ≤ d := by omega
  unfold R_order at hx
  refine ⟨⟨aM_260, rfl, Nat.le_of_ble_eq_true rfl⟩, ?_⟩
  show Ev sc d 260 0 [(2, v0), (0, v1), (0, v2), (9, 0), (9, 0), (9, 0)] [] h (some (0, r)) h
  refine Ev.blk (is := [.iload_n 1]) (pc2 := 1) (L2 := [(2, v0), (0, v1), (0, v2), (9, 0), (9, 0), (9, 0)]) (S2 := [(0, v1)]) (h2 := h) (by decide +kernel) rfl trivial ?_
  obtain ⟨ha, hb⟩ := bite hx
  clear hx
  refine Ev.br (i := .ifCond .lt 17) (len := 3) (a := 18) (b := 4) (by decide +kernel) rfl Iff.rfl (fun hc => ?_) (fun hc => ?_)
  · have hx := ha hc
    clear ha hb hc
    refine Ev.blk (is := [.iconst (-1)]) (pc2 := 19) (L2 := [(2, v0), (0, v1), (0, v2), (9, 0), (9, 0), (9, 0)]) (S2 := [(0, (-1))]) (h2 := h) (by decide +kernel) rfl trivial ?_
    cases hx
    exact Ev.ret (i := .ireturn) (len := 1) (by decide +kernel) rfl (finOf (t := some .int) rfl (trivial))
  · have hx := hb hc
    clear ha hb hc
    refine Ev.blk (is := [.iload_n 2, .i2l, .jsr_w 2, .jsr_w 1000000]) (pc2 := 12) (L2 := [(2, v0), (0, v1), (0, v2), (9, 0), (9, 0), (9, 0)]) (S2 := [(1, 1000000), (1, 2), (1, v2)]) (h2 := h) (by decide +kernel) rfl trivial ?_
    obtain ⟨u1, hc, hx⟩ := bca hx
    refine Ev.call (args := [(1, v2), (1, 2), (1, 1000000)]) (S2 := []) (r1 := (some (0, u1))) (h1 := h) (i := .invokestatic 162) (by decide +kernel) rfl rfl (Nat.le_of_ble_eq_true rfl) (Or.inl rfl) (x_R_in (by omega) hc) ?_
    obtain ⟨ha, hb⟩ := bite hx
    clear hx
    refine Ev.br (i := .ifCond .ne 5) (len := 3) (a := 18) (b := 20) (by decide +kernel) rfl Iff.rfl (fun hc => ?_) (fun hc => ?_)
    · have hx := ha hc
      clear ha hb hc
      refine Ev.blk (is := [.iconst (-1)]) (pc2 := 19) (L2 := [(2, v0), (0, v1), (0, v2), (9, 0), (9, 0), (9, 0)]) (S2 := [(0, (-1))]) (h2 := h) (by decide +kernel) rfl trivial ?_
      cases hx
      exact Ev.ret (i := .ireturn) (len := 1) (by decide +kernel) rfl (finOf (t := some .int) rfl (trivial))
    · have hx := hb hc
      clear ha hb hc
      refine Ev.blk (is := [.iload_n 1, .i2l, .iload_n 2, .i2l]) (pc2 := 24) (L2 := [(2, v0), (0, v1), (0, v2), (9, 0), (9, 0), (9, 0)]) (S2 := [(1, v2), (1, v1)]) (h2 := h) (by decide +kernel) rfl trivial ?_
      obtain ⟨u2, hc, hx⟩ := bca hx
      refine Ev.call (args := [(1, v1), (1, v2)]) (S2 := []) (r1 := (some (1, u2))) (h1 := h) (i := .invokestatic 176) (by decide +kernel) rfl rfl (Nat.le_of_ble_eq_true rfl) (Or.inl rfl) (x_R_common (by omega) hc) ?_
      refine Ev.blk (is := [.lconst 1, .lcmp]) (pc2 := 29) (L2 := [(2, v0), (0, v1), (0, v2), (9, 0), (9, 0), (9, 0)]) (S2 := [(0, cmpL u2 1)]) (h2 := h) (by decide +kernel) rfl trivial ?_
      obtain ⟨ha, hb⟩ := bite hx
      clear hx
      refine Ev.br (i := .ifCond .eq 6) (len := 3) (a := 35) (b := 32) (by decide +kernel) rfl cmpL_eq (fun hc => ?_) (fun hc => ?_)
      · have hx := ha hc
        clear ha hb hc
        obtain ⟨u3, hg, he, hx⟩ := bgd hx
        refine Ev.blk (is := [.iconst 1, .istore_n 3, .iload_n 1, .iload_n 2, .irem]) (pc2 := 40) (L2 := [(2, v0), (0, v1), (0, v2), (0, 1), (9, 0), (9, 0)]) (S2 := [(0, u3)]) (h2 := h) (by decide +kernel) (by subst he; rfl) (by exact hg) ?_
        clear hg he
        refine Ev.blk (is := [.i2l, .lstore 4]) (pc2 := 43) (L2 := [(2, v0), (0, v1), (0, v2), (0, 1), (1, u3), (8, 0)]) (S2 := []) (h2 := h) (by decide +kernel) rfl trivial ?_
        refine Ev.wk (L2 := [(9, 0), (0, v1), (0, v2), (0, 1), (1, u3), (8, 0)]) (wkL_of ⟨Or.inr rfl, ⟨Or.inl rfl, ⟨Or.inl rfl, ⟨Or.inl rfl, ⟨Or.inl rfl, ⟨Or.inl rfl, trivial⟩⟩⟩⟩⟩⟩) ?_
        exact y_R_order_43 hd FU v1 v2 1 u3 h _ hx
      · have hx := hb hc
        clear ha hb hc
        refine Ev.blk (is := [.sipush (-2)]) (pc2 := 34) (L2 := [(2, v0), (0, v1), (0, v2), (9, 0), (9, 0), (9, 0)]) (S2 := [(0, (-2))]) (h2 := h) (by decide +kernel) rfl trivial ?_
        cases hx
        exact Ev.ret (i := .ireturn) (len := 1) (by decide +kernel) rfl (finOf (t := some .int) rfl (trivial))
theorem x_R_jacobi {sc : AS} {d : Nat} (hd : 2 ≤ d) {v0 : Int} {v1 : Int} {v2 : Int} {h : AH} {r : Int} (hx : R_jacobi v0 v1 v2 = some r) : Runs sc d 261 [(2, v0), (0, v1), (0, v2)] h (some (0, r)) h := by
  obtain ⟨d, rfl⟩ : ∃ e, d = e + 1 := ⟨d - 1, by omega⟩
  have hd : 1 ≤ d := by omega
  unfold R_jacobi at hx
  refine ⟨⟨aM_261, rfl, Nat.le_of_ble_eq_true rfl⟩, ?_⟩
  show Ev sc d 261 0 [(2, v0), (0, v1), (0, v2)] [] h (some (0, r)) h
  refine Ev.blk (is := [.iload_n 2, .iconst 1]) (pc2 := 2) (L2 := [(2, v0), (0, v1), (0, v2)]) (S2 := [(0, 1), (0, v2)]) (h2 := h) (by decide +kernel) rfl trivial ?_
  obtain ⟨ha, hb⟩ := bite hx
  clear hx
  refine Ev.br (i := .if_icmp .lt 9) (len := 3) (a := 11) (b := 5) (by decide +kernel) rfl Iff.rfl (fun hc => ?_) (fun hc => ?_)
  · have hx := ha hc
    clear ha hb hc
    refine Ev.blk (is := [.sipush (-2)]) (pc2 := 13) (L2 := [(2, v0), (0, v1), (0, v2)]) (S2 := [(0, (-2))]) (h2 := h) (by decide +kernel) rfl trivial ?_
    refine Ev.jp (i := .goto 10) (len := 3) (pc2 := 23) (by decide +kernel) rfl ?_
    cases hx
    exact Ev.ret (i := .ireturn) (len := 1) (by decide +kernel) rfl (finOf (t := some .int) rfl (trivial))
  · have hx := hb hc
    clear ha hb hc
    obtain ⟨u1, hg, he, hx⟩ := bgd hx
    refine Ev.blk (is := [.iload_n 2, .iconst 2, .irem]) (pc2 := 8) (L2 := [(2, v0), (0, v1), (0, v2)]) (S2 := [(0, u1)]) (h2 := h) (by decide +kernel) (by subst he; rfl) (by exact hg) ?_
    clear hg he
    obtain ⟨ha, hb⟩ := bite hx
    clear hx
    refine Ev.br (i := .ifCond .ne 8) (len := 3) (a := 11) (b := 16) (by decide +kernel) rfl Iff.rfl (fun hc => ?_) (fun hc => ?_)
    · have hx := ha hc
      clear ha hb hc
      refine Ev.blk (is := [.sipush (-2)]) (pc2 := 13) (L2 := [(2, v0), (0, v1), (0, v2)]) (S2 := [(0, (-2))]) (h2 := h) (by decide +kernel) rfl trivial ?_
      refine Ev.jp (i := .goto 10) (len := 3) (pc2 := 23) (by decide +kernel) rfl ?_
      cases hx
      exact Ev.ret (i := .ireturn) (len := 1) (by decide +kernel) rfl (finOf (t := some .int) rfl (trivial))
    · have hx := hb hc
      clear ha hb hc
      refine Ev.blk (is := [.iload_n 1, .i2l, .iload_n 2, .i2l]) (pc2 := 20) (L2 := [(2, v0), (0, v1), (0, v2)]) (S2 := [(1, v2), (1, v1)]) (h2 := h) (by decide +kernel) rfl trivial ?_
      obtain ⟨u2, hc, hx⟩ := bca hx
      refine Ev.call (args := [(1, v1), (1, v2)]) (S2 := []) (r1 := (some (0, u2))) (h1 := h) (i := .invokestatic 182) (by decide +kernel) rfl rfl (Nat.le_of_ble_eq_true rfl) (Or.inl rfl) (x_R_signOf (by omega) hc) ?_
      cases hx
      exact Ev.ret (i := .ireturn) (len := 1) (by decide +kernel) rfl (finOf (t := some .int) rfl (trivial))
theorem x_R_u {sc : AS} {d : Nat} (hd : 3 ≤ d) {v0 : Int} {v1 : Int} {v2 : Int} {v3 : Int} {v4 : Int} {h : AH} {r : (Int × AH)} (hx : R_u v0 v1 v2 v3 v4 h = some r) : Runs sc d 262 [(2, v0), (0, v1), (0, v2), (0, v3), (0, v4)] h (some (0, r.1)) r.2 := by
  obtain ⟨d, rfl⟩ : ∃ e, d = e + 1 := ⟨d - 1, by omega⟩
  have hd : 2 ≤ d := by omega
  unfold R_u at hx
  refine ⟨⟨aM_262, rfl, Nat.le_of_ble_eq_true rfl⟩, ?_⟩
  show Ev sc d 262 0 [(2, v0), (0, v1), (0, v2), (0, v3), (0, v4)] [] h (some (0, r.1)) r.2
  refine Ev.blk (is := [.iload_n 1, .i2l, .lconst 1, .jsr_w 99]) (pc2 := 6) (L2 := [(2, v0), (0, v1), (0, v2), (0, v3), (0, v4)]) (S2 := [(1, 99), (1, 1), (1, v1)]) (h2 := h) (by decide +kernel) rfl trivial ?_
  obtain ⟨u1, hc, hx⟩ := bca hx
  refine Ev.call (args := [(1, v1), (1, 1), (1, 99)]) (S2 := []) (r1 := (some (0, u1))) (h1 := h) (i := .invokestatic 162) (by decide +kernel) rfl rfl (Nat.le_of_ble_eq_true rfl) (Or.inl rfl) (x_R_in (by omega) hc) ?_
  obtain ⟨ha, hb⟩ := bite hx
  clear hx
  refine Ev.br (i := .ifCond .eq 32) (len := 3) (a := 41) (b := 12) (by decide +kernel) rfl Iff.rfl (fun hc => ?_) (fun hc => ?_)
  · have hx := ha hc
    clear ha hb hc
    refine Ev.blk (is := [.iconst (-1)]) (pc2 := 42) (L2 := [(2, v0), (0, v1), (0, v2), (0, v3), (0, v4)]) (S2 := [(0, (-1))]) (h2 := h) (by decide +kernel) rfl trivial ?_
    cases hx
    exact Ev.ret (i := .ireturn) (len := 1) (by decide +kernel) rfl (finOf (t := some .int) rfl (trivial))
  · have hx := hb hc
    clear ha hb hc
    refine Ev.blk (is := [.iload_n 2, .i2l, .lconst 1, .jsr_w 99]) (pc2 := 18) (L2 := [(2, v0), (0, v1), (0, v2), (0, v3), (0, v4)]) (S2 := [(1, 99), (1, 1), (1, v2)]) (h2 := h) (by decide +kernel) rfl trivial ?_
    obtain ⟨u2, hc, hx⟩ := bca hx
    refine Ev.call (args := [(1, v2), (1, 1), (1, 99)]) (S2 := []) (r1 := (some (0, u2))) (h1 := h) (i := .invokestatic 162) (by decide +kernel) rfl rfl (Nat.le_of_ble_eq_true rfl) (Or.inl rfl) (x_R_in (by omega) hc) ?_
    obtain ⟨ha, hb⟩ := bite hx
    clear hx
    refine Ev.br (i := .ifCond .eq 20) (len := 3) (a := 41) (b := 24) (by decide +kernel) rfl Iff.rfl (fun hc => ?_) (fun hc => ?_)
    · have hx := ha hc
      clear ha hb hc
      refine Ev.blk (is := [.iconst (-1)]) (pc2 := 42) (L2 := [(2, v0), (0, v1), (0, v2), (0, v3), (0, v4)]) (S2 := [(0, (-1))]) (h2 := h) (by decide +kernel) rfl trivial ?_
      cases hx
      exact Ev.ret (i := .ireturn) (len := 1) (by decide +kernel) rfl (finOf (t := some .int) rfl (trivial))
    · have hx := hb hc
      clear ha hb hc
      refine Ev.blk (is := [.iload_n 3]) (pc2 := 25) (L2 := [(2, v0), (0, v1), (0, v2), (0, v3), (0, v4)]) (S2 := [(0, v3)]) (h2 := h) (by decide +kernel) rfl trivial ?_
      obtain ⟨ha, hb⟩ := bite hx
      clear hx
      refine Ev.br (i := .ifCond .lt 16) (len := 3) (a := 41) (b := 28) (by decide +kernel) rfl Iff.rfl (fun hc => ?_) (fun hc => ?_)
      · have hx := ha hc
        clear ha hb hc
        refine Ev.blk (is := [.iconst (-1)]) (pc2 := 42) (L2 := [(2, v0), (0, v1), (0, v2), (0, v3), (0, v4)]) (S2 := [(0, (-1))]) (h2 := h) (by decide +kernel) rfl trivial ?_
        cases hx
        exact Ev.ret (i := .ireturn) (len := 1) (by decide +kernel) rfl (finOf (t := some .int) rfl (trivial))
      · have hx := hb hc
        clear ha hb hc
        refine Ev.blk (is := [.iload 4, .i2l, .lconst 1, .jsr_w 1000000000]) (pc2 := 35) (L2 := [(2, v0), (0, v1), (0, v2), (0, v3), (0, v4)]) (S2 := [(1, 1000000000), (1, 1), (1, v4)]) (h2 := h) (by decide +kernel) rfl trivial ?_
        obtain ⟨u3, hc, hx⟩ := bca hx
        refine Ev.call (args := [(1, v4), (1, 1), (1, 1000000000)]) (S2 := []) (r1 := (some (0, u3))) (h1 := h) (i := .invokestatic 162) (by decide +kernel) rfl rfl (Nat.le_of_ble_eq_true rfl) (Or.inl rfl) (x_R_in (by omega) hc) ?_
        obtain ⟨ha, hb⟩ := bite hx
        clear hx
        refine Ev.br (i := .ifCond .ne 5) (len := 3) (a := 41) (b := 43) (by decide +kernel) rfl Iff.rfl (fun hc => ?_) (fun hc => ?_)
        · have hx := ha hc
          clear ha hb hc
          refine Ev.blk (is := [.iconst (-1)]) (pc2 := 42) (L2 := [(2, v0), (0, v1), (0, v2), (0, v3), (0, v4)]) (S2 := [(0, (-1))]) (h2 := h) (by decide +kernel) rfl trivial ?_
          cases hx
          exact Ev.ret (i := .ireturn) (len := 1) (by decide +kernel) rfl (finOf (t := some .int) rfl (trivial))
        · have hx := hb hc
          clear ha hb hc
          refine Ev.blk (is := [.aload_n 0, .iload_n 1, .i2l, .iload_n 2, .i2l, .iload_n 3, .i2l, .iload 4, .i2l]) (pc2 := 53) (L2 := [(2, v0), (0, v1), (0, v2), (0, v3), (0, v4)]) (S2 := [(1, v4), (1, v3), (1, v2), (1, v1), (2, v0)]) (h2 := h) (by decide +kernel) rfl trivial ?_
          obtain ⟨_, hg, -, hx⟩ := bgd hx
          obtain ⟨u4, hc, hx⟩ := bca hx
          refine Ev.call (args := [(2, v0), (1, v1), (1, v2), (1, v3), (1, v4)]) (S2 := []) (r1 := (some (1, u4.1))) (h1 := u4.2) (i := .invokevirtual 183) (by decide +kernel) rfl rfl (Nat.le_of_ble_eq_true rfl) (Or.inr (Or.inl ⟨rfl, hg, by decide +kernel⟩)) (x_R_sequence (by omega) hc) ?_
          refine Ev.blk (is := [.l2i]) (pc2 := 57) (L2 := [(2, v0), (0, v1), (0, v2), (0, v3), (0, v4)]) (S2 := [(0, w32 u4.1)]) (h2 := u4.2) (by decide +kernel) rfl trivial ?_
          cases hx
          exact Ev.ret (i := .ireturn) (len := 1) (by decide +kernel) rfl (finOf (t := some .int) rfl (trivial))
theorem y_R_units_26 {sc : AS} {d : Nat} (hd : 1 ≤ d) : ∀ (fu : Nat) (v0 : Int) (v2 : Int) (v4 : Int) (h : AH) (r : (Int × AH)), R_units_26 fu v0 v2 v4 h = some r → Ev sc d 263 26 [(2, v0), (9, 0), (1, v2), (8, 0), (0, v4)] [] h (some (0, r.1)) r.2 := by
  intro fu
  induction fu with
  | zero => intro v0 v2 v4 h r hx; unfold R_units_26 at hx; cases hx
  | succ fu ih =>
    intro v0 v2 v4 h r hx
    unfold R_units_26 at hx
    obtain ⟨u1, hg, he, hx⟩ := bgd hx
    refine Ev.blk (is := [.iload 4, .aload_n 0, .getfield 9006]) (pc2 := 32) (L2 := [(2, v0), (9, 0), (1, v2), (8, 0), (0, v4)]) (S2 := [(0, u1), (0, v4)]) (h2 := h) (by decide +kernel) (by subst he; rfl) (by exact hg) ?_
    clear hg he
    obtain ⟨ha, hb⟩ := bite hx
    clear hx
    refine Ev.br (i := .if_icmp .ge 31) (len := 3) (a := 35) (b := 63) (by decide +kernel) rfl Iff.rfl (fun hc => ?_) (fun hc => ?_)
    · have hx := ha hc
      clear ha hb hc
      obtain ⟨u2, hg, he, hx⟩ := bgd hx
      refine Ev.blk (is := [.lload_n 2, .aload_n 0, .getfield 9204]) (pc2 := 40) (L2 := [(2, v0), (9, 0), (1, v2), (8, 0), (0, v4)]) (S2 := [(2, u2), (1, v2)]) (h2 := h) (by decide +kernel) (by subst he; rfl) (by exact hg) ?_
      clear hg he
      obtain ⟨u3, hg, he, hx⟩ := bgd hx
      refine Ev.blk (is := [.iload 4, .iaload]) (pc2 := 43) (L2 := [(2, v0), (9, 0), (1, v2), (8, 0), (0, v4)]) (S2 := [(0, u3), (1, v2)]) (h2 := h) (by decide +kernel) (by subst he; rfl) (by exact hg) ?_
      clear hg he
      obtain ⟨u4, hg, he, hx⟩ := bgd hx
      refine Ev.blk (is := [.i2l, .ldiv]) (pc2 := 45) (L2 := [(2, v0), (9, 0), (1, v2), (8, 0), (0, v4)]) (S2 := [(1, u4)]) (h2 := h) (by decide +kernel) (by subst he; rfl) (by exact hg) ?_
      clear hg he
      obtain ⟨u5, hg, he, hx⟩ := bgd hx
      refine Ev.blk (is := [.aload_n 0, .getfield 9204]) (pc2 := 49) (L2 := [(2, v0), (9, 0), (1, v2), (8, 0), (0, v4)]) (S2 := [(2, u5), (1, u4)]) (h2 := h) (by decide +kernel) (by subst he; rfl) (by exact hg) ?_
      clear hg he
      obtain ⟨u6, hg, he, hx⟩ := bgd hx
      refine Ev.blk (is := [.iload 4, .iaload]) (pc2 := 52) (L2 := [(2, v0), (9, 0), (1, v2), (8, 0), (0, v4)]) (S2 := [(0, u6), (1, u4)]) (h2 := h) (by decide +kernel) (by subst he; rfl) (by exact hg) ?_
      clear hg he
      refine Ev.blk (is := [.iconst 1, .isub, .i2l, .lmul, .lstore_n 2, .iinc 4 1]) (pc2 := 60) (L2 := [(2, v0), (9, 0), (1, w64 (u4 * (w32 (u6 - 1)))), (8, 0), (0, w32 (v4 + 1))]) (S2 := []) (h2 := h) (by decide +kernel) rfl trivial ?_
      refine Ev.jp (i := .goto (-34)) (len := 3) (pc2 := 26) (by decide +kernel) rfl ?_
      exact ih v0 (w64 (u4 * (w32 (u6 - 1)))) (w32 (v4 + 1)) h _ hx
    · have hx := hb hc
      clear ha hb hc
      refine Ev.blk (is := [.lload_n 2, .l2i]) (pc2 := 65) (L2 := [(2, v0), (9, 0), (1, v2), (8, 0), (0, v4)]) (S2 := [(0, w32 v2)]) (h2 := h) (by decide +kernel) rfl trivial ?_
      cases hx
      exact Ev.ret (i := .ireturn) (len := 1) (by decide +kernel) rfl (finOf (t := some .int) rfl (trivial))
theorem x_R_units {sc : AS} {d : Nat} (hd : 2 ≤ d) {v0 : Int} {v1 : Int} {h : AH} {r : (Int × AH)} (hx : R_units v0 v1 h = some r) : Runs sc d 263 [(2, v0), (0, v1)] h (some (0, r.1)) r.2 := by
  obtain ⟨d, rfl⟩ : ∃ e, d = e + 1 := ⟨d - 1, by omega⟩
  have hd : 1 ≤ d := by omega
  unfold R_units at hx
  refine ⟨⟨aM_263, rfl, Nat.le_of_ble_eq_true rfl⟩, ?_⟩
  show Ev sc d 263 0 [(2, v0), (0, v1), (9, 0), (9, 0), (9, 0)] [] h (some (0, r.1)) r.2
  refine Ev.blk (is := [.iload_n 1, .i2l, .lconst 1, .jsr_w 1000000000]) (pc2 := 6) (L2 := [(2, v0), (0, v1), (9, 0), (9, 0), (9, 0)]) (S2 := [(1, 1000000000), (1, 1), (1, v1)]) (h2 := h) (by decide +kernel) rfl trivial ?_
  obtain ⟨u1, hc, hx⟩ := bca hx
  refine Ev.call (args := [(1, v1), (1, 1), (1, 1000000000)]) (S2 := []) (r1 := (some (0, u1))) (h1 := h) (i := .invokestatic 162) (by decide +kernel) rfl rfl (Nat.le_of_ble_eq_true rfl) (Or.inl rfl) (x_R_in (by omega) hc) ?_
  obtain ⟨ha, hb⟩ := bite hx
  clear hx
  refine Ev.br (i := .ifCond .ne 5) (len := 3) (a := 12) (b := 14) (by decide +kernel) rfl Iff.rfl (fun hc => ?_) (fun hc => ?_)
  · have hx := ha hc
    clear ha hb hc
    refine Ev.blk (is := [.iconst (-1)]) (pc2 := 13) (L2 := [(2, v0), (0, v1), (9, 0), (9, 0), (9, 0)]) (S2 := [(0, (-1))]) (h2 := h) (by decide +kernel) rfl trivial ?_
    cases hx
    exact Ev.ret (i := .ireturn) (len := 1) (by decide +kernel) rfl (finOf (t := some .int) rfl (trivial))
  · have hx := hb hc
    clear ha hb hc
    refine Ev.blk (is := [.aload_n 0, .iload_n 1, .i2l]) (pc2 := 17) (L2 := [(2, v0), (0, v1), (9, 0), (9, 0), (9, 0)]) (S2 := [(1, v1), (2, v0)]) (h2 := h) (by decide +kernel) rfl trivial ?_
    obtain ⟨_, hg, -, hx⟩ := bgd hx
    obtain ⟨h3, hc, hx⟩ := bca hx
    refine Ev.call (args := [(2, v0), (1, v1)]) (S2 := []) (r1 := none) (h1 := h3) (i := .invokevirtual 188) (by decide +kernel) rfl rfl (Nat.le_of_ble_eq_true rfl) (Or.inr (Or.inl ⟨rfl, hg, by decide +kernel⟩)) (x_R_laysFactors (by omega) hc) ?_
    refine Ev.blk (is := [.iload_n 1, .i2l, .lstore_n 2, .iconst 0, .istore 4]) (pc2 := 26) (L2 := [(2, v0), (0, v1), (1, v1), (8, 0), (0, 0)]) (S2 := []) (h2 := h3) (by decide +kernel) rfl trivial ?_
    refine Ev.wk (L2 := [(2, v0), (9, 0), (1, v1), (8, 0), (0, 0)]) (wkL_of ⟨Or.inl rfl, ⟨Or.inr rfl, ⟨Or.inl rfl, ⟨Or.inl rfl, ⟨Or.inl rfl, trivial⟩⟩⟩⟩⟩) ?_
    exact y_R_units_26 hd FU v0 v1 0 h3 _ hx
theorem y_R_count_210 {sc : AS} {d : Nat} (hd : 5 ≤ d) : ∀ (fu : Nat) (v0 : Int) (v2 : Int) (v3 : Int) (h : AH) (r : (Int × AH)), R_count_210 fu v0 v2 v3 h = some r → Ev sc d 264 210 [(2, v0), (9, 0), (0, v2), (0, v3)] [] h (some (0, r.1)) r.2 := by
  intro fu
  induction fu with
  | zero => intro v0 v2 v3 h r hx; unfold R_count_210 at hx; cases hx
  | succ fu ih =>
    intro v0 v2 v3 h r hx
    unfold R_count_210 at hx
    obtain ⟨u1, hg, he, hx⟩ := bgd hx
    refine Ev.blk (is := [.iload_n 3, .aload_n 0, .getfield 9007]) (pc2 := 215) (L2 := [(2, v0), (9, 0), (0, v2), (0, v3)]) (S2 := [(0, u1), (0, v3)]) (h2 := h) (by decide +kernel) (by subst he; rfl) (by exact hg) ?_
    clear hg he
    obtain ⟨ha, hb⟩ := bite hx
    clear hx
    refine Ev.br (i := .if_icmp .ge 26) (len := 3) (a := 218) (b := 241) (by decide +kernel) rfl Iff.rfl (fun hc => ?_) (fun hc => ?_)
    · have hx := ha hc
      clear ha hb hc
      obtain ⟨u2, hg, he, hx⟩ := bgd hx
      refine Ev.blk (is := [.aload_n 0, .getfield 9219]) (pc2 := 222) (L2 := [(2, v0), (9, 0), (0, v2), (0, v3)]) (S2 := [(2, u2)]) (h2 := h) (by decide +kernel) (by subst he; rfl) (by exact hg) ?_
      clear hg he
      obtain ⟨u3, hg, he, hx⟩ := bgd hx
      refine Ev.blk (is := [.iload_n 3, .baload]) (pc2 := 224) (L2 := [(2, v0), (9, 0), (0, v2), (0, v3)]) (S2 := [(0, u3)]) (h2 := h) (by decide +kernel) (by subst he; rfl) (by exact hg) ?_
      clear hg he
      obtain ⟨ha, hb⟩ := bite hx
      clear hx
      refine Ev.br (i := .ifCond .eq 11) (len := 3) (a := 235) (b := 227) (by decide +kernel) rfl Iff.rfl (fun hc => ?_) (fun hc => ?_)
      · have hx := ha hc
        clear ha hb hc
        refine Ev.blk (is := [.iinc 3 1]) (pc2 := 238) (L2 := [(2, v0), (9, 0), (0, v2), (0, w32 (v3 + 1))]) (S2 := []) (h2 := h) (by decide +kernel) rfl trivial ?_
        refine Ev.jp (i := .goto (-28)) (len := 3) (pc2 := 210) (by decide +kernel) rfl ?_
        exact ih v0 v2 (w32 (v3 + 1)) h _ hx
      · have hx := hb hc
        clear ha hb hc
        refine Ev.blk (is := [.iload_n 2, .aload_n 0, .iload_n 3]) (pc2 := 230) (L2 := [(2, v0), (9, 0), (0, v2), (0, v3)]) (S2 := [(0, v3), (2, v0), (0, v2)]) (h2 := h) (by decide +kernel) rfl trivial ?_
        obtain ⟨_, hg, -, hx⟩ := bgd hx
        obtain ⟨u4, hc, hx⟩ := bca hx
        refine Ev.call (args := [(2, v0), (0, v3)]) (S2 := [(0, v2)]) (r1 := (some (0, u4))) (h1 := h) (i := .invokevirtual 242) (by decide +kernel) rfl rfl (Nat.le_of_ble_eq_true rfl) (Or.inr (Or.inl ⟨rfl, hg, by decide +kernel⟩)) (x_R_costsOf (by omega) hc) ?_
        refine Ev.blk (is := [.iadd, .istore_n 2, .iinc 3 1]) (pc2 := 238) (L2 := [(2, v0), (9, 0), (0, w32 (v2 + u4)), (0, w32 (v3 + 1))]) (S2 := []) (h2 := h) (by decide +kernel) rfl trivial ?_
        refine Ev.jp (i := .goto (-28)) (len := 3) (pc2 := 210) (by decide +kernel) rfl ?_
        exact ih v0 (w32 (v2 + u4)) (w32 (v3 + 1)) h _ hx
    · have hx := hb hc
      clear ha hb hc
      refine Ev.blk (is := [.iload_n 2]) (pc2 := 242) (L2 := [(2, v0), (9, 0), (0, v2), (0, v3)]) (S2 := [(0, v2)]) (h2 := h) (by decide +kernel) rfl trivial ?_
      cases hx
      exact Ev.ret (i := .ireturn) (len := 1) (by decide +kernel) rfl (finOf (t := some .int) rfl (trivial))
theorem y_R_count_168 {sc : AS} {d : Nat} (hd : 5 ≤ d) : ∀ (fu : Nat) (v0 : Int) (v2 : Int) (v3 : Int) (h : AH) (r : (Int × AH)), R_count_168 fu v0 v2 v3 h = some r → Ev sc d 264 168 [(2, v0), (9, 0), (0, v2), (0, v3)] [] h (some (0, r.1)) r.2 := by
  intro fu
  induction fu with
  | zero => intro v0 v2 v3 h r hx; unfold R_count_168 at hx; cases hx
  | succ fu ih =>
    intro v0 v2 v3 h r hx
    unfold R_count_168 at hx
    obtain ⟨u1, hg, he, hx⟩ := bgd hx
    refine Ev.blk (is := [.iload_n 3, .aload_n 0, .getfield 9007]) (pc2 := 173) (L2 := [(2, v0), (9, 0), (0, v2), (0, v3)]) (S2 := [(0, u1), (0, v3)]) (h2 := h) (by decide +kernel) (by subst he; rfl) (by exact hg) ?_
    clear hg he
    obtain ⟨ha, hb⟩ := bite hx
    clear hx
    refine Ev.br (i := .if_icmp .ge 33) (len := 3) (a := 176) (b := 206) (by decide +kernel) rfl Iff.rfl (fun hc => ?_) (fun hc => ?_)
    · have hx := ha hc
      clear ha hb hc
      obtain ⟨u2, hg, he, hx⟩ := bgd hx
      refine Ev.blk (is := [.aload_n 0, .getfield 9219]) (pc2 := 180) (L2 := [(2, v0), (9, 0), (0, v2), (0, v3)]) (S2 := [(2, u2)]) (h2 := h) (by decide +kernel) (by subst he; rfl) (by exact hg) ?_
      clear hg he
      obtain ⟨u3, hg, he, hx⟩ := bgd hx
      refine Ev.blk (is := [.iload_n 3, .baload]) (pc2 := 182) (L2 := [(2, v0), (9, 0), (0, v2), (0, v3)]) (S2 := [(0, u3)]) (h2 := h) (by decide +kernel) (by subst he; rfl) (by exact hg) ?_
      clear hg he
      obtain ⟨ha, hb⟩ := bite hx
      clear hx
      refine Ev.br (i := .ifCond .eq 18) (len := 3) (a := 200) (b := 185) (by decide +kernel) rfl Iff.rfl (fun hc => ?_) (fun hc => ?_)
      · have hx := ha hc
        clear ha hb hc
        refine Ev.blk (is := [.iinc 3 1]) (pc2 := 203) (L2 := [(2, v0), (9, 0), (0, v2), (0, w32 (v3 + 1))]) (S2 := []) (h2 := h) (by decide +kernel) rfl trivial ?_
        refine Ev.jp (i := .goto (-35)) (len := 3) (pc2 := 168) (by decide +kernel) rfl ?_
        exact ih v0 v2 (w32 (v3 + 1)) h _ hx
      · have hx := hb hc
        clear ha hb hc
        refine Ev.blk (is := [.aload_n 0, .iload_n 3]) (pc2 := 187) (L2 := [(2, v0), (9, 0), (0, v2), (0, v3)]) (S2 := [(0, v3), (2, v0)]) (h2 := h) (by decide +kernel) rfl trivial ?_
        obtain ⟨_, hg, -, hx⟩ := bgd hx
        obtain ⟨u4, hc, hx⟩ := bca hx
        refine Ev.call (args := [(2, v0), (0, v3)]) (S2 := []) (r1 := (some (0, u4.1))) (h1 := u4.2) (i := .invokevirtual 239) (by decide +kernel) rfl rfl (Nat.le_of_ble_eq_true rfl) (Or.inr (Or.inl ⟨rfl, hg, by decide +kernel⟩)) (x_R_deepOf (by omega) hc) ?_
        refine Ev.blk (is := [.iload_n 2]) (pc2 := 191) (L2 := [(2, v0), (9, 0), (0, v2), (0, v3)]) (S2 := [(0, v2), (0, u4.1)]) (h2 := u4.2) (by decide +kernel) rfl trivial ?_
        obtain ⟨ha, hb⟩ := bite hx
        clear hx
        refine Ev.br (i := .if_icmp .le 9) (len := 3) (a := 194) (b := 200) (by decide +kernel) rfl Iff.rfl (fun hc => ?_) (fun hc => ?_)
        · have hx := ha hc
          clear ha hb hc
          refine Ev.blk (is := [.aload_n 0, .iload_n 3]) (pc2 := 196) (L2 := [(2, v0), (9, 0), (0, v2), (0, v3)]) (S2 := [(0, v3), (2, v0)]) (h2 := u4.2) (by decide +kernel) rfl trivial ?_
          obtain ⟨_, hg, -, hx⟩ := bgd hx
          obtain ⟨u5, hc, hx⟩ := bca hx
          refine Ev.call (args := [(2, v0), (0, v3)]) (S2 := []) (r1 := (some (0, u5.1))) (h1 := u5.2) (i := .invokevirtual 239) (by decide +kernel) rfl rfl (Nat.le_of_ble_eq_true rfl) (Or.inr (Or.inl ⟨rfl, hg, by decide +kernel⟩)) (x_R_deepOf (by omega) hc) ?_
          refine Ev.blk (is := [.istore_n 2, .iinc 3 1]) (pc2 := 203) (L2 := [(2, v0), (9, 0), (0, u5.1), (0, w32 (v3 + 1))]) (S2 := []) (h2 := u5.2) (by decide +kernel) rfl trivial ?_
          refine Ev.jp (i := .goto (-35)) (len := 3) (pc2 := 168) (by decide +kernel) rfl ?_
          exact ih v0 u5.1 (w32 (v3 + 1)) u5.2 _ hx
        · have hx := hb hc
          clear ha hb hc
          refine Ev.blk (is := [.iinc 3 1]) (pc2 := 203) (L2 := [(2, v0), (9, 0), (0, v2), (0, w32 (v3 + 1))]) (S2 := []) (h2 := u4.2) (by decide +kernel) rfl trivial ?_
          refine Ev.jp (i := .goto (-35)) (len := 3) (pc2 := 168) (by decide +kernel) rfl ?_
          exact ih v0 v2 (w32 (v3 + 1)) u4.2 _ hx
    · have hx := hb hc
      clear ha hb hc
      refine Ev.blk (is := [.iload_n 2]) (pc2 := 207) (L2 := [(2, v0), (9, 0), (0, v2), (0, v3)]) (S2 := [(0, v2)]) (h2 := h) (by decide +kernel) rfl trivial ?_
      cases hx
      exact Ev.ret (i := .ireturn) (len := 1) (by decide +kernel) rfl (finOf (t := some .int) rfl (trivial))
theorem y_R_count_124 {sc : AS} {d : Nat} (hd : 5 ≤ d) : ∀ (fu : Nat) (v0 : Int) (v2 : Int) (v3 : Int) (h : AH) (r : (Int × AH)), R_count_124 fu v0 v2 v3 h = some r → Ev sc d 264 124 [(2, v0), (9, 0), (0, v2), (0, v3)] [] h (some (0, r.1)) r.2 := by
  intro fu
  induction fu with
  | zero => intro v0 v2 v3 h r hx; unfold R_count_124 at hx; cases hx
  | succ fu ih =>
    intro v0 v2 v3 h r hx
    unfold R_count_124 at hx
    obtain ⟨u1, hg, he, hx⟩ := bgd hx
    refine Ev.blk (is := [.iload_n 3, .aload_n 0, .getfield 9007]) (pc2 := 129) (L2 := [(2, v0), (9, 0), (0, v2), (0, v3)]) (S2 := [(0, u1), (0, v3)]) (h2 := h) (by decide +kernel) (by subst he; rfl) (by exact hg) ?_
    clear hg he
    obtain ⟨ha, hb⟩ := bite hx
    clear hx
    refine Ev.br (i := .if_icmp .ge 35) (len := 3) (a := 132) (b := 164) (by decide +kernel) rfl Iff.rfl (fun hc => ?_) (fun hc => ?_)
    · have hx := ha hc
      clear ha hb hc
      obtain ⟨u2, hg, he, hx⟩ := bgd hx
      refine Ev.blk (is := [.aload_n 0, .getfield 9219]) (pc2 := 136) (L2 := [(2, v0), (9, 0), (0, v2), (0, v3)]) (S2 := [(2, u2)]) (h2 := h) (by decide +kernel) (by subst he; rfl) (by exact hg) ?_
      clear hg he
      obtain ⟨u3, hg, he, hx⟩ := bgd hx
      refine Ev.blk (is := [.iload_n 3, .baload]) (pc2 := 138) (L2 := [(2, v0), (9, 0), (0, v2), (0, v3)]) (S2 := [(0, u3)]) (h2 := h) (by decide +kernel) (by subst he; rfl) (by exact hg) ?_
      clear hg he
      obtain ⟨ha, hb⟩ := bite hx
      clear hx
      refine Ev.br (i := .ifCond .eq 20) (len := 3) (a := 158) (b := 141) (by decide +kernel) rfl Iff.rfl (fun hc => ?_) (fun hc => ?_)
      · have hx := ha hc
        clear ha hb hc
        refine Ev.blk (is := [.iinc 3 1]) (pc2 := 161) (L2 := [(2, v0), (9, 0), (0, v2), (0, w32 (v3 + 1))]) (S2 := []) (h2 := h) (by decide +kernel) rfl trivial ?_
        refine Ev.jp (i := .goto (-37)) (len := 3) (pc2 := 124) (by decide +kernel) rfl ?_
        exact ih v0 v2 (w32 (v3 + 1)) h _ hx
      · have hx := hb hc
        clear ha hb hc
        obtain ⟨u4, hg, he, hx⟩ := bgd hx
        refine Ev.blk (is := [.aload_n 0, .getfield 9208]) (pc2 := 145) (L2 := [(2, v0), (9, 0), (0, v2), (0, v3)]) (S2 := [(2, u4)]) (h2 := h) (by decide +kernel) (by subst he; rfl) (by exact hg) ?_
        clear hg he
        obtain ⟨u5, hg, he, hx⟩ := bgd hx
        refine Ev.blk (is := [.iload_n 3, .iaload]) (pc2 := 147) (L2 := [(2, v0), (9, 0), (0, v2), (0, v3)]) (S2 := [(0, u5)]) (h2 := h) (by decide +kernel) (by subst he; rfl) (by exact hg) ?_
        clear hg he
        refine Ev.blk (is := [.iload_n 2]) (pc2 := 148) (L2 := [(2, v0), (9, 0), (0, v2), (0, v3)]) (S2 := [(0, v2), (0, u5)]) (h2 := h) (by decide +kernel) rfl trivial ?_
        obtain ⟨ha, hb⟩ := bite hx
        clear hx
        refine Ev.br (i := .if_icmp .le 10) (len := 3) (a := 151) (b := 158) (by decide +kernel) rfl Iff.rfl (fun hc => ?_) (fun hc => ?_)
        · have hx := ha hc
          clear ha hb hc
          obtain ⟨u6, hg, he, hx⟩ := bgd hx
          refine Ev.blk (is := [.aload_n 0, .getfield 9208]) (pc2 := 155) (L2 := [(2, v0), (9, 0), (0, v2), (0, v3)]) (S2 := [(2, u6)]) (h2 := h) (by decide +kernel) (by subst he; rfl) (by exact hg) ?_
          clear hg he
          obtain ⟨u7, hg, he, hx⟩ := bgd hx
          refine Ev.blk (is := [.iload_n 3, .iaload]) (pc2 := 157) (L2 := [(2, v0), (9, 0), (0, v2), (0, v3)]) (S2 := [(0, u7)]) (h2 := h) (by decide +kernel) (by subst he; rfl) (by exact hg) ?_
          clear hg he
          refine Ev.blk (is := [.istore_n 2, .iinc 3 1]) (pc2 := 161) (L2 := [(2, v0), (9, 0), (0, u7), (0, w32 (v3 + 1))]) (S2 := []) (h2 := h) (by decide +kernel) rfl trivial ?_
          refine Ev.jp (i := .goto (-37)) (len := 3) (pc2 := 124) (by decide +kernel) rfl ?_
          exact ih v0 u7 (w32 (v3 + 1)) h _ hx
        · have hx := hb hc
          clear ha hb hc
          refine Ev.blk (is := [.iinc 3 1]) (pc2 := 161) (L2 := [(2, v0), (9, 0), (0, v2), (0, w32 (v3 + 1))]) (S2 := []) (h2 := h) (by decide +kernel) rfl trivial ?_
          refine Ev.jp (i := .goto (-37)) (len := 3) (pc2 := 124) (by decide +kernel) rfl ?_
          exact ih v0 v2 (w32 (v3 + 1)) h _ hx
    · have hx := hb hc
      clear ha hb hc
      refine Ev.blk (is := [.iload_n 2]) (pc2 := 165) (L2 := [(2, v0), (9, 0), (0, v2), (0, v3)]) (S2 := [(0, v2)]) (h2 := h) (by decide +kernel) rfl trivial ?_
      cases hx
      exact Ev.ret (i := .ireturn) (len := 1) (by decide +kernel) rfl (finOf (t := some .int) rfl (trivial))
theorem y_R_count_85 {sc : AS} {d : Nat} (hd : 5 ≤ d) : ∀ (fu : Nat) (v0 : Int) (v2 : Int) (v3 : Int) (h : AH) (r : (Int × AH)), R_count_85 fu v0 v2 v3 h = some r → Ev sc d 264 85 [(2, v0), (9, 0), (0, v2), (0, v3)] [] h (some (0, r.1)) r.2 := by
  intro fu
  induction fu with
  | zero => intro v0 v2 v3 h r hx; unfold R_count_85 at hx; cases hx
  | succ fu ih =>
    intro v0 v2 v3 h r hx
    unfold R_count_85 at hx
    obtain ⟨u1, hg, he, hx⟩ := bgd hx
    refine Ev.blk (is := [.iload_n 3, .aload_n 0, .getfield 9007]) (pc2 := 90) (L2 := [(2, v0), (9, 0), (0, v2), (0, v3)]) (S2 := [(0, u1), (0, v3)]) (h2 := h) (by decide +kernel) (by subst he; rfl) (by exact hg) ?_
    clear hg he
    obtain ⟨ha, hb⟩ := bite hx
    clear hx
    refine Ev.br (i := .if_icmp .ge 25) (len := 3) (a := 93) (b := 115) (by decide +kernel) rfl Iff.rfl (fun hc => ?_) (fun hc => ?_)
    · have hx := ha hc
      clear ha hb hc
      obtain ⟨u2, hg, he, hx⟩ := bgd hx
      refine Ev.blk (is := [.iload_n 2, .aload_n 0, .getfield 9212]) (pc2 := 98) (L2 := [(2, v0), (9, 0), (0, v2), (0, v3)]) (S2 := [(2, u2), (0, v2)]) (h2 := h) (by decide +kernel) (by subst he; rfl) (by exact hg) ?_
      clear hg he
      obtain ⟨u3, hg, he, hx⟩ := bgd hx
      refine Ev.blk (is := [.iload_n 3, .iaload]) (pc2 := 100) (L2 := [(2, v0), (9, 0), (0, v2), (0, v3)]) (S2 := [(0, u3), (0, v2)]) (h2 := h) (by decide +kernel) (by subst he; rfl) (by exact hg) ?_
      clear hg he
      obtain ⟨u4, hg, he, hx⟩ := bgd hx
      refine Ev.blk (is := [.aload_n 0, .getfield 9213]) (pc2 := 104) (L2 := [(2, v0), (9, 0), (0, v2), (0, v3)]) (S2 := [(2, u4), (0, u3), (0, v2)]) (h2 := h) (by decide +kernel) (by subst he; rfl) (by exact hg) ?_
      clear hg he
      obtain ⟨u5, hg, he, hx⟩ := bgd hx
      refine Ev.blk (is := [.iload_n 3, .iaload]) (pc2 := 106) (L2 := [(2, v0), (9, 0), (0, v2), (0, v3)]) (S2 := [(0, u5), (0, u3), (0, v2)]) (h2 := h) (by decide +kernel) (by subst he; rfl) (by exact hg) ?_
      clear hg he
      refine Ev.blk (is := [.iadd, .iadd, .istore_n 2, .iinc 3 1]) (pc2 := 112) (L2 := [(2, v0), (9, 0), (0, w32 (v2 + (w32 (u3 + u5)))), (0, w32 (v3 + 1))]) (S2 := []) (h2 := h) (by decide +kernel) rfl trivial ?_
      refine Ev.jp (i := .goto (-27)) (len := 3) (pc2 := 85) (by decide +kernel) rfl ?_
      exact ih v0 (w32 (v2 + (w32 (u3 + u5)))) (w32 (v3 + 1)) h _ hx
    · have hx := hb hc
      clear ha hb hc
      refine Ev.blk (is := [.iload_n 2]) (pc2 := 116) (L2 := [(2, v0), (9, 0), (0, v2), (0, v3)]) (S2 := [(0, v2)]) (h2 := h) (by decide +kernel) rfl trivial ?_
      cases hx
      exact Ev.ret (i := .ireturn) (len := 1) (by decide +kernel) rfl (finOf (t := some .int) rfl (trivial))
theorem y_R_count_55 {sc : AS} {d : Nat} (hd : 5 ≤ d) : ∀ (fu : Nat) (v0 : Int) (v2 : Int) (v3 : Int) (h : AH) (r : (Int × AH)), R_count_55 fu v0 v2 v3 h = some r → Ev sc d 264 55 [(2, v0), (9, 0), (0, v2), (0, v3)] [] h (some (0, r.1)) r.2 := by
  intro fu
  induction fu with
  | zero => intro v0 v2 v3 h r hx; unfold R_count_55 at hx; cases hx
  | succ fu ih =>
    intro v0 v2 v3 h r hx
    unfold R_count_55 at hx
    obtain ⟨u1, hg, he, hx⟩ := bgd hx
    refine Ev.blk (is := [.iload_n 3, .aload_n 0, .getfield 9007]) (pc2 := 60) (L2 := [(2, v0), (9, 0), (0, v2), (0, v3)]) (S2 := [(0, u1), (0, v3)]) (h2 := h) (by decide +kernel) (by subst he; rfl) (by exact hg) ?_
    clear hg he
    obtain ⟨ha, hb⟩ := bite hx
    clear hx
    refine Ev.br (i := .if_icmp .ge 21) (len := 3) (a := 63) (b := 81) (by decide +kernel) rfl Iff.rfl (fun hc => ?_) (fun hc => ?_)
    · have hx := ha hc
      clear ha hb hc
      obtain ⟨u2, hg, he, hx⟩ := bgd hx
      refine Ev.blk (is := [.aload_n 0, .getfield 9219]) (pc2 := 67) (L2 := [(2, v0), (9, 0), (0, v2), (0, v3)]) (S2 := [(2, u2)]) (h2 := h) (by decide +kernel) (by subst he; rfl) (by exact hg) ?_
      clear hg he
      obtain ⟨u3, hg, he, hx⟩ := bgd hx
      refine Ev.blk (is := [.iload_n 3, .baload]) (pc2 := 69) (L2 := [(2, v0), (9, 0), (0, v2), (0, v3)]) (S2 := [(0, u3)]) (h2 := h) (by decide +kernel) (by subst he; rfl) (by exact hg) ?_
      clear hg he
      obtain ⟨ha, hb⟩ := bite hx
      clear hx
      refine Ev.br (i := .ifCond .eq 6) (len := 3) (a := 75) (b := 72) (by decide +kernel) rfl Iff.rfl (fun hc => ?_) (fun hc => ?_)
      · have hx := ha hc
        clear ha hb hc
        refine Ev.blk (is := [.iinc 3 1]) (pc2 := 78) (L2 := [(2, v0), (9, 0), (0, v2), (0, w32 (v3 + 1))]) (S2 := []) (h2 := h) (by decide +kernel) rfl trivial ?_
        refine Ev.jp (i := .goto (-23)) (len := 3) (pc2 := 55) (by decide +kernel) rfl ?_
        exact ih v0 v2 (w32 (v3 + 1)) h _ hx
      · have hx := hb hc
        clear ha hb hc
        refine Ev.blk (is := [.iinc 2 1, .iinc 3 1]) (pc2 := 78) (L2 := [(2, v0), (9, 0), (0, w32 (v2 + 1)), (0, w32 (v3 + 1))]) (S2 := []) (h2 := h) (by decide +kernel) rfl trivial ?_
        refine Ev.jp (i := .goto (-23)) (len := 3) (pc2 := 55) (by decide +kernel) rfl ?_
        exact ih v0 (w32 (v2 + 1)) (w32 (v3 + 1)) h _ hx
    · have hx := hb hc
      clear ha hb hc
      refine Ev.blk (is := [.iload_n 2]) (pc2 := 82) (L2 := [(2, v0), (9, 0), (0, v2), (0, v3)]) (S2 := [(0, v2)]) (h2 := h) (by decide +kernel) rfl trivial ?_
      cases hx
      exact Ev.ret (i := .ireturn) (len := 1) (by decide +kernel) rfl (finOf (t := some .int) rfl (trivial))
theorem x_R_count {sc : AS} {d : Nat} (hd : 6 ≤ d) {v0 : Int} {v1 : Int} {h : AH} {r : (Int × AH)} (hx : R_count v0 v1 h = some r) : Runs sc d 264 [(2, v0), (0, v1)] h (some (0, r.1)) r.2 := by
  obtain ⟨d, rfl⟩ : ∃ e, d = e + 1 := ⟨d - 1, by omega⟩
  have hd : 5 ≤ d := by omega
  unfold R_count at hx
  refine ⟨⟨aM_264, rfl, Nat.le_of_ble_eq_true rfl⟩, ?_⟩
  show Ev sc d 264 0 [(2, v0), (0, v1), (9, 0), (9, 0)] [] h (some (0, r.1)) r.2
  refine Ev.blk (is := [.aload_n 0]) (pc2 := 1) (L2 := [(2, v0), (0, v1), (9, 0), (9, 0)]) (S2 := [(2, v0)]) (h2 := h) (by decide +kernel) rfl trivial ?_
  obtain ⟨_, hg, -, hx⟩ := bgd hx
  obtain ⟨h2, hc, hx⟩ := bca hx
  refine Ev.call (args := [(2, v0)]) (S2 := []) (r1 := none) (h1 := h2) (i := .invokevirtual 164) (by decide +kernel) rfl rfl (Nat.le_of_ble_eq_true rfl) (Or.inr (Or.inl ⟨rfl, hg, by decide +kernel⟩)) (x_R_laysRight (by omega) hc) ?_
  refine Ev.blk (is := [.iconst 0, .istore_n 2, .iload_n 1]) (pc2 := 7) (L2 := [(2, v0), (0, v1), (0, 0), (9, 0)]) (S2 := [(0, v1)]) (h2 := h2) (by decide +kernel) rfl trivial ?_
  obtain ⟨ha, hb⟩ := bite hx
  clear hx
  by_cases hc0 : v1 = 0
  · have hx := ha hc0
    clear ha hb
    refine Ev.jp (i := .tableswitch 236 0 6 #[41, 46, 76, 110, 115, 159, 201]) (len := 41) (pc2 := 48) (by decide +kernel) (by rw [hc0]; rfl) ?_
    clear hc0
    obtain ⟨u3, hg, he, hx⟩ := bgd hx
    refine Ev.blk (is := [.aload_n 0, .getfield 9007]) (pc2 := 52) (L2 := [(2, v0), (0, v1), (0, 0), (9, 0)]) (S2 := [(0, u3)]) (h2 := h2) (by decide +kernel) (by subst he; rfl) (by exact hg) ?_
    clear hg he
    cases hx
    exact Ev.ret (i := .ireturn) (len := 1) (by decide +kernel) rfl (finOf (t := some .int) rfl (trivial))
  have hx := hb hc0
  clear ha hb
  obtain ⟨ha, hb⟩ := bite hx
  clear hx
  by_cases hc1 : v1 = 1
  · have hx := ha hc1
    clear ha hb
    refine Ev.jp (i := .tableswitch 236 0 6 #[41, 46, 76, 110, 115, 159, 201]) (len := 41) (pc2 := 53) (by decide +kernel) (by rw [hc1]; rfl) ?_
    clear hc1
    refine Ev.blk (is := [.iconst 0, .istore_n 3]) (pc2 := 55) (L2 := [(2, v0), (0, v1), (0, 0), (0, 0)]) (S2 := []) (h2 := h2) (by decide +kernel) rfl trivial ?_
    refine Ev.wk (L2 := [(2, v0), (9, 0), (0, 0), (0, 0)]) (wkL_of ⟨Or.inl rfl, ⟨Or.inr rfl, ⟨Or.inl rfl, ⟨Or.inl rfl, trivial⟩⟩⟩⟩) ?_
    exact y_R_count_55 hd FU v0 0 0 h2 _ hx
  have hx := hb hc1
  clear ha hb
  obtain ⟨ha, hb⟩ := bite hx
  clear hx
  by_cases hc2 : v1 = 2
  · have hx := ha hc2
    clear ha hb
    refine Ev.jp (i := .tableswitch 236 0 6 #[41, 46, 76, 110, 115, 159, 201]) (len := 41) (pc2 := 83) (by decide +kernel) (by rw [hc2]; rfl) ?_
    clear hc2
    refine Ev.blk (is := [.iconst 0, .istore_n 3]) (pc2 := 85) (L2 := [(2, v0), (0, v1), (0, 0), (0, 0)]) (S2 := []) (h2 := h2) (by decide +kernel) rfl trivial ?_
    refine Ev.wk (L2 := [(2, v0), (9, 0), (0, 0), (0, 0)]) (wkL_of ⟨Or.inl rfl, ⟨Or.inr rfl, ⟨Or.inl rfl, ⟨Or.inl rfl, trivial⟩⟩⟩⟩) ?_
    exact y_R_count_85 hd FU v0 0 0 h2 _ hx
  have hx := hb hc2
  clear ha hb
  obtain ⟨ha, hb⟩ := bite hx
  clear hx
  by_cases hc3 : v1 = 3
  · have hx := ha hc3
    clear ha hb
    refine Ev.jp (i := .tableswitch 236 0 6 #[41, 46, 76, 110, 115, 159, 201]) (len := 41) (pc2 := 117) (by decide +kernel) (by rw [hc3]; rfl) ?_
    clear hc3
    obtain ⟨u4, hg, he, hx⟩ := bgd hx
    refine Ev.blk (is := [.aload_n 0, .getfield 9024]) (pc2 := 121) (L2 := [(2, v0), (0, v1), (0, 0), (9, 0)]) (S2 := [(0, u4)]) (h2 := h2) (by decide +kernel) (by subst he; rfl) (by exact hg) ?_
    clear hg he
    cases hx
    exact Ev.ret (i := .ireturn) (len := 1) (by decide +kernel) rfl (finOf (t := some .int) rfl (trivial))
  have hx := hb hc3
  clear ha hb
  obtain ⟨ha, hb⟩ := bite hx
  clear hx
  by_cases hc4 : v1 = 4
  · have hx := ha hc4
    clear ha hb
    refine Ev.jp (i := .tableswitch 236 0 6 #[41, 46, 76, 110, 115, 159, 201]) (len := 41) (pc2 := 122) (by decide +kernel) (by rw [hc4]; rfl) ?_
    clear hc4
    refine Ev.blk (is := [.iconst 0, .istore_n 3]) (pc2 := 124) (L2 := [(2, v0), (0, v1), (0, 0), (0, 0)]) (S2 := []) (h2 := h2) (by decide +kernel) rfl trivial ?_
    refine Ev.wk (L2 := [(2, v0), (9, 0), (0, 0), (0, 0)]) (wkL_of ⟨Or.inl rfl, ⟨Or.inr rfl, ⟨Or.inl rfl, ⟨Or.inl rfl, trivial⟩⟩⟩⟩) ?_
    exact y_R_count_124 hd FU v0 0 0 h2 _ hx
  have hx := hb hc4
  clear ha hb
  obtain ⟨ha, hb⟩ := bite hx
  clear hx
  by_cases hc5 : v1 = 5
  · have hx := ha hc5
    clear ha hb
    refine Ev.jp (i := .tableswitch 236 0 6 #[41, 46, 76, 110, 115, 159, 201]) (len := 41) (pc2 := 166) (by decide +kernel) (by rw [hc5]; rfl) ?_
    clear hc5
    refine Ev.blk (is := [.iconst 0, .istore_n 3]) (pc2 := 168) (L2 := [(2, v0), (0, v1), (0, 0), (0, 0)]) (S2 := []) (h2 := h2) (by decide +kernel) rfl trivial ?_
    refine Ev.wk (L2 := [(2, v0), (9, 0), (0, 0), (0, 0)]) (wkL_of ⟨Or.inl rfl, ⟨Or.inr rfl, ⟨Or.inl rfl, ⟨Or.inl rfl, trivial⟩⟩⟩⟩) ?_
    exact y_R_count_168 hd FU v0 0 0 h2 _ hx
  have hx := hb hc5
  clear ha hb
  obtain ⟨ha, hb⟩ := bite hx
  clear hx
  by_cases hc6 : v1 = 6
  · have hx := ha hc6
    clear ha hb
    refine Ev.jp (i := .tableswitch 236 0 6 #[41, 46, 76, 110, 115, 159, 201]) (len := 41) (pc2 := 208) (by decide +kernel) (by rw [hc6]; rfl) ?_
    clear hc6
    refine Ev.blk (is := [.iconst 0, .istore_n 3]) (pc2 := 210) (L2 := [(2, v0), (0, v1), (0, 0), (0, 0)]) (S2 := []) (h2 := h2) (by decide +kernel) rfl trivial ?_
    refine Ev.wk (L2 := [(2, v0), (9, 0), (0, 0), (0, 0)]) (wkL_of ⟨Or.inl rfl, ⟨Or.inr rfl, ⟨Or.inl rfl, ⟨Or.inl rfl, trivial⟩⟩⟩⟩) ?_
    exact y_R_count_210 hd FU v0 0 0 h2 _ hx
  have hx := hb hc6
  clear ha hb
  refine Ev.jp (i := .tableswitch 236 0 6 #[41, 46, 76, 110, 115, 159, 201]) (len := 41) (pc2 := 243) (by decide +kernel) (jsw (by omega)) ?_
  clear hc0 hc1 hc2 hc3 hc4 hc5 hc6
  refine Ev.blk (is := [.iconst (-1)]) (pc2 := 244) (L2 := [(2, v0), (0, v1), (0, 0), (9, 0)]) (S2 := [(0, (-1))]) (h2 := h2) (by decide +kernel) rfl trivial ?_
  cases hx
  exact Ev.ret (i := .ireturn) (len := 1) (by decide +kernel) rfl (finOf (t := some .int) rfl (trivial))
theorem y_Law_law_439 {sc : AS} {d : Nat} (hd : 53 ≤ d) {k18 : Int → Int → Int → AH → Option (Int × AH)} (hk18 : ∀ (v1 : Int) (v2 : Int) (v3 : Int) (h : AH) (r : (Int × AH)), k18 v1 v2 v3 h = some r → Ev sc d 265 18 [(4, 1), (2, v1), (2, v2), (0, v3)] [] h (some (0, r.1)) r.2) : ∀ (v1 : Int) (v2 : Int) (v3 : Int) (s0 : Int) (s1 : Int) (s2 : Int) (s3 : Int) (h : AH) (r : (Int × AH)), Law_law_439 sc k18 v1 v2 v3 s0 s1 s2 s3 h = some r → Ev sc d 265 439 [(4, 1), (2, v1), (2, v2), (0, v3)] [(0, s0), (0, s1), (2, s2), (0, s3)] h (some (0, r.1)) r.2 := by
  intro v1 v2 v3 s0 s1 s2 s3 h r hx
  unfold Law_law_439 at hx
  obtain ⟨u1, hg, he, hx⟩ := bgd hx
  refine Ev.blk (is := [.aload_n 0, .iload_n 3, .iconst 3, .iadd, .iaload]) (pc2 := 444) (L2 := [(4, 1), (2, v1), (2, v2), (0, v3)]) (S2 := [(0, u1), (0, s0), (0, s1), (2, s2), (0, s3)]) (h2 := h) (by decide +kernel) (by subst he; rfl) (by exact hg) ?_
  clear hg he
  obtain ⟨u2, hg, he, hx⟩ := bgd hx
  refine Ev.blk (is := [.aload_n 0, .iload_n 3, .iconst 4, .iadd, .iaload]) (pc2 := 449) (L2 := [(4, 1), (2, v1), (2, v2), (0, v3)]) (S2 := [(0, u2), (0, u1), (0, s0), (0, s1), (2, s2), (0, s3)]) (h2 := h) (by decide +kernel) (by subst he; rfl) (by exact hg) ?_
  clear hg he
  obtain ⟨u3, hg, he, hx⟩ := bgd hx
  refine Ev.blk (is := [.aload_n 0, .iload_n 3, .iconst 5, .iadd, .iaload]) (pc2 := 454) (L2 := [(4, 1), (2, v1), (2, v2), (0, v3)]) (S2 := [(0, u3), (0, u2), (0, u1), (0, s0), (0, s1), (2, s2), (0, s3)]) (h2 := h) (by decide +kernel) (by subst he; rfl) (by exact hg) ?_
  clear hg he
  obtain ⟨_, hg, -, hx⟩ := bgd hx
  obtain ⟨u4, hc, hx⟩ := bca hx
  refine Ev.call (args := [(2, s2), (0, s1), (0, s0), (0, u1), (0, u2), (0, u3)]) (S2 := [(0, s3)]) (r1 := (some (0, u4.1))) (h1 := u4.2) (i := .invokevirtual 222) (by decide +kernel) rfl rfl (Nat.le_of_ble_eq_true rfl) (Or.inr (Or.inl ⟨rfl, hg, by decide +kernel⟩)) (x_R_alter (by omega) hc) ?_
  obtain ⟨ha, hb⟩ := bite hx
  clear hx
  refine Ev.br (i := .if_icmp .eq 1043) (len := 3) (a := 1500) (b := 460) (by decide +kernel) rfl Iff.rfl (fun hc => ?_) (fun hc => ?_)
  · have hx := ha hc
    clear ha hb hc
    refine Ev.blk (is := [.iinc 3 6]) (pc2 := 1503) (L2 := [(4, 1), (2, v1), (2, v2), (0, w32 (v3 + 6))]) (S2 := []) (h2 := u4.2) (by decide +kernel) rfl trivial ?_
    refine Ev.jp (i := .goto (-1485)) (len := 3) (pc2 := 18) (by decide +kernel) rfl ?_
    exact hk18 v1 v2 (w32 (v3 + 6)) u4.2 _ hx
  · have hx := hb hc
    clear ha hb hc
    refine Ev.blk (is := [.iconst 0]) (pc2 := 461) (L2 := [(4, 1), (2, v1), (2, v2), (0, v3)]) (S2 := [(0, 0)]) (h2 := u4.2) (by decide +kernel) rfl trivial ?_
    cases hx
    exact Ev.ret (i := .ireturn) (len := 1) (by decide +kernel) rfl (finOf (t := some .boolean) rfl (bz0))
theorem y_Law_law_402 {sc : AS} {d : Nat} (hd : 53 ≤ d) {k18 : Int → Int → Int → AH → Option (Int × AH)} (hk18 : ∀ (v1 : Int) (v2 : Int) (v3 : Int) (h : AH) (r : (Int × AH)), k18 v1 v2 v3 h = some r → Ev sc d 265 18 [(4, 1), (2, v1), (2, v2), (0, v3)] [] h (some (0, r.1)) r.2) : ∀ (v1 : Int) (v2 : Int) (v3 : Int) (s0 : Int) (s1 : Int) (s2 : Int) (h : AH) (r : (Int × AH)), Law_law_402 sc k18 v1 v2 v3 s0 s1 s2 h = some r → Ev sc d 265 402 [(4, 1), (2, v1), (2, v2), (0, v3)] [(0, s0), (0, s1), (2, s2)] h (some (0, r.1)) r.2 := by
  intro v1 v2 v3 s0 s1 s2 h r hx
  unfold Law_law_402 at hx
  obtain ⟨u1, hg, he, hx⟩ := bgd hx
  refine Ev.blk (is := [.aload_n 0, .iload_n 3, .iconst 3, .iadd, .iaload]) (pc2 := 407) (L2 := [(4, 1), (2, v1), (2, v2), (0, v3)]) (S2 := [(0, u1), (0, s0), (0, s1), (2, s2)]) (h2 := h) (by decide +kernel) (by subst he; rfl) (by exact hg) ?_
  clear hg he
  obtain ⟨u2, hg, he, hx⟩ := bgd hx
  refine Ev.blk (is := [.aload_n 0, .iload_n 3, .iconst 4, .iadd, .iaload]) (pc2 := 412) (L2 := [(4, 1), (2, v1), (2, v2), (0, v3)]) (S2 := [(0, u2), (0, u1), (0, s0), (0, s1), (2, s2)]) (h2 := h) (by decide +kernel) (by subst he; rfl) (by exact hg) ?_
  clear hg he
  obtain ⟨u3, hg, he, hx⟩ := bgd hx
  refine Ev.blk (is := [.aload_n 0, .iload_n 3, .iconst 5, .iadd, .iaload]) (pc2 := 417) (L2 := [(4, 1), (2, v1), (2, v2), (0, v3)]) (S2 := [(0, u3), (0, u2), (0, u1), (0, s0), (0, s1), (2, s2)]) (h2 := h) (by decide +kernel) (by subst he; rfl) (by exact hg) ?_
  clear hg he
  obtain ⟨_, hg, -, hx⟩ := bgd hx
  obtain ⟨u4, hc, hx⟩ := bca hx
  refine Ev.call (args := [(2, s2), (0, s1), (0, s0), (0, u1), (0, u2), (0, u3)]) (S2 := []) (r1 := (some (0, u4.1))) (h1 := u4.2) (i := .invokevirtual 95) (by decide +kernel) rfl rfl (Nat.le_of_ble_eq_true rfl) (Or.inr (Or.inl ⟨rfl, hg, by decide +kernel⟩)) (x_X_alter (by omega) hc) ?_
  obtain ⟨u5, hg, he, hx⟩ := bgd hx
  refine Ev.blk (is := [.aload_n 2, .aload_n 0, .iload_n 3, .iconst 1, .iadd, .iaload]) (pc2 := 426) (L2 := [(4, 1), (2, v1), (2, v2), (0, v3)]) (S2 := [(0, u5), (2, v2), (0, u4.1)]) (h2 := u4.2) (by decide +kernel) (by subst he; rfl) (by exact hg) ?_
  clear hg he
  obtain ⟨u6, hg, he, hx⟩ := bgd hx
  refine Ev.blk (is := [.aload_n 0, .iload_n 3, .iconst 2, .iadd, .iaload]) (pc2 := 431) (L2 := [(4, 1), (2, v1), (2, v2), (0, v3)]) (S2 := [(0, u6), (0, u5), (2, v2), (0, u4.1)]) (h2 := u4.2) (by decide +kernel) (by subst he; rfl) (by exact hg) ?_
  clear hg he
  obtain ⟨ha, hb⟩ := bite hx
  clear hx
  refine Ev.br (i := .ifCond .eq 7) (len := 3) (a := 438) (b := 434) (by decide +kernel) rfl Iff.rfl (fun hc => ?_) (fun hc => ?_)
  · have hx := ha hc
    clear ha hb hc
    refine Ev.blk (is := [.iconst 0]) (pc2 := 439) (L2 := [(4, 1), (2, v1), (2, v2), (0, v3)]) (S2 := [(0, 0), (0, u5), (2, v2), (0, u4.1)]) (h2 := u4.2) (by decide +kernel) rfl trivial ?_
    exact y_Law_law_439 hd hk18 v1 v2 v3 0 u5 v2 u4.1 u4.2 _ hx
  · have hx := hb hc
    clear ha hb hc
    refine Ev.blk (is := [.iconst 1]) (pc2 := 435) (L2 := [(4, 1), (2, v1), (2, v2), (0, v3)]) (S2 := [(0, 1), (0, u5), (2, v2), (0, u4.1)]) (h2 := u4.2) (by decide +kernel) rfl trivial ?_
    refine Ev.jp (i := .goto 4) (len := 3) (pc2 := 439) (by decide +kernel) rfl ?_
    exact y_Law_law_439 hd hk18 v1 v2 v3 1 u5 v2 u4.1 u4.2 _ hx
theorem y_Law_law_508 {sc : AS} {d : Nat} (hd : 53 ≤ d) {k18 : Int → Int → Int → AH → Option (Int × AH)} (hk18 : ∀ (v1 : Int) (v2 : Int) (v3 : Int) (h : AH) (r : (Int × AH)), k18 v1 v2 v3 h = some r → Ev sc d 265 18 [(4, 1), (2, v1), (2, v2), (0, v3)] [] h (some (0, r.1)) r.2) : ∀ (v1 : Int) (v2 : Int) (v3 : Int) (s0 : Int) (s1 : Int) (s2 : Int) (s3 : Int) (h : AH) (r : (Int × AH)), Law_law_508 sc k18 v1 v2 v3 s0 s1 s2 s3 h = some r → Ev sc d 265 508 [(4, 1), (2, v1), (2, v2), (0, v3)] [(0, s0), (0, s1), (2, s2), (0, s3)] h (some (0, r.1)) r.2 := by
  intro v1 v2 v3 s0 s1 s2 s3 h r hx
  unfold Law_law_508 at hx
  obtain ⟨u1, hg, he, hx⟩ := bgd hx
  refine Ev.blk (is := [.aload_n 0, .iload_n 3, .iconst 3, .iadd, .iaload]) (pc2 := 513) (L2 := [(4, 1), (2, v1), (2, v2), (0, v3)]) (S2 := [(0, u1), (0, s0), (0, s1), (2, s2), (0, s3)]) (h2 := h) (by decide +kernel) (by subst he; rfl) (by exact hg) ?_
  clear hg he
  obtain ⟨_, hg, -, hx⟩ := bgd hx
  obtain ⟨u2, hc, hx⟩ := bca hx
  refine Ev.call (args := [(2, s2), (0, s1), (0, s0), (0, u1)]) (S2 := [(0, s3)]) (r1 := (some (0, u2.1))) (h1 := u2.2) (i := .invokevirtual 225) (by decide +kernel) rfl rfl (Nat.le_of_ble_eq_true rfl) (Or.inr (Or.inl ⟨rfl, hg, by decide +kernel⟩)) (x_R_cut (by omega) hc) ?_
  obtain ⟨ha, hb⟩ := bite hx
  clear hx
  refine Ev.br (i := .if_icmp .eq 984) (len := 3) (a := 1500) (b := 519) (by decide +kernel) rfl Iff.rfl (fun hc => ?_) (fun hc => ?_)
  · have hx := ha hc
    clear ha hb hc
    refine Ev.blk (is := [.iinc 3 6]) (pc2 := 1503) (L2 := [(4, 1), (2, v1), (2, v2), (0, w32 (v3 + 6))]) (S2 := []) (h2 := u2.2) (by decide +kernel) rfl trivial ?_
    refine Ev.jp (i := .goto (-1485)) (len := 3) (pc2 := 18) (by decide +kernel) rfl ?_
    exact hk18 v1 v2 (w32 (v3 + 6)) u2.2 _ hx
  · have hx := hb hc
    clear ha hb hc
    refine Ev.blk (is := [.iconst 0]) (pc2 := 520) (L2 := [(4, 1), (2, v1), (2, v2), (0, v3)]) (S2 := [(0, 0)]) (h2 := u2.2) (by decide +kernel) rfl trivial ?_
    cases hx
    exact Ev.ret (i := .ireturn) (len := 1) (by decide +kernel) rfl (finOf (t := some .boolean) rfl (bz0))
theorem y_Law_law_481 {sc : AS} {d : Nat} (hd : 53 ≤ d) {k18 : Int → Int → Int → AH → Option (Int × AH)} (hk18 : ∀ (v1 : Int) (v2 : Int) (v3 : Int) (h : AH) (r : (Int × AH)), k18 v1 v2 v3 h = some r → Ev sc d 265 18 [(4, 1), (2, v1), (2, v2), (0, v3)] [] h (some (0, r.1)) r.2) : ∀ (v1 : Int) (v2 : Int) (v3 : Int) (s0 : Int) (s1 : Int) (s2 : Int) (h : AH) (r : (Int × AH)), Law_law_481 sc k18 v1 v2 v3 s0 s1 s2 h = some r → Ev sc d 265 481 [(4, 1), (2, v1), (2, v2), (0, v3)] [(0, s0), (0, s1), (2, s2)] h (some (0, r.1)) r.2 := by
  intro v1 v2 v3 s0 s1 s2 h r hx
  unfold Law_law_481 at hx
  obtain ⟨u1, hg, he, hx⟩ := bgd hx
  refine Ev.blk (is := [.aload_n 0, .iload_n 3, .iconst 3, .iadd, .iaload]) (pc2 := 486) (L2 := [(4, 1), (2, v1), (2, v2), (0, v3)]) (S2 := [(0, u1), (0, s0), (0, s1), (2, s2)]) (h2 := h) (by decide +kernel) (by subst he; rfl) (by exact hg) ?_
  clear hg he
  obtain ⟨_, hg, -, hx⟩ := bgd hx
  obtain ⟨u2, hc, hx⟩ := bca hx
  refine Ev.call (args := [(2, s2), (0, s1), (0, s0), (0, u1)]) (S2 := []) (r1 := (some (0, u2.1))) (h1 := u2.2) (i := .invokevirtual 100) (by decide +kernel) rfl rfl (Nat.le_of_ble_eq_true rfl) (Or.inr (Or.inl ⟨rfl, hg, by decide +kernel⟩)) (x_X_cut (by omega) hc) ?_
  obtain ⟨u3, hg, he, hx⟩ := bgd hx
  refine Ev.blk (is := [.aload_n 2, .aload_n 0, .iload_n 3, .iconst 1, .iadd, .iaload]) (pc2 := 495) (L2 := [(4, 1), (2, v1), (2, v2), (0, v3)]) (S2 := [(0, u3), (2, v2), (0, u2.1)]) (h2 := u2.2) (by decide +kernel) (by subst he; rfl) (by exact hg) ?_
  clear hg he
  obtain ⟨u4, hg, he, hx⟩ := bgd hx
  refine Ev.blk (is := [.aload_n 0, .iload_n 3, .iconst 2, .iadd, .iaload]) (pc2 := 500) (L2 := [(4, 1), (2, v1), (2, v2), (0, v3)]) (S2 := [(0, u4), (0, u3), (2, v2), (0, u2.1)]) (h2 := u2.2) (by decide +kernel) (by subst he; rfl) (by exact hg) ?_
  clear hg he
  obtain ⟨ha, hb⟩ := bite hx
  clear hx
  refine Ev.br (i := .ifCond .eq 7) (len := 3) (a := 507) (b := 503) (by decide +kernel) rfl Iff.rfl (fun hc => ?_) (fun hc => ?_)
  · have hx := ha hc
    clear ha hb hc
    refine Ev.blk (is := [.iconst 0]) (pc2 := 508) (L2 := [(4, 1), (2, v1), (2, v2), (0, v3)]) (S2 := [(0, 0), (0, u3), (2, v2), (0, u2.1)]) (h2 := u2.2) (by decide +kernel) rfl trivial ?_
    exact y_Law_law_508 hd hk18 v1 v2 v3 0 u3 v2 u2.1 u2.2 _ hx
  · have hx := hb hc
    clear ha hb hc
    refine Ev.blk (is := [.iconst 1]) (pc2 := 504) (L2 := [(4, 1), (2, v1), (2, v2), (0, v3)]) (S2 := [(0, 1), (0, u3), (2, v2), (0, u2.1)]) (h2 := u2.2) (by decide +kernel) rfl trivial ?_
    refine Ev.jp (i := .goto 4) (len := 3) (pc2 := 508) (by decide +kernel) rfl ?_
    exact y_Law_law_508 hd hk18 v1 v2 v3 1 u3 v2 u2.1 u2.2 _ hx
theorem y_Law_law_710 {sc : AS} {d : Nat} (hd : 53 ≤ d) {k18 : Int → Int → Int → AH → Option (Int × AH)} (hk18 : ∀ (v1 : Int) (v2 : Int) (v3 : Int) (h : AH) (r : (Int × AH)), k18 v1 v2 v3 h = some r → Ev sc d 265 18 [(4, 1), (2, v1), (2, v2), (0, v3)] [] h (some (0, r.1)) r.2) : ∀ (v1 : Int) (v2 : Int) (v3 : Int) (s0 : Int) (s1 : Int) (s2 : Int) (s3 : Int) (h : AH) (r : (Int × AH)), Law_law_710 sc k18 v1 v2 v3 s0 s1 s2 s3 h = some r → Ev sc d 265 710 [(4, 1), (2, v1), (2, v2), (0, v3)] [(0, s0), (0, s1), (2, s2), (0, s3)] h (some (0, r.1)) r.2 := by
  intro v1 v2 v3 s0 s1 s2 s3 h r hx
  unfold Law_law_710 at hx
  obtain ⟨u1, hg, he, hx⟩ := bgd hx
  refine Ev.blk (is := [.aload_n 0, .iload_n 3, .iconst 3, .iadd, .iaload]) (pc2 := 715) (L2 := [(4, 1), (2, v1), (2, v2), (0, v3)]) (S2 := [(0, u1), (0, s0), (0, s1), (2, s2), (0, s3)]) (h2 := h) (by decide +kernel) (by subst he; rfl) (by exact hg) ?_
  clear hg he
  obtain ⟨u2, hg, he, hx⟩ := bgd hx
  refine Ev.blk (is := [.aload_n 0, .iload_n 3, .iconst 4, .iadd, .iaload]) (pc2 := 720) (L2 := [(4, 1), (2, v1), (2, v2), (0, v3)]) (S2 := [(0, u2), (0, u1), (0, s0), (0, s1), (2, s2), (0, s3)]) (h2 := h) (by decide +kernel) (by subst he; rfl) (by exact hg) ?_
  clear hg he
  obtain ⟨_, hg, -, hx⟩ := bgd hx
  obtain ⟨u3, hc, hx⟩ := bca hx
  refine Ev.call (args := [(2, s2), (0, s1), (0, s0), (0, u1), (0, u2)]) (S2 := [(0, s3)]) (r1 := (some (0, u3.1))) (h1 := u3.2) (i := .invokevirtual 235) (by decide +kernel) rfl rfl (Nat.le_of_ble_eq_true rfl) (Or.inr (Or.inl ⟨rfl, hg, by decide +kernel⟩)) (x_R_row (by omega) hc) ?_
  obtain ⟨ha, hb⟩ := bite hx
  clear hx
  refine Ev.br (i := .if_icmp .eq 777) (len := 3) (a := 1500) (b := 726) (by decide +kernel) rfl Iff.rfl (fun hc => ?_) (fun hc => ?_)
  · have hx := ha hc
    clear ha hb hc
    refine Ev.blk (is := [.iinc 3 6]) (pc2 := 1503) (L2 := [(4, 1), (2, v1), (2, v2), (0, w32 (v3 + 6))]) (S2 := []) (h2 := u3.2) (by decide +kernel) rfl trivial ?_
    refine Ev.jp (i := .goto (-1485)) (len := 3) (pc2 := 18) (by decide +kernel) rfl ?_
    exact hk18 v1 v2 (w32 (v3 + 6)) u3.2 _ hx
  · have hx := hb hc
    clear ha hb hc
    refine Ev.blk (is := [.iconst 0]) (pc2 := 727) (L2 := [(4, 1), (2, v1), (2, v2), (0, v3)]) (S2 := [(0, 0)]) (h2 := u3.2) (by decide +kernel) rfl trivial ?_
    cases hx
    exact Ev.ret (i := .ireturn) (len := 1) (by decide +kernel) rfl (finOf (t := some .boolean) rfl (bz0))
theorem y_Law_law_678 {sc : AS} {d : Nat} (hd : 53 ≤ d) {k18 : Int → Int → Int → AH → Option (Int × AH)} (hk18 : ∀ (v1 : Int) (v2 : Int) (v3 : Int) (h : AH) (r : (Int × AH)), k18 v1 v2 v3 h = some r → Ev sc d 265 18 [(4, 1), (2, v1), (2, v2), (0, v3)] [] h (some (0, r.1)) r.2) : ∀ (v1 : Int) (v2 : Int) (v3 : Int) (s0 : Int) (s1 : Int) (s2 : Int) (h : AH) (r : (Int × AH)), Law_law_678 sc k18 v1 v2 v3 s0 s1 s2 h = some r → Ev sc d 265 678 [(4, 1), (2, v1), (2, v2), (0, v3)] [(0, s0), (0, s1), (2, s2)] h (some (0, r.1)) r.2 := by
  intro v1 v2 v3 s0 s1 s2 h r hx
  unfold Law_law_678 at hx
  obtain ⟨u1, hg, he, hx⟩ := bgd hx
  refine Ev.blk (is := [.aload_n 0, .iload_n 3, .iconst 3, .iadd, .iaload]) (pc2 := 683) (L2 := [(4, 1), (2, v1), (2, v2), (0, v3)]) (S2 := [(0, u1), (0, s0), (0, s1), (2, s2)]) (h2 := h) (by decide +kernel) (by subst he; rfl) (by exact hg) ?_
  clear hg he
  obtain ⟨u2, hg, he, hx⟩ := bgd hx
  refine Ev.blk (is := [.aload_n 0, .iload_n 3, .iconst 4, .iadd, .iaload]) (pc2 := 688) (L2 := [(4, 1), (2, v1), (2, v2), (0, v3)]) (S2 := [(0, u2), (0, u1), (0, s0), (0, s1), (2, s2)]) (h2 := h) (by decide +kernel) (by subst he; rfl) (by exact hg) ?_
  clear hg he
  obtain ⟨_, hg, -, hx⟩ := bgd hx
  obtain ⟨u3, hc, hx⟩ := bca hx
  refine Ev.call (args := [(2, s2), (0, s1), (0, s0), (0, u1), (0, u2)]) (S2 := []) (r1 := (some (0, u3))) (h1 := h) (i := .invokevirtual 113) (by decide +kernel) rfl rfl (Nat.le_of_ble_eq_true rfl) (Or.inr (Or.inl ⟨rfl, hg, by decide +kernel⟩)) (x_X_row (by omega) hc) ?_
  obtain ⟨u4, hg, he, hx⟩ := bgd hx
  refine Ev.blk (is := [.aload_n 2, .aload_n 0, .iload_n 3, .iconst 1, .iadd, .iaload]) (pc2 := 697) (L2 := [(4, 1), (2, v1), (2, v2), (0, v3)]) (S2 := [(0, u4), (2, v2), (0, u3)]) (h2 := h) (by decide +kernel) (by subst he; rfl) (by exact hg) ?_
  clear hg he
  obtain ⟨u5, hg, he, hx⟩ := bgd hx
  refine Ev.blk (is := [.aload_n 0, .iload_n 3, .iconst 2, .iadd, .iaload]) (pc2 := 702) (L2 := [(4, 1), (2, v1), (2, v2), (0, v3)]) (S2 := [(0, u5), (0, u4), (2, v2), (0, u3)]) (h2 := h) (by decide +kernel) (by subst he; rfl) (by exact hg) ?_
  clear hg he
  obtain ⟨ha, hb⟩ := bite hx
  clear hx
  refine Ev.br (i := .ifCond .eq 7) (len := 3) (a := 709) (b := 705) (by decide +kernel) rfl Iff.rfl (fun hc => ?_) (fun hc => ?_)
  · have hx := ha hc
    clear ha hb hc
    refine Ev.blk (is := [.iconst 0]) (pc2 := 710) (L2 := [(4, 1), (2, v1), (2, v2), (0, v3)]) (S2 := [(0, 0), (0, u4), (2, v2), (0, u3)]) (h2 := h) (by decide +kernel) rfl trivial ?_
    exact y_Law_law_710 hd hk18 v1 v2 v3 0 u4 v2 u3 h _ hx
  · have hx := hb hc
    clear ha hb hc
    refine Ev.blk (is := [.iconst 1]) (pc2 := 706) (L2 := [(4, 1), (2, v1), (2, v2), (0, v3)]) (S2 := [(0, 1), (0, u4), (2, v2), (0, u3)]) (h2 := h) (by decide +kernel) rfl trivial ?_
    refine Ev.jp (i := .goto 4) (len := 3) (pc2 := 710) (by decide +kernel) rfl ?_
    exact y_Law_law_710 hd hk18 v1 v2 v3 1 u4 v2 u3 h _ hx
theorem y_Law_law_18 {sc : AS} {d : Nat} (hd : 53 ≤ d) : ∀ (fu : Nat) (v1 : Int) (v2 : Int) (v3 : Int) (h : AH) (r : (Int × AH)), Law_law_18 sc fu v1 v2 v3 h = some r → Ev sc d 265 18 [(4, 1), (2, v1), (2, v2), (0, v3)] [] h (some (0, r.1)) r.2 := by
  intro fu
  induction fu with
  | zero => intro v1 v2 v3 h r hx; unfold Law_law_18 at hx; cases hx
  | succ fu ih =>
    intro v1 v2 v3 h r hx
    unfold Law_law_18 at hx
    refine Ev.blk (is := [.iload_n 3, .aload_n 0, .arraylength, .sipush 6, .isub]) (pc2 := 24) (L2 := [(4, 1), (2, v1), (2, v2), (0, v3)]) (S2 := [(0, w32 (sc.1 - 6)), (0, v3)]) (h2 := h) (by decide +kernel) rfl trivial ?_
    obtain ⟨ha, hb⟩ := bite hx
    clear hx
    refine Ev.br (i := .if_icmp .gt 1482) (len := 3) (a := 1506) (b := 27) (by decide +kernel) rfl Iff.rfl (fun hc => ?_) (fun hc => ?_)
    · have hx := ha hc
      clear ha hb hc
      refine Ev.blk (is := [.iconst 1]) (pc2 := 1507) (L2 := [(4, 1), (2, v1), (2, v2), (0, v3)]) (S2 := [(0, 1)]) (h2 := h) (by decide +kernel) rfl trivial ?_
      cases hx
      exact Ev.ret (i := .ireturn) (len := 1) (by decide +kernel) rfl (finOf (t := some .boolean) rfl (bz1))
    · have hx := hb hc
      clear ha hb hc
      obtain ⟨u1, hg, he, hx⟩ := bgd hx
      refine Ev.blk (is := [.aload_n 0, .iload_n 3, .iaload]) (pc2 := 30) (L2 := [(4, 1), (2, v1), (2, v2), (0, v3)]) (S2 := [(0, u1)]) (h2 := h) (by decide +kernel) (by subst he; rfl) (by exact hg) ?_
      clear hg he
      refine Ev.blk (is := [.sipush 63, .iand]) (pc2 := 33) (L2 := [(4, 1), (2, v1), (2, v2), (0, v3)]) (S2 := [(0, andI u1 63)]) (h2 := h) (by decide +kernel) rfl trivial ?_
      obtain ⟨ha, hb⟩ := bite hx
      clear hx
      by_cases hc0 : andI u1 63 = 0
      · have hx := ha hc0
        clear ha hb
        refine Ev.jp (i := .tableswitch 1467 0 39 #[175, 208, 271, 294, 307, 350, 429, 488, 521, 544, 567, 580, 593, 626, 695, 709, 733, 756, 780, 803, 836, 870, 903, 926, 959, 992, 1025, 1048, 1071, 1104, 1127, 1160, 1193, 1226, 1259, 1302, 1335, 1368, 1421, 1444]) (len := 175) (pc2 := 208) (by decide +kernel) (by rw [hc0]; rfl) ?_
        clear hc0
        obtain ⟨u2, hg, he, hx⟩ := bgd hx
        refine Ev.blk (is := [.aload_n 1, .aload_n 0, .iload_n 3, .iconst 1, .iadd, .iaload]) (pc2 := 214) (L2 := [(4, 1), (2, v1), (2, v2), (0, v3)]) (S2 := [(0, u2), (2, v1)]) (h2 := h) (by decide +kernel) (by subst he; rfl) (by exact hg) ?_
        clear hg he
        obtain ⟨u3, hg, he, hx⟩ := bgd hx
        refine Ev.blk (is := [.aload_n 0, .iload_n 3, .iconst 2, .iadd, .iaload]) (pc2 := 219) (L2 := [(4, 1), (2, v1), (2, v2), (0, v3)]) (S2 := [(0, u3), (0, u2), (2, v1)]) (h2 := h) (by decide +kernel) (by subst he; rfl) (by exact hg) ?_
        clear hg he
        obtain ⟨_, hg, -, hx⟩ := bgd hx
        obtain ⟨u4, hc, hx⟩ := bca hx
        refine Ev.call (args := [(2, v1), (0, u2), (0, u3)]) (S2 := []) (r1 := (some (0, u4.1))) (h1 := u4.2) (i := .invokevirtual 9) (by decide +kernel) rfl rfl (Nat.le_of_ble_eq_true rfl) (Or.inr (Or.inl ⟨rfl, hg, by decide +kernel⟩)) (x_X_find (by omega) hc) ?_
        obtain ⟨u5, hg, he, hx⟩ := bgd hx
        refine Ev.blk (is := [.aload_n 2, .aload_n 0, .iload_n 3, .iconst 1, .iadd, .iaload]) (pc2 := 228) (L2 := [(4, 1), (2, v1), (2, v2), (0, v3)]) (S2 := [(0, u5), (2, v2), (0, u4.1)]) (h2 := u4.2) (by decide +kernel) (by subst he; rfl) (by exact hg) ?_
        clear hg he
        obtain ⟨u6, hg, he, hx⟩ := bgd hx
        refine Ev.blk (is := [.aload_n 0, .iload_n 3, .iconst 2, .iadd, .iaload]) (pc2 := 233) (L2 := [(4, 1), (2, v1), (2, v2), (0, v3)]) (S2 := [(0, u6), (0, u5), (2, v2), (0, u4.1)]) (h2 := u4.2) (by decide +kernel) (by subst he; rfl) (by exact hg) ?_
        clear hg he
        obtain ⟨_, hg, -, hx⟩ := bgd hx
        obtain ⟨u7, hc, hx⟩ := bca hx
        refine Ev.call (args := [(2, v2), (0, u5), (0, u6)]) (S2 := [(0, u4.1)]) (r1 := (some (0, u7.1))) (h1 := u7.2) (i := .invokevirtual 161) (by decide +kernel) rfl rfl (Nat.le_of_ble_eq_true rfl) (Or.inr (Or.inl ⟨rfl, hg, by decide +kernel⟩)) (x_R_find (by omega) hc) ?_
        obtain ⟨ha, hb⟩ := bite hx
        clear hx
        refine Ev.br (i := .if_icmp .eq 1264) (len := 3) (a := 1500) (b := 239) (by decide +kernel) rfl Iff.rfl (fun hc => ?_) (fun hc => ?_)
        · have hx := ha hc
          clear ha hb hc
          refine Ev.blk (is := [.iinc 3 6]) (pc2 := 1503) (L2 := [(4, 1), (2, v1), (2, v2), (0, w32 (v3 + 6))]) (S2 := []) (h2 := u7.2) (by decide +kernel) rfl trivial ?_
          refine Ev.jp (i := .goto (-1485)) (len := 3) (pc2 := 18) (by decide +kernel) rfl ?_
          exact ih v1 v2 (w32 (v3 + 6)) u7.2 _ hx
        · have hx := hb hc
          clear ha hb hc
          refine Ev.blk (is := [.iconst 0]) (pc2 := 240) (L2 := [(4, 1), (2, v1), (2, v2), (0, v3)]) (S2 := [(0, 0)]) (h2 := u7.2) (by decide +kernel) rfl trivial ?_
          cases hx
          exact Ev.ret (i := .ireturn) (len := 1) (by decide +kernel) rfl (finOf (t := some .boolean) rfl (bz0))
      have hx := hb hc0
      clear ha hb
      obtain ⟨ha, hb⟩ := bite hx
      clear hx
      by_cases hc1 : andI u1 63 = 1
      · have hx := ha hc1
        clear ha hb
        refine Ev.jp (i := .tableswitch 1467 0 39 #[175, 208, 271, 294, 307, 350, 429, 488, 521, 544, 567, 580, 593, 626, 695, 709, 733, 756, 780, 803, 836, 870, 903, 926, 959, 992, 1025, 1048, 1071, 1104, 1127, 1160, 1193, 1226, 1259, 1302, 1335, 1368, 1421, 1444]) (len := 175) (pc2 := 241) (by decide +kernel) (by rw [hc1]; rfl) ?_
        clear hc1
        obtain ⟨u8, hg, he, hx⟩ := bgd hx
        refine Ev.blk (is := [.aload_n 1, .aload_n 0, .iload_n 3, .iconst 1, .iadd, .iaload]) (pc2 := 247) (L2 := [(4, 1), (2, v1), (2, v2), (0, v3)]) (S2 := [(0, u8), (2, v1)]) (h2 := h) (by decide +kernel) (by subst he; rfl) (by exact hg) ?_
        clear hg he
        obtain ⟨u9, hg, he, hx⟩ := bgd hx
        refine Ev.blk (is := [.aload_n 0, .iload_n 3, .iconst 2, .iadd, .iaload]) (pc2 := 252) (L2 := [(4, 1), (2, v1), (2, v2), (0, v3)]) (S2 := [(0, u9), (0, u8), (2, v1)]) (h2 := h) (by decide +kernel) (by subst he; rfl) (by exact hg) ?_
        clear hg he
        obtain ⟨u10, hg, he, hx⟩ := bgd hx
        refine Ev.blk (is := [.aload_n 0, .iload_n 3, .iconst 3, .iadd, .iaload]) (pc2 := 257) (L2 := [(4, 1), (2, v1), (2, v2), (0, v3)]) (S2 := [(0, u10), (0, u9), (0, u8), (2, v1)]) (h2 := h) (by decide +kernel) (by subst he; rfl) (by exact hg) ?_
        clear hg he
        obtain ⟨u11, hg, he, hx⟩ := bgd hx
        refine Ev.blk (is := [.aload_n 0, .iload_n 3, .iconst 4, .iadd, .iaload]) (pc2 := 262) (L2 := [(4, 1), (2, v1), (2, v2), (0, v3)]) (S2 := [(0, u11), (0, u10), (0, u9), (0, u8), (2, v1)]) (h2 := h) (by decide +kernel) (by subst he; rfl) (by exact hg) ?_
        clear hg he
        obtain ⟨u12, hg, he, hx⟩ := bgd hx
        refine Ev.blk (is := [.aload_n 0, .iload_n 3, .iconst 5, .iadd, .iaload]) (pc2 := 267) (L2 := [(4, 1), (2, v1), (2, v2), (0, v3)]) (S2 := [(0, u12), (0, u11), (0, u10), (0, u9), (0, u8), (2, v1)]) (h2 := h) (by decide +kernel) (by subst he; rfl) (by exact hg) ?_
        clear hg he
        obtain ⟨_, hg, -, hx⟩ := bgd hx
        obtain ⟨u13, hc, hx⟩ := bca hx
        refine Ev.call (args := [(2, v1), (0, u8), (0, u9), (0, u10), (0, u11), (0, u12)]) (S2 := []) (r1 := (some (0, u13.1))) (h1 := u13.2) (i := .invokevirtual 62) (by decide +kernel) rfl rfl (Nat.le_of_ble_eq_true rfl) (Or.inr (Or.inl ⟨rfl, hg, by decide +kernel⟩)) (x_X_feed (by omega) hc) ?_
        obtain ⟨u14, hg, he, hx⟩ := bgd hx
        refine Ev.blk (is := [.aload_n 2, .aload_n 0, .iload_n 3, .iconst 1, .iadd, .iaload]) (pc2 := 276) (L2 := [(4, 1), (2, v1), (2, v2), (0, v3)]) (S2 := [(0, u14), (2, v2), (0, u13.1)]) (h2 := u13.2) (by decide +kernel) (by subst he; rfl) (by exact hg) ?_
        clear hg he
        obtain ⟨u15, hg, he, hx⟩ := bgd hx
        refine Ev.blk (is := [.aload_n 0, .iload_n 3, .iconst 2, .iadd, .iaload]) (pc2 := 281) (L2 := [(4, 1), (2, v1), (2, v2), (0, v3)]) (S2 := [(0, u15), (0, u14), (2, v2), (0, u13.1)]) (h2 := u13.2) (by decide +kernel) (by subst he; rfl) (by exact hg) ?_
        clear hg he
        obtain ⟨u16, hg, he, hx⟩ := bgd hx
        refine Ev.blk (is := [.aload_n 0, .iload_n 3, .iconst 3, .iadd, .iaload]) (pc2 := 286) (L2 := [(4, 1), (2, v1), (2, v2), (0, v3)]) (S2 := [(0, u16), (0, u15), (0, u14), (2, v2), (0, u13.1)]) (h2 := u13.2) (by decide +kernel) (by subst he; rfl) (by exact hg) ?_
        clear hg he
        obtain ⟨u17, hg, he, hx⟩ := bgd hx
        refine Ev.blk (is := [.aload_n 0, .iload_n 3, .iconst 4, .iadd, .iaload]) (pc2 := 291) (L2 := [(4, 1), (2, v1), (2, v2), (0, v3)]) (S2 := [(0, u17), (0, u16), (0, u15), (0, u14), (2, v2), (0, u13.1)]) (h2 := u13.2) (by decide +kernel) (by subst he; rfl) (by exact hg) ?_
        clear hg he
        obtain ⟨u18, hg, he, hx⟩ := bgd hx
        refine Ev.blk (is := [.aload_n 0, .iload_n 3, .iconst 5, .iadd, .iaload]) (pc2 := 296) (L2 := [(4, 1), (2, v1), (2, v2), (0, v3)]) (S2 := [(0, u18), (0, u17), (0, u16), (0, u15), (0, u14), (2, v2), (0, u13.1)]) (h2 := u13.2) (by decide +kernel) (by subst he; rfl) (by exact hg) ?_
        clear hg he
        obtain ⟨_, hg, -, hx⟩ := bgd hx
        obtain ⟨u19, hc, hx⟩ := bca hx
        refine Ev.call (args := [(2, v2), (0, u14), (0, u15), (0, u16), (0, u17), (0, u18)]) (S2 := [(0, u13.1)]) (r1 := (some (0, u19.1))) (h1 := u19.2) (i := .invokevirtual 201) (by decide +kernel) rfl rfl (Nat.le_of_ble_eq_true rfl) (Or.inr (Or.inl ⟨rfl, hg, by decide +kernel⟩)) (x_R_feed (by omega) hc) ?_
        obtain ⟨ha, hb⟩ := bite hx
        clear hx
        refine Ev.br (i := .if_icmp .eq 1201) (len := 3) (a := 1500) (b := 302) (by decide +kernel) rfl Iff.rfl (fun hc => ?_) (fun hc => ?_)
        · have hx := ha hc
          clear ha hb hc
          refine Ev.blk (is := [.iinc 3 6]) (pc2 := 1503) (L2 := [(4, 1), (2, v1), (2, v2), (0, w32 (v3 + 6))]) (S2 := []) (h2 := u19.2) (by decide +kernel) rfl trivial ?_
          refine Ev.jp (i := .goto (-1485)) (len := 3) (pc2 := 18) (by decide +kernel) rfl ?_
          exact ih v1 v2 (w32 (v3 + 6)) u19.2 _ hx
        · have hx := hb hc
          clear ha hb hc
          refine Ev.blk (is := [.iconst 0]) (pc2 := 303) (L2 := [(4, 1), (2, v1), (2, v2), (0, v3)]) (S2 := [(0, 0)]) (h2 := u19.2) (by decide +kernel) rfl trivial ?_
          cases hx
          exact Ev.ret (i := .ireturn) (len := 1) (by decide +kernel) rfl (finOf (t := some .boolean) rfl (bz0))
      have hx := hb hc1
      clear ha hb
      obtain ⟨ha, hb⟩ := bite hx
      clear hx
      by_cases hc2 : andI u1 63 = 2
      · have hx := ha hc2
        clear ha hb
        refine Ev.jp (i := .tableswitch 1467 0 39 #[175, 208, 271, 294, 307, 350, 429, 488, 521, 544, 567, 580, 593, 626, 695, 709, 733, 756, 780, 803, 836, 870, 903, 926, 959, 992, 1025, 1048, 1071, 1104, 1127, 1160, 1193, 1226, 1259, 1302, 1335, 1368, 1421, 1444]) (len := 175) (pc2 := 304) (by decide +kernel) (by rw [hc2]; rfl) ?_
        clear hc2
        obtain ⟨u20, hg, he, hx⟩ := bgd hx
        refine Ev.blk (is := [.aload_n 1, .aload_n 0, .iload_n 3, .iconst 1, .iadd, .iaload]) (pc2 := 310) (L2 := [(4, 1), (2, v1), (2, v2), (0, v3)]) (S2 := [(0, u20), (2, v1)]) (h2 := h) (by decide +kernel) (by subst he; rfl) (by exact hg) ?_
        clear hg he
        obtain ⟨_, hg, -, hx⟩ := bgd hx
        obtain ⟨u21, hc, hx⟩ := bca hx
        refine Ev.call (args := [(2, v1), (0, u20)]) (S2 := []) (r1 := (some (0, u21.1))) (h1 := u21.2) (i := .invokevirtual 65) (by decide +kernel) rfl rfl (Nat.le_of_ble_eq_true rfl) (Or.inr (Or.inl ⟨rfl, hg, by decide +kernel⟩)) (x_X_back (by omega) hc) ?_
        obtain ⟨u22, hg, he, hx⟩ := bgd hx
        refine Ev.blk (is := [.aload_n 2, .aload_n 0, .iload_n 3, .iconst 1, .iadd, .iaload]) (pc2 := 319) (L2 := [(4, 1), (2, v1), (2, v2), (0, v3)]) (S2 := [(0, u22), (2, v2), (0, u21.1)]) (h2 := u21.2) (by decide +kernel) (by subst he; rfl) (by exact hg) ?_
        clear hg he
        obtain ⟨_, hg, -, hx⟩ := bgd hx
        obtain ⟨u23, hc, hx⟩ := bca hx
        refine Ev.call (args := [(2, v2), (0, u22)]) (S2 := [(0, u21.1)]) (r1 := (some (0, u23.1))) (h1 := u23.2) (i := .invokevirtual 202) (by decide +kernel) rfl rfl (Nat.le_of_ble_eq_true rfl) (Or.inr (Or.inl ⟨rfl, hg, by decide +kernel⟩)) (x_R_back (by omega) hc) ?_
        obtain ⟨ha, hb⟩ := bite hx
        clear hx
        refine Ev.br (i := .if_icmp .eq 1178) (len := 3) (a := 1500) (b := 325) (by decide +kernel) rfl Iff.rfl (fun hc => ?_) (fun hc => ?_)
        · have hx := ha hc
          clear ha hb hc
          refine Ev.blk (is := [.iinc 3 6]) (pc2 := 1503) (L2 := [(4, 1), (2, v1), (2, v2), (0, w32 (v3 + 6))]) (S2 := []) (h2 := u23.2) (by decide +kernel) rfl trivial ?_
          refine Ev.jp (i := .goto (-1485)) (len := 3) (pc2 := 18) (by decide +kernel) rfl ?_
          exact ih v1 v2 (w32 (v3 + 6)) u23.2 _ hx
        · have hx := hb hc
          clear ha hb hc
          refine Ev.blk (is := [.iconst 0]) (pc2 := 326) (L2 := [(4, 1), (2, v1), (2, v2), (0, v3)]) (S2 := [(0, 0)]) (h2 := u23.2) (by decide +kernel) rfl trivial ?_
          cases hx
          exact Ev.ret (i := .ireturn) (len := 1) (by decide +kernel) rfl (finOf (t := some .boolean) rfl (bz0))
      have hx := hb hc2
      clear ha hb
      obtain ⟨ha, hb⟩ := bite hx
      clear hx
      by_cases hc3 : andI u1 63 = 3
      · have hx := ha hc3
        clear ha hb
        refine Ev.jp (i := .tableswitch 1467 0 39 #[175, 208, 271, 294, 307, 350, 429, 488, 521, 544, 567, 580, 593, 626, 695, 709, 733, 756, 780, 803, 836, 870, 903, 926, 959, 992, 1025, 1048, 1071, 1104, 1127, 1160, 1193, 1226, 1259, 1302, 1335, 1368, 1421, 1444]) (len := 175) (pc2 := 327) (by decide +kernel) (by rw [hc3]; rfl) ?_
        clear hc3
        refine Ev.blk (is := [.aload_n 1]) (pc2 := 328) (L2 := [(4, 1), (2, v1), (2, v2), (0, v3)]) (S2 := [(2, v1)]) (h2 := h) (by decide +kernel) rfl trivial ?_
        obtain ⟨_, hg, -, hx⟩ := bgd hx
        obtain ⟨u24, hc, hx⟩ := bca hx
        refine Ev.call (args := [(2, v1)]) (S2 := []) (r1 := (some (0, u24.1))) (h1 := u24.2) (i := .invokevirtual 66) (by decide +kernel) rfl rfl (Nat.le_of_ble_eq_true rfl) (Or.inr (Or.inl ⟨rfl, hg, by decide +kernel⟩)) (x_X_read (by omega) hc) ?_
        refine Ev.blk (is := [.aload_n 2]) (pc2 := 332) (L2 := [(4, 1), (2, v1), (2, v2), (0, v3)]) (S2 := [(2, v2), (0, u24.1)]) (h2 := u24.2) (by decide +kernel) rfl trivial ?_
        obtain ⟨_, hg, -, hx⟩ := bgd hx
        obtain ⟨u25, hc, hx⟩ := bca hx
        refine Ev.call (args := [(2, v2)]) (S2 := [(0, u24.1)]) (r1 := (some (0, u25.1))) (h1 := u25.2) (i := .invokevirtual 203) (by decide +kernel) rfl rfl (Nat.le_of_ble_eq_true rfl) (Or.inr (Or.inl ⟨rfl, hg, by decide +kernel⟩)) (x_R_read (by omega) hc) ?_
        obtain ⟨ha, hb⟩ := bite hx
        clear hx
        refine Ev.br (i := .if_icmp .eq 1165) (len := 3) (a := 1500) (b := 338) (by decide +kernel) rfl Iff.rfl (fun hc => ?_) (fun hc => ?_)
        · have hx := ha hc
          clear ha hb hc
          refine Ev.blk (is := [.iinc 3 6]) (pc2 := 1503) (L2 := [(4, 1), (2, v1), (2, v2), (0, w32 (v3 + 6))]) (S2 := []) (h2 := u25.2) (by decide +kernel) rfl trivial ?_
          refine Ev.jp (i := .goto (-1485)) (len := 3) (pc2 := 18) (by decide +kernel) rfl ?_
          exact ih v1 v2 (w32 (v3 + 6)) u25.2 _ hx
        · have hx := hb hc
          clear ha hb hc
          refine Ev.blk (is := [.iconst 0]) (pc2 := 339) (L2 := [(4, 1), (2, v1), (2, v2), (0, v3)]) (S2 := [(0, 0)]) (h2 := u25.2) (by decide +kernel) rfl trivial ?_
          cases hx
          exact Ev.ret (i := .ireturn) (len := 1) (by decide +kernel) rfl (finOf (t := some .boolean) rfl (bz0))
      have hx := hb hc3
      clear ha hb
      obtain ⟨ha, hb⟩ := bite hx
      clear hx
      by_cases hc4 : andI u1 63 = 4
      · have hx := ha hc4
        clear ha hb
        refine Ev.jp (i := .tableswitch 1467 0 39 #[175, 208, 271, 294, 307, 350, 429, 488, 521, 544, 567, 580, 593, 626, 695, 709, 733, 756, 780, 803, 836, 870, 903, 926, 959, 992, 1025, 1048, 1071, 1104, 1127, 1160, 1193, 1226, 1259, 1302, 1335, 1368, 1421, 1444]) (len := 175) (pc2 := 340) (by decide +kernel) (by rw [hc4]; rfl) ?_
        clear hc4
        obtain ⟨u26, hg, he, hx⟩ := bgd hx
        refine Ev.blk (is := [.aload_n 1, .aload_n 0, .iload_n 3, .iconst 1, .iadd, .iaload]) (pc2 := 346) (L2 := [(4, 1), (2, v1), (2, v2), (0, v3)]) (S2 := [(0, u26), (2, v1)]) (h2 := h) (by decide +kernel) (by subst he; rfl) (by exact hg) ?_
        clear hg he
        obtain ⟨u27, hg, he, hx⟩ := bgd hx
        refine Ev.blk (is := [.aload_n 0, .iload_n 3, .iconst 2, .iadd, .iaload]) (pc2 := 351) (L2 := [(4, 1), (2, v1), (2, v2), (0, v3)]) (S2 := [(0, u27), (0, u26), (2, v1)]) (h2 := h) (by decide +kernel) (by subst he; rfl) (by exact hg) ?_
        clear hg he
        obtain ⟨u28, hg, he, hx⟩ := bgd hx
        refine Ev.blk (is := [.aload_n 0, .iload_n 3, .iconst 3, .iadd, .iaload]) (pc2 := 356) (L2 := [(4, 1), (2, v1), (2, v2), (0, v3)]) (S2 := [(0, u28), (0, u27), (0, u26), (2, v1)]) (h2 := h) (by decide +kernel) (by subst he; rfl) (by exact hg) ?_
        clear hg he
        obtain ⟨_, hg, -, hx⟩ := bgd hx
        obtain ⟨u29, hc, hx⟩ := bca hx
        refine Ev.call (args := [(2, v1), (0, u26), (0, u27), (0, u28)]) (S2 := []) (r1 := (some (0, u29.1))) (h1 := u29.2) (i := .invokevirtual 93) (by decide +kernel) rfl rfl (Nat.le_of_ble_eq_true rfl) (Or.inr (Or.inl ⟨rfl, hg, by decide +kernel⟩)) (x_X_set (by omega) hc) ?_
        obtain ⟨u30, hg, he, hx⟩ := bgd hx
        refine Ev.blk (is := [.aload_n 2, .aload_n 0, .iload_n 3, .iconst 1, .iadd, .iaload]) (pc2 := 365) (L2 := [(4, 1), (2, v1), (2, v2), (0, v3)]) (S2 := [(0, u30), (2, v2), (0, u29.1)]) (h2 := u29.2) (by decide +kernel) (by subst he; rfl) (by exact hg) ?_
        clear hg he
        obtain ⟨u31, hg, he, hx⟩ := bgd hx
        refine Ev.blk (is := [.aload_n 0, .iload_n 3, .iconst 2, .iadd, .iaload]) (pc2 := 370) (L2 := [(4, 1), (2, v1), (2, v2), (0, v3)]) (S2 := [(0, u31), (0, u30), (2, v2), (0, u29.1)]) (h2 := u29.2) (by decide +kernel) (by subst he; rfl) (by exact hg) ?_
        clear hg he
        obtain ⟨u32, hg, he, hx⟩ := bgd hx
        refine Ev.blk (is := [.aload_n 0, .iload_n 3, .iconst 3, .iadd, .iaload]) (pc2 := 375) (L2 := [(4, 1), (2, v1), (2, v2), (0, v3)]) (S2 := [(0, u32), (0, u31), (0, u30), (2, v2), (0, u29.1)]) (h2 := u29.2) (by decide +kernel) (by subst he; rfl) (by exact hg) ?_
        clear hg he
        obtain ⟨_, hg, -, hx⟩ := bgd hx
        obtain ⟨u33, hc, hx⟩ := bca hx
        refine Ev.call (args := [(2, v2), (0, u30), (0, u31), (0, u32)]) (S2 := [(0, u29.1)]) (r1 := (some (0, u33.1))) (h1 := u33.2) (i := .invokevirtual 221) (by decide +kernel) rfl rfl (Nat.le_of_ble_eq_true rfl) (Or.inr (Or.inl ⟨rfl, hg, by decide +kernel⟩)) (x_R_set (by omega) hc) ?_
        obtain ⟨ha, hb⟩ := bite hx
        clear hx
        refine Ev.br (i := .if_icmp .eq 1122) (len := 3) (a := 1500) (b := 381) (by decide +kernel) rfl Iff.rfl (fun hc => ?_) (fun hc => ?_)
        · have hx := ha hc
          clear ha hb hc
          refine Ev.blk (is := [.iinc 3 6]) (pc2 := 1503) (L2 := [(4, 1), (2, v1), (2, v2), (0, w32 (v3 + 6))]) (S2 := []) (h2 := u33.2) (by decide +kernel) rfl trivial ?_
          refine Ev.jp (i := .goto (-1485)) (len := 3) (pc2 := 18) (by decide +kernel) rfl ?_
          exact ih v1 v2 (w32 (v3 + 6)) u33.2 _ hx
        · have hx := hb hc
          clear ha hb hc
          refine Ev.blk (is := [.iconst 0]) (pc2 := 382) (L2 := [(4, 1), (2, v1), (2, v2), (0, v3)]) (S2 := [(0, 0)]) (h2 := u33.2) (by decide +kernel) rfl trivial ?_
          cases hx
          exact Ev.ret (i := .ireturn) (len := 1) (by decide +kernel) rfl (finOf (t := some .boolean) rfl (bz0))
      have hx := hb hc4
      clear ha hb
      obtain ⟨ha, hb⟩ := bite hx
      clear hx
      by_cases hc5 : andI u1 63 = 5
      · have hx := ha hc5
        clear ha hb
        refine Ev.jp (i := .tableswitch 1467 0 39 #[175, 208, 271, 294, 307, 350, 429, 488, 521, 544, 567, 580, 593, 626, 695, 709, 733, 756, 780, 803, 836, 870, 903, 926, 959, 992, 1025, 1048, 1071, 1104, 1127, 1160, 1193, 1226, 1259, 1302, 1335, 1368, 1421, 1444]) (len := 175) (pc2 := 383) (by decide +kernel) (by rw [hc5]; rfl) ?_
        clear hc5
        obtain ⟨u34, hg, he, hx⟩ := bgd hx
        refine Ev.blk (is := [.aload_n 1, .aload_n 0, .iload_n 3, .iconst 1, .iadd, .iaload]) (pc2 := 389) (L2 := [(4, 1), (2, v1), (2, v2), (0, v3)]) (S2 := [(0, u34), (2, v1)]) (h2 := h) (by decide +kernel) (by subst he; rfl) (by exact hg) ?_
        clear hg he
        obtain ⟨u35, hg, he, hx⟩ := bgd hx
        refine Ev.blk (is := [.aload_n 0, .iload_n 3, .iconst 2, .iadd, .iaload]) (pc2 := 394) (L2 := [(4, 1), (2, v1), (2, v2), (0, v3)]) (S2 := [(0, u35), (0, u34), (2, v1)]) (h2 := h) (by decide +kernel) (by subst he; rfl) (by exact hg) ?_
        clear hg he
        obtain ⟨ha, hb⟩ := bite hx
        clear hx
        refine Ev.br (i := .ifCond .eq 7) (len := 3) (a := 401) (b := 397) (by decide +kernel) rfl Iff.rfl (fun hc => ?_) (fun hc => ?_)
        · have hx := ha hc
          clear ha hb hc
          refine Ev.blk (is := [.iconst 0]) (pc2 := 402) (L2 := [(4, 1), (2, v1), (2, v2), (0, v3)]) (S2 := [(0, 0), (0, u34), (2, v1)]) (h2 := h) (by decide +kernel) rfl trivial ?_
          exact y_Law_law_402 hd ih v1 v2 v3 0 u34 v1 h _ hx
        · have hx := hb hc
          clear ha hb hc
          refine Ev.blk (is := [.iconst 1]) (pc2 := 398) (L2 := [(4, 1), (2, v1), (2, v2), (0, v3)]) (S2 := [(0, 1), (0, u34), (2, v1)]) (h2 := h) (by decide +kernel) rfl trivial ?_
          refine Ev.jp (i := .goto 4) (len := 3) (pc2 := 402) (by decide +kernel) rfl ?_
          exact y_Law_law_402 hd ih v1 v2 v3 1 u34 v1 h _ hx
      have hx := hb hc5
      clear ha hb
      obtain ⟨ha, hb⟩ := bite hx
      clear hx
      by_cases hc6 : andI u1 63 = 6
      · have hx := ha hc6
        clear ha hb
        refine Ev.jp (i := .tableswitch 1467 0 39 #[175, 208, 271, 294, 307, 350, 429, 488, 521, 544, 567, 580, 593, 626, 695, 709, 733, 756, 780, 803, 836, 870, 903, 926, 959, 992, 1025, 1048, 1071, 1104, 1127, 1160, 1193, 1226, 1259, 1302, 1335, 1368, 1421, 1444]) (len := 175) (pc2 := 462) (by decide +kernel) (by rw [hc6]; rfl) ?_
        clear hc6
        obtain ⟨u36, hg, he, hx⟩ := bgd hx
        refine Ev.blk (is := [.aload_n 1, .aload_n 0, .iload_n 3, .iconst 1, .iadd, .iaload]) (pc2 := 468) (L2 := [(4, 1), (2, v1), (2, v2), (0, v3)]) (S2 := [(0, u36), (2, v1)]) (h2 := h) (by decide +kernel) (by subst he; rfl) (by exact hg) ?_
        clear hg he
        obtain ⟨u37, hg, he, hx⟩ := bgd hx
        refine Ev.blk (is := [.aload_n 0, .iload_n 3, .iconst 2, .iadd, .iaload]) (pc2 := 473) (L2 := [(4, 1), (2, v1), (2, v2), (0, v3)]) (S2 := [(0, u37), (0, u36), (2, v1)]) (h2 := h) (by decide +kernel) (by subst he; rfl) (by exact hg) ?_
        clear hg he
        obtain ⟨ha, hb⟩ := bite hx
        clear hx
        refine Ev.br (i := .ifCond .eq 7) (len := 3) (a := 480) (b := 476) (by decide +kernel) rfl Iff.rfl (fun hc => ?_) (fun hc => ?_)
        · have hx := ha hc
          clear ha hb hc
          refine Ev.blk (is := [.iconst 0]) (pc2 := 481) (L2 := [(4, 1), (2, v1), (2, v2), (0, v3)]) (S2 := [(0, 0), (0, u36), (2, v1)]) (h2 := h) (by decide +kernel) rfl trivial ?_
          exact y_Law_law_481 hd ih v1 v2 v3 0 u36 v1 h _ hx
        · have hx := hb hc
          clear ha hb hc
          refine Ev.blk (is := [.iconst 1]) (pc2 := 477) (L2 := [(4, 1), (2, v1), (2, v2), (0, v3)]) (S2 := [(0, 1), (0, u36), (2, v1)]) (h2 := h) (by decide +kernel) rfl trivial ?_
          refine Ev.jp (i := .goto 4) (len := 3) (pc2 := 481) (by decide +kernel) rfl ?_
          exact y_Law_law_481 hd ih v1 v2 v3 1 u36 v1 h _ hx
      have hx := hb hc6
      clear ha hb
      obtain ⟨ha, hb⟩ := bite hx
      clear hx
      by_cases hc7 : andI u1 63 = 7
      · have hx := ha hc7
        clear ha hb
        refine Ev.jp (i := .tableswitch 1467 0 39 #[175, 208, 271, 294, 307, 350, 429, 488, 521, 544, 567, 580, 593, 626, 695, 709, 733, 756, 780, 803, 836, 870, 903, 926, 959, 992, 1025, 1048, 1071, 1104, 1127, 1160, 1193, 1226, 1259, 1302, 1335, 1368, 1421, 1444]) (len := 175) (pc2 := 521) (by decide +kernel) (by rw [hc7]; rfl) ?_
        clear hc7
        obtain ⟨u38, hg, he, hx⟩ := bgd hx
        refine Ev.blk (is := [.aload_n 1, .aload_n 0, .iload_n 3, .iconst 1, .iadd, .iaload]) (pc2 := 527) (L2 := [(4, 1), (2, v1), (2, v2), (0, v3)]) (S2 := [(0, u38), (2, v1)]) (h2 := h) (by decide +kernel) (by subst he; rfl) (by exact hg) ?_
        clear hg he
        obtain ⟨u39, hg, he, hx⟩ := bgd hx
        refine Ev.blk (is := [.aload_n 0, .iload_n 3, .iconst 2, .iadd, .iaload]) (pc2 := 532) (L2 := [(4, 1), (2, v1), (2, v2), (0, v3)]) (S2 := [(0, u39), (0, u38), (2, v1)]) (h2 := h) (by decide +kernel) (by subst he; rfl) (by exact hg) ?_
        clear hg he
        obtain ⟨_, hg, -, hx⟩ := bgd hx
        obtain ⟨u40, hc, hx⟩ := bca hx
        refine Ev.call (args := [(2, v1), (0, u38), (0, u39)]) (S2 := []) (r1 := (some (0, u40.1))) (h1 := u40.2) (i := .invokevirtual 102) (by decide +kernel) rfl rfl (Nat.le_of_ble_eq_true rfl) (Or.inr (Or.inl ⟨rfl, hg, by decide +kernel⟩)) (x_X_move (by omega) hc) ?_
        obtain ⟨u41, hg, he, hx⟩ := bgd hx
        refine Ev.blk (is := [.aload_n 2, .aload_n 0, .iload_n 3, .iconst 1, .iadd, .iaload]) (pc2 := 541) (L2 := [(4, 1), (2, v1), (2, v2), (0, v3)]) (S2 := [(0, u41), (2, v2), (0, u40.1)]) (h2 := u40.2) (by decide +kernel) (by subst he; rfl) (by exact hg) ?_
        clear hg he
        obtain ⟨u42, hg, he, hx⟩ := bgd hx
        refine Ev.blk (is := [.aload_n 0, .iload_n 3, .iconst 2, .iadd, .iaload]) (pc2 := 546) (L2 := [(4, 1), (2, v1), (2, v2), (0, v3)]) (S2 := [(0, u42), (0, u41), (2, v2), (0, u40.1)]) (h2 := u40.2) (by decide +kernel) (by subst he; rfl) (by exact hg) ?_
        clear hg he
        obtain ⟨_, hg, -, hx⟩ := bgd hx
        obtain ⟨u43, hc, hx⟩ := bca hx
        refine Ev.call (args := [(2, v2), (0, u41), (0, u42)]) (S2 := [(0, u40.1)]) (r1 := (some (0, u43.1))) (h1 := u43.2) (i := .invokevirtual 226) (by decide +kernel) rfl rfl (Nat.le_of_ble_eq_true rfl) (Or.inr (Or.inl ⟨rfl, hg, by decide +kernel⟩)) (x_R_move (by omega) hc) ?_
        obtain ⟨ha, hb⟩ := bite hx
        clear hx
        refine Ev.br (i := .if_icmp .eq 951) (len := 3) (a := 1500) (b := 552) (by decide +kernel) rfl Iff.rfl (fun hc => ?_) (fun hc => ?_)
        · have hx := ha hc
          clear ha hb hc
          refine Ev.blk (is := [.iinc 3 6]) (pc2 := 1503) (L2 := [(4, 1), (2, v1), (2, v2), (0, w32 (v3 + 6))]) (S2 := []) (h2 := u43.2) (by decide +kernel) rfl trivial ?_
          refine Ev.jp (i := .goto (-1485)) (len := 3) (pc2 := 18) (by decide +kernel) rfl ?_
          exact ih v1 v2 (w32 (v3 + 6)) u43.2 _ hx
        · have hx := hb hc
          clear ha hb hc
          refine Ev.blk (is := [.iconst 0]) (pc2 := 553) (L2 := [(4, 1), (2, v1), (2, v2), (0, v3)]) (S2 := [(0, 0)]) (h2 := u43.2) (by decide +kernel) rfl trivial ?_
          cases hx
          exact Ev.ret (i := .ireturn) (len := 1) (by decide +kernel) rfl (finOf (t := some .boolean) rfl (bz0))
      have hx := hb hc7
      clear ha hb
      obtain ⟨ha, hb⟩ := bite hx
      clear hx
      by_cases hc8 : andI u1 63 = 8
      · have hx := ha hc8
        clear ha hb
        refine Ev.jp (i := .tableswitch 1467 0 39 #[175, 208, 271, 294, 307, 350, 429, 488, 521, 544, 567, 580, 593, 626, 695, 709, 733, 756, 780, 803, 836, 870, 903, 926, 959, 992, 1025, 1048, 1071, 1104, 1127, 1160, 1193, 1226, 1259, 1302, 1335, 1368, 1421, 1444]) (len := 175) (pc2 := 554) (by decide +kernel) (by rw [hc8]; rfl) ?_
        clear hc8
        obtain ⟨u44, hg, he, hx⟩ := bgd hx
        refine Ev.blk (is := [.aload_n 1, .aload_n 0, .iload_n 3, .iconst 1, .iadd, .iaload]) (pc2 := 560) (L2 := [(4, 1), (2, v1), (2, v2), (0, v3)]) (S2 := [(0, u44), (2, v1)]) (h2 := h) (by decide +kernel) (by subst he; rfl) (by exact hg) ?_
        clear hg he
        obtain ⟨_, hg, -, hx⟩ := bgd hx
        obtain ⟨u45, hc, hx⟩ := bca hx
        refine Ev.call (args := [(2, v1), (0, u44)]) (S2 := []) (r1 := (some (0, u45.1))) (h1 := u45.2) (i := .invokevirtual 105) (by decide +kernel) rfl rfl (Nat.le_of_ble_eq_true rfl) (Or.inr (Or.inl ⟨rfl, hg, by decide +kernel⟩)) (x_X_mend (by omega) hc) ?_
        obtain ⟨u46, hg, he, hx⟩ := bgd hx
        refine Ev.blk (is := [.aload_n 2, .aload_n 0, .iload_n 3, .iconst 1, .iadd, .iaload]) (pc2 := 569) (L2 := [(4, 1), (2, v1), (2, v2), (0, v3)]) (S2 := [(0, u46), (2, v2), (0, u45.1)]) (h2 := u45.2) (by decide +kernel) (by subst he; rfl) (by exact hg) ?_
        clear hg he
        obtain ⟨_, hg, -, hx⟩ := bgd hx
        obtain ⟨u47, hc, hx⟩ := bca hx
        refine Ev.call (args := [(2, v2), (0, u46)]) (S2 := [(0, u45.1)]) (r1 := (some (0, u47.1))) (h1 := u47.2) (i := .invokevirtual 197) (by decide +kernel) rfl rfl (Nat.le_of_ble_eq_true rfl) (Or.inr (Or.inl ⟨rfl, hg, by decide +kernel⟩)) (x_R_mend (by omega) hc) ?_
        obtain ⟨ha, hb⟩ := bite hx
        clear hx
        refine Ev.br (i := .if_icmp .eq 928) (len := 3) (a := 1500) (b := 575) (by decide +kernel) rfl Iff.rfl (fun hc => ?_) (fun hc => ?_)
        · have hx := ha hc
          clear ha hb hc
          refine Ev.blk (is := [.iinc 3 6]) (pc2 := 1503) (L2 := [(4, 1), (2, v1), (2, v2), (0, w32 (v3 + 6))]) (S2 := []) (h2 := u47.2) (by decide +kernel) rfl trivial ?_
          refine Ev.jp (i := .goto (-1485)) (len := 3) (pc2 := 18) (by decide +kernel) rfl ?_
          exact ih v1 v2 (w32 (v3 + 6)) u47.2 _ hx
        · have hx := hb hc
          clear ha hb hc
          refine Ev.blk (is := [.iconst 0]) (pc2 := 576) (L2 := [(4, 1), (2, v1), (2, v2), (0, v3)]) (S2 := [(0, 0)]) (h2 := u47.2) (by decide +kernel) rfl trivial ?_
          cases hx
          exact Ev.ret (i := .ireturn) (len := 1) (by decide +kernel) rfl (finOf (t := some .boolean) rfl (bz0))
      have hx := hb hc8
      clear ha hb
      obtain ⟨ha, hb⟩ := bite hx
      clear hx
      by_cases hc9 : andI u1 63 = 9
      · have hx := ha hc9
        clear ha hb
        refine Ev.jp (i := .tableswitch 1467 0 39 #[175, 208, 271, 294, 307, 350, 429, 488, 521, 544, 567, 580, 593, 626, 695, 709, 733, 756, 780, 803, 836, 870, 903, 926, 959, 992, 1025, 1048, 1071, 1104, 1127, 1160, 1193, 1226, 1259, 1302, 1335, 1368, 1421, 1444]) (len := 175) (pc2 := 577) (by decide +kernel) (by rw [hc9]; rfl) ?_
        clear hc9
        obtain ⟨u48, hg, he, hx⟩ := bgd hx
        refine Ev.blk (is := [.aload_n 1, .aload_n 0, .iload_n 3, .iconst 1, .iadd, .iaload]) (pc2 := 583) (L2 := [(4, 1), (2, v1), (2, v2), (0, v3)]) (S2 := [(0, u48), (2, v1)]) (h2 := h) (by decide +kernel) (by subst he; rfl) (by exact hg) ?_
        clear hg he
        obtain ⟨_, hg, -, hx⟩ := bgd hx
        obtain ⟨u49, hc, hx⟩ := bca hx
        refine Ev.call (args := [(2, v1), (0, u48)]) (S2 := []) (r1 := (some (0, u49.1))) (h1 := u49.2) (i := .invokevirtual 108) (by decide +kernel) rfl rfl (Nat.le_of_ble_eq_true rfl) (Or.inr (Or.inl ⟨rfl, hg, by decide +kernel⟩)) (x_X_prune (by omega) hc) ?_
        obtain ⟨u50, hg, he, hx⟩ := bgd hx
        refine Ev.blk (is := [.aload_n 2, .aload_n 0, .iload_n 3, .iconst 1, .iadd, .iaload]) (pc2 := 592) (L2 := [(4, 1), (2, v1), (2, v2), (0, v3)]) (S2 := [(0, u50), (2, v2), (0, u49.1)]) (h2 := u49.2) (by decide +kernel) (by subst he; rfl) (by exact hg) ?_
        clear hg he
        obtain ⟨_, hg, -, hx⟩ := bgd hx
        obtain ⟨u51, hc, hx⟩ := bca hx
        refine Ev.call (args := [(2, v2), (0, u50)]) (S2 := [(0, u49.1)]) (r1 := (some (0, u51.1))) (h1 := u51.2) (i := .invokevirtual 228) (by decide +kernel) rfl rfl (Nat.le_of_ble_eq_true rfl) (Or.inr (Or.inl ⟨rfl, hg, by decide +kernel⟩)) (x_R_prune (by omega) hc) ?_
        obtain ⟨ha, hb⟩ := bite hx
        clear hx
        refine Ev.br (i := .if_icmp .eq 905) (len := 3) (a := 1500) (b := 598) (by decide +kernel) rfl Iff.rfl (fun hc => ?_) (fun hc => ?_)
        · have hx := ha hc
          clear ha hb hc
          refine Ev.blk (is := [.iinc 3 6]) (pc2 := 1503) (L2 := [(4, 1), (2, v1), (2, v2), (0, w32 (v3 + 6))]) (S2 := []) (h2 := u51.2) (by decide +kernel) rfl trivial ?_
          refine Ev.jp (i := .goto (-1485)) (len := 3) (pc2 := 18) (by decide +kernel) rfl ?_
          exact ih v1 v2 (w32 (v3 + 6)) u51.2 _ hx
        · have hx := hb hc
          clear ha hb hc
          refine Ev.blk (is := [.iconst 0]) (pc2 := 599) (L2 := [(4, 1), (2, v1), (2, v2), (0, v3)]) (S2 := [(0, 0)]) (h2 := u51.2) (by decide +kernel) rfl trivial ?_
          cases hx
          exact Ev.ret (i := .ireturn) (len := 1) (by decide +kernel) rfl (finOf (t := some .boolean) rfl (bz0))
      have hx := hb hc9
      clear ha hb
      obtain ⟨ha, hb⟩ := bite hx
      clear hx
      by_cases hc10 : andI u1 63 = 10
      · have hx := ha hc10
        clear ha hb
        refine Ev.jp (i := .tableswitch 1467 0 39 #[175, 208, 271, 294, 307, 350, 429, 488, 521, 544, 567, 580, 593, 626, 695, 709, 733, 756, 780, 803, 836, 870, 903, 926, 959, 992, 1025, 1048, 1071, 1104, 1127, 1160, 1193, 1226, 1259, 1302, 1335, 1368, 1421, 1444]) (len := 175) (pc2 := 600) (by decide +kernel) (by rw [hc10]; rfl) ?_
        clear hc10
        refine Ev.blk (is := [.aload_n 1]) (pc2 := 601) (L2 := [(4, 1), (2, v1), (2, v2), (0, v3)]) (S2 := [(2, v1)]) (h2 := h) (by decide +kernel) rfl trivial ?_
        obtain ⟨_, hg, -, hx⟩ := bgd hx
        obtain ⟨u52, hc, hx⟩ := bca hx
        refine Ev.call (args := [(2, v1)]) (S2 := []) (r1 := (some (0, u52.1))) (h1 := u52.2) (i := .invokevirtual 110) (by decide +kernel) rfl rfl (Nat.le_of_ble_eq_true rfl) (Or.inr (Or.inl ⟨rfl, hg, by decide +kernel⟩)) (x_X_drop (by omega) hc) ?_
        refine Ev.blk (is := [.aload_n 2]) (pc2 := 605) (L2 := [(4, 1), (2, v1), (2, v2), (0, v3)]) (S2 := [(2, v2), (0, u52.1)]) (h2 := u52.2) (by decide +kernel) rfl trivial ?_
        obtain ⟨_, hg, -, hx⟩ := bgd hx
        obtain ⟨u53, hc, hx⟩ := bca hx
        refine Ev.call (args := [(2, v2)]) (S2 := [(0, u52.1)]) (r1 := (some (0, u53.1))) (h1 := u53.2) (i := .invokevirtual 232) (by decide +kernel) rfl rfl (Nat.le_of_ble_eq_true rfl) (Or.inr (Or.inl ⟨rfl, hg, by decide +kernel⟩)) (x_R_drop (by omega) hc) ?_
        obtain ⟨ha, hb⟩ := bite hx
        clear hx
        refine Ev.br (i := .if_icmp .eq 892) (len := 3) (a := 1500) (b := 611) (by decide +kernel) rfl Iff.rfl (fun hc => ?_) (fun hc => ?_)
        · have hx := ha hc
          clear ha hb hc
          refine Ev.blk (is := [.iinc 3 6]) (pc2 := 1503) (L2 := [(4, 1), (2, v1), (2, v2), (0, w32 (v3 + 6))]) (S2 := []) (h2 := u53.2) (by decide +kernel) rfl trivial ?_
          refine Ev.jp (i := .goto (-1485)) (len := 3) (pc2 := 18) (by decide +kernel) rfl ?_
          exact ih v1 v2 (w32 (v3 + 6)) u53.2 _ hx
        · have hx := hb hc
          clear ha hb hc
          refine Ev.blk (is := [.iconst 0]) (pc2 := 612) (L2 := [(4, 1), (2, v1), (2, v2), (0, v3)]) (S2 := [(0, 0)]) (h2 := u53.2) (by decide +kernel) rfl trivial ?_
          cases hx
          exact Ev.ret (i := .ireturn) (len := 1) (by decide +kernel) rfl (finOf (t := some .boolean) rfl (bz0))
      have hx := hb hc10
      clear ha hb
      obtain ⟨ha, hb⟩ := bite hx
      clear hx
      by_cases hc11 : andI u1 63 = 11
      · have hx := ha hc11
        clear ha hb
        refine Ev.jp (i := .tableswitch 1467 0 39 #[175, 208, 271, 294, 307, 350, 429, 488, 521, 544, 567, 580, 593, 626, 695, 709, 733, 756, 780, 803, 836, 870, 903, 926, 959, 992, 1025, 1048, 1071, 1104, 1127, 1160, 1193, 1226, 1259, 1302, 1335, 1368, 1421, 1444]) (len := 175) (pc2 := 613) (by decide +kernel) (by rw [hc11]; rfl) ?_
        clear hc11
        refine Ev.blk (is := [.aload_n 1]) (pc2 := 614) (L2 := [(4, 1), (2, v1), (2, v2), (0, v3)]) (S2 := [(2, v1)]) (h2 := h) (by decide +kernel) rfl trivial ?_
        obtain ⟨_, hg, -, hx⟩ := bgd hx
        obtain ⟨u54, hc, hx⟩ := bca hx
        refine Ev.call (args := [(2, v1)]) (S2 := []) (r1 := (some (0, u54.1))) (h1 := u54.2) (i := .invokevirtual 111) (by decide +kernel) rfl rfl (Nat.le_of_ble_eq_true rfl) (Or.inr (Or.inl ⟨rfl, hg, by decide +kernel⟩)) (x_X_clear (by omega) hc) ?_
        refine Ev.blk (is := [.aload_n 2]) (pc2 := 618) (L2 := [(4, 1), (2, v1), (2, v2), (0, v3)]) (S2 := [(2, v2), (0, u54.1)]) (h2 := u54.2) (by decide +kernel) rfl trivial ?_
        obtain ⟨_, hg, -, hx⟩ := bgd hx
        obtain ⟨u55, hc, hx⟩ := bca hx
        refine Ev.call (args := [(2, v2)]) (S2 := [(0, u54.1)]) (r1 := (some (0, u55.1))) (h1 := u55.2) (i := .invokevirtual 233) (by decide +kernel) rfl rfl (Nat.le_of_ble_eq_true rfl) (Or.inr (Or.inl ⟨rfl, hg, by decide +kernel⟩)) (x_R_clear (by omega) hc) ?_
        obtain ⟨ha, hb⟩ := bite hx
        clear hx
        refine Ev.br (i := .if_icmp .eq 879) (len := 3) (a := 1500) (b := 624) (by decide +kernel) rfl Iff.rfl (fun hc => ?_) (fun hc => ?_)
        · have hx := ha hc
          clear ha hb hc
          refine Ev.blk (is := [.iinc 3 6]) (pc2 := 1503) (L2 := [(4, 1), (2, v1), (2, v2), (0, w32 (v3 + 6))]) (S2 := []) (h2 := u55.2) (by decide +kernel) rfl trivial ?_
          refine Ev.jp (i := .goto (-1485)) (len := 3) (pc2 := 18) (by decide +kernel) rfl ?_
          exact ih v1 v2 (w32 (v3 + 6)) u55.2 _ hx
        · have hx := hb hc
          clear ha hb hc
          refine Ev.blk (is := [.iconst 0]) (pc2 := 625) (L2 := [(4, 1), (2, v1), (2, v2), (0, v3)]) (S2 := [(0, 0)]) (h2 := u55.2) (by decide +kernel) rfl trivial ?_
          cases hx
          exact Ev.ret (i := .ireturn) (len := 1) (by decide +kernel) rfl (finOf (t := some .boolean) rfl (bz0))
      have hx := hb hc11
      clear ha hb
      obtain ⟨ha, hb⟩ := bite hx
      clear hx
      by_cases hc12 : andI u1 63 = 12
      · have hx := ha hc12
        clear ha hb
        refine Ev.jp (i := .tableswitch 1467 0 39 #[175, 208, 271, 294, 307, 350, 429, 488, 521, 544, 567, 580, 593, 626, 695, 709, 733, 756, 780, 803, 836, 870, 903, 926, 959, 992, 1025, 1048, 1071, 1104, 1127, 1160, 1193, 1226, 1259, 1302, 1335, 1368, 1421, 1444]) (len := 175) (pc2 := 626) (by decide +kernel) (by rw [hc12]; rfl) ?_
        clear hc12
        obtain ⟨u56, hg, he, hx⟩ := bgd hx
        refine Ev.blk (is := [.aload_n 1, .aload_n 0, .iload_n 3, .iconst 1, .iadd, .iaload]) (pc2 := 632) (L2 := [(4, 1), (2, v1), (2, v2), (0, v3)]) (S2 := [(0, u56), (2, v1)]) (h2 := h) (by decide +kernel) (by subst he; rfl) (by exact hg) ?_
        clear hg he
        obtain ⟨u57, hg, he, hx⟩ := bgd hx
        refine Ev.blk (is := [.aload_n 0, .iload_n 3, .iconst 2, .iadd, .iaload]) (pc2 := 637) (L2 := [(4, 1), (2, v1), (2, v2), (0, v3)]) (S2 := [(0, u57), (0, u56), (2, v1)]) (h2 := h) (by decide +kernel) (by subst he; rfl) (by exact hg) ?_
        clear hg he
        obtain ⟨_, hg, -, hx⟩ := bgd hx
        obtain ⟨u58, hc, hx⟩ := bca hx
        refine Ev.call (args := [(2, v1), (0, u56), (0, u57)]) (S2 := []) (r1 := (some (0, u58))) (h1 := h) (i := .invokevirtual 112) (by decide +kernel) rfl rfl (Nat.le_of_ble_eq_true rfl) (Or.inr (Or.inl ⟨rfl, hg, by decide +kernel⟩)) (x_X_line (by omega) hc) ?_
        obtain ⟨u59, hg, he, hx⟩ := bgd hx
        refine Ev.blk (is := [.aload_n 2, .aload_n 0, .iload_n 3, .iconst 1, .iadd, .iaload]) (pc2 := 646) (L2 := [(4, 1), (2, v1), (2, v2), (0, v3)]) (S2 := [(0, u59), (2, v2), (0, u58)]) (h2 := h) (by decide +kernel) (by subst he; rfl) (by exact hg) ?_
        clear hg he
        obtain ⟨u60, hg, he, hx⟩ := bgd hx
        refine Ev.blk (is := [.aload_n 0, .iload_n 3, .iconst 2, .iadd, .iaload]) (pc2 := 651) (L2 := [(4, 1), (2, v1), (2, v2), (0, v3)]) (S2 := [(0, u60), (0, u59), (2, v2), (0, u58)]) (h2 := h) (by decide +kernel) (by subst he; rfl) (by exact hg) ?_
        clear hg he
        obtain ⟨_, hg, -, hx⟩ := bgd hx
        obtain ⟨u61, hc, hx⟩ := bca hx
        refine Ev.call (args := [(2, v2), (0, u59), (0, u60)]) (S2 := [(0, u58)]) (r1 := (some (0, u61.1))) (h1 := u61.2) (i := .invokevirtual 234) (by decide +kernel) rfl rfl (Nat.le_of_ble_eq_true rfl) (Or.inr (Or.inl ⟨rfl, hg, by decide +kernel⟩)) (x_R_line (by omega) hc) ?_
        obtain ⟨ha, hb⟩ := bite hx
        clear hx
        refine Ev.br (i := .if_icmp .eq 846) (len := 3) (a := 1500) (b := 657) (by decide +kernel) rfl Iff.rfl (fun hc => ?_) (fun hc => ?_)
        · have hx := ha hc
          clear ha hb hc
          refine Ev.blk (is := [.iinc 3 6]) (pc2 := 1503) (L2 := [(4, 1), (2, v1), (2, v2), (0, w32 (v3 + 6))]) (S2 := []) (h2 := u61.2) (by decide +kernel) rfl trivial ?_
          refine Ev.jp (i := .goto (-1485)) (len := 3) (pc2 := 18) (by decide +kernel) rfl ?_
          exact ih v1 v2 (w32 (v3 + 6)) u61.2 _ hx
        · have hx := hb hc
          clear ha hb hc
          refine Ev.blk (is := [.iconst 0]) (pc2 := 658) (L2 := [(4, 1), (2, v1), (2, v2), (0, v3)]) (S2 := [(0, 0)]) (h2 := u61.2) (by decide +kernel) rfl trivial ?_
          cases hx
          exact Ev.ret (i := .ireturn) (len := 1) (by decide +kernel) rfl (finOf (t := some .boolean) rfl (bz0))
      have hx := hb hc12
      clear ha hb
      obtain ⟨ha, hb⟩ := bite hx
      clear hx
      by_cases hc13 : andI u1 63 = 13
      · have hx := ha hc13
        clear ha hb
        refine Ev.jp (i := .tableswitch 1467 0 39 #[175, 208, 271, 294, 307, 350, 429, 488, 521, 544, 567, 580, 593, 626, 695, 709, 733, 756, 780, 803, 836, 870, 903, 926, 959, 992, 1025, 1048, 1071, 1104, 1127, 1160, 1193, 1226, 1259, 1302, 1335, 1368, 1421, 1444]) (len := 175) (pc2 := 659) (by decide +kernel) (by rw [hc13]; rfl) ?_
        clear hc13
        obtain ⟨u62, hg, he, hx⟩ := bgd hx
        refine Ev.blk (is := [.aload_n 1, .aload_n 0, .iload_n 3, .iconst 1, .iadd, .iaload]) (pc2 := 665) (L2 := [(4, 1), (2, v1), (2, v2), (0, v3)]) (S2 := [(0, u62), (2, v1)]) (h2 := h) (by decide +kernel) (by subst he; rfl) (by exact hg) ?_
        clear hg he
        obtain ⟨u63, hg, he, hx⟩ := bgd hx
        refine Ev.blk (is := [.aload_n 0, .iload_n 3, .iconst 2, .iadd, .iaload]) (pc2 := 670) (L2 := [(4, 1), (2, v1), (2, v2), (0, v3)]) (S2 := [(0, u63), (0, u62), (2, v1)]) (h2 := h) (by decide +kernel) (by subst he; rfl) (by exact hg) ?_
        clear hg he
        obtain ⟨ha, hb⟩ := bite hx
        clear hx
        refine Ev.br (i := .ifCond .eq 7) (len := 3) (a := 677) (b := 673) (by decide +kernel) rfl Iff.rfl (fun hc => ?_) (fun hc => ?_)
        · have hx := ha hc
          clear ha hb hc
          refine Ev.blk (is := [.iconst 0]) (pc2 := 678) (L2 := [(4, 1), (2, v1), (2, v2), (0, v3)]) (S2 := [(0, 0), (0, u62), (2, v1)]) (h2 := h) (by decide +kernel) rfl trivial ?_
          exact y_Law_law_678 hd ih v1 v2 v3 0 u62 v1 h _ hx
        · have hx := hb hc
          clear ha hb hc
          refine Ev.blk (is := [.iconst 1]) (pc2 := 674) (L2 := [(4, 1), (2, v1), (2, v2), (0, v3)]) (S2 := [(0, 1), (0, u62), (2, v1)]) (h2 := h) (by decide +kernel) rfl trivial ?_
          refine Ev.jp (i := .goto 4) (len := 3) (pc2 := 678) (by decide +kernel) rfl ?_
          exact y_Law_law_678 hd ih v1 v2 v3 1 u62 v1 h _ hx
      have hx := hb hc13
      clear ha hb
      obtain ⟨ha, hb⟩ := bite hx
      clear hx
      by_cases hc14 : andI u1 63 = 14
      · have hx := ha hc14
        clear ha hb
        refine Ev.jp (i := .tableswitch 1467 0 39 #[175, 208, 271, 294, 307, 350, 429, 488, 521, 544, 567, 580, 593, 626, 695, 709, 733, 756, 780, 803, 836, 870, 903, 926, 959, 992, 1025, 1048, 1071, 1104, 1127, 1160, 1193, 1226, 1259, 1302, 1335, 1368, 1421, 1444]) (len := 175) (pc2 := 728) (by decide +kernel) (by rw [hc14]; rfl) ?_
        clear hc14
        refine Ev.blk (is := [.aload_n 1]) (pc2 := 729) (L2 := [(4, 1), (2, v1), (2, v2), (0, v3)]) (S2 := [(2, v1)]) (h2 := h) (by decide +kernel) rfl trivial ?_
        obtain ⟨_, hg, -, hx⟩ := bgd hx
        obtain ⟨u64, hc, hx⟩ := bca hx
        refine Ev.call (args := [(2, v1)]) (S2 := []) (r1 := (some (1, u64))) (h1 := h) (i := .invokevirtual 114) (by decide +kernel) rfl rfl (Nat.le_of_ble_eq_true rfl) (Or.inr (Or.inl ⟨rfl, hg, by decide +kernel⟩)) (x_X_right (by omega) hc) ?_
        refine Ev.blk (is := [.aload_n 2]) (pc2 := 733) (L2 := [(4, 1), (2, v1), (2, v2), (0, v3)]) (S2 := [(2, v2), (1, u64)]) (h2 := h) (by decide +kernel) rfl trivial ?_
        obtain ⟨_, hg, -, hx⟩ := bgd hx
        obtain ⟨u65, hc, hx⟩ := bca hx
        refine Ev.call (args := [(2, v2)]) (S2 := [(1, u64)]) (r1 := (some (1, u65.1))) (h1 := u65.2) (i := .invokevirtual 236) (by decide +kernel) rfl rfl (Nat.le_of_ble_eq_true rfl) (Or.inr (Or.inl ⟨rfl, hg, by decide +kernel⟩)) (x_R_right (by omega) hc) ?_
        refine Ev.blk (is := [.lcmp]) (pc2 := 737) (L2 := [(4, 1), (2, v1), (2, v2), (0, v3)]) (S2 := [(0, cmpL u64 u65.1)]) (h2 := u65.2) (by decide +kernel) rfl trivial ?_
        obtain ⟨ha, hb⟩ := bite hx
        clear hx
        refine Ev.br (i := .ifCond .eq 763) (len := 3) (a := 1500) (b := 740) (by decide +kernel) rfl cmpL_eq (fun hc => ?_) (fun hc => ?_)
        · have hx := ha hc
          clear ha hb hc
          refine Ev.blk (is := [.iinc 3 6]) (pc2 := 1503) (L2 := [(4, 1), (2, v1), (2, v2), (0, w32 (v3 + 6))]) (S2 := []) (h2 := u65.2) (by decide +kernel) rfl trivial ?_
          refine Ev.jp (i := .goto (-1485)) (len := 3) (pc2 := 18) (by decide +kernel) rfl ?_
          exact ih v1 v2 (w32 (v3 + 6)) u65.2 _ hx
        · have hx := hb hc
          clear ha hb hc
          refine Ev.blk (is := [.iconst 0]) (pc2 := 741) (L2 := [(4, 1), (2, v1), (2, v2), (0, v3)]) (S2 := [(0, 0)]) (h2 := u65.2) (by decide +kernel) rfl trivial ?_
          cases hx
          exact Ev.ret (i := .ireturn) (len := 1) (by decide +kernel) rfl (finOf (t := some .boolean) rfl (bz0))
      have hx := hb hc14
      clear ha hb
      obtain ⟨ha, hb⟩ := bite hx
      clear hx
      by_cases hc15 : andI u1 63 = 15
      · have hx := ha hc15
        clear ha hb
        refine Ev.jp (i := .tableswitch 1467 0 39 #[175, 208, 271, 294, 307, 350, 429, 488, 521, 544, 567, 580, 593, 626, 695, 709, 733, 756, 780, 803, 836, 870, 903, 926, 959, 992, 1025, 1048, 1071, 1104, 1127, 1160, 1193, 1226, 1259, 1302, 1335, 1368, 1421, 1444]) (len := 175) (pc2 := 742) (by decide +kernel) (by rw [hc15]; rfl) ?_
        clear hc15
        obtain ⟨u66, hg, he, hx⟩ := bgd hx
        refine Ev.blk (is := [.aload_n 1, .aload_n 0, .iload_n 3, .iconst 1, .iadd, .iaload]) (pc2 := 748) (L2 := [(4, 1), (2, v1), (2, v2), (0, v3)]) (S2 := [(0, u66), (2, v1)]) (h2 := h) (by decide +kernel) (by subst he; rfl) (by exact hg) ?_
        clear hg he
        obtain ⟨_, hg, -, hx⟩ := bgd hx
        obtain ⟨u67, hc, hx⟩ := bca hx
        refine Ev.call (args := [(2, v1), (0, u66)]) (S2 := []) (r1 := (some (1, u67))) (h1 := h) (i := .invokevirtual 115) (by decide +kernel) rfl rfl (Nat.le_of_ble_eq_true rfl) (Or.inr (Or.inl ⟨rfl, hg, by decide +kernel⟩)) (x_X_rests (by omega) hc) ?_
        obtain ⟨u68, hg, he, hx⟩ := bgd hx
        refine Ev.blk (is := [.aload_n 2, .aload_n 0, .iload_n 3, .iconst 1, .iadd, .iaload]) (pc2 := 757) (L2 := [(4, 1), (2, v1), (2, v2), (0, v3)]) (S2 := [(0, u68), (2, v2), (1, u67)]) (h2 := h) (by decide +kernel) (by subst he; rfl) (by exact hg) ?_
        clear hg he
        obtain ⟨_, hg, -, hx⟩ := bgd hx
        obtain ⟨u69, hc, hx⟩ := bca hx
        refine Ev.call (args := [(2, v2), (0, u68)]) (S2 := [(1, u67)]) (r1 := (some (1, u69.1))) (h1 := u69.2) (i := .invokevirtual 237) (by decide +kernel) rfl rfl (Nat.le_of_ble_eq_true rfl) (Or.inr (Or.inl ⟨rfl, hg, by decide +kernel⟩)) (x_R_rests (by omega) hc) ?_
        refine Ev.blk (is := [.lcmp]) (pc2 := 761) (L2 := [(4, 1), (2, v1), (2, v2), (0, v3)]) (S2 := [(0, cmpL u67 u69.1)]) (h2 := u69.2) (by decide +kernel) rfl trivial ?_
        obtain ⟨ha, hb⟩ := bite hx
        clear hx
        refine Ev.br (i := .ifCond .eq 739) (len := 3) (a := 1500) (b := 764) (by decide +kernel) rfl cmpL_eq (fun hc => ?_) (fun hc => ?_)
        · have hx := ha hc
          clear ha hb hc
          refine Ev.blk (is := [.iinc 3 6]) (pc2 := 1503) (L2 := [(4, 1), (2, v1), (2, v2), (0, w32 (v3 + 6))]) (S2 := []) (h2 := u69.2) (by decide +kernel) rfl trivial ?_
          refine Ev.jp (i := .goto (-1485)) (len := 3) (pc2 := 18) (by decide +kernel) rfl ?_
          exact ih v1 v2 (w32 (v3 + 6)) u69.2 _ hx
        · have hx := hb hc
          clear ha hb hc
          refine Ev.blk (is := [.iconst 0]) (pc2 := 765) (L2 := [(4, 1), (2, v1), (2, v2), (0, v3)]) (S2 := [(0, 0)]) (h2 := u69.2) (by decide +kernel) rfl trivial ?_
          cases hx
          exact Ev.ret (i := .ireturn) (len := 1) (by decide +kernel) rfl (finOf (t := some .boolean) rfl (bz0))
      have hx := hb hc15
      clear ha hb
      obtain ⟨ha, hb⟩ := bite hx
      clear hx
      by_cases hc16 : andI u1 63 = 16
      · have hx := ha hc16
        clear ha hb
        refine Ev.jp (i := .tableswitch 1467 0 39 #[175, 208, 271, 294, 307, 350, 429, 488, 521, 544, 567, 580, 593, 626, 695, 709, 733, 756, 780, 803, 836, 870, 903, 926, 959, 992, 1025, 1048, 1071, 1104, 1127, 1160, 1193, 1226, 1259, 1302, 1335, 1368, 1421, 1444]) (len := 175) (pc2 := 766) (by decide +kernel) (by rw [hc16]; rfl) ?_
        clear hc16
        obtain ⟨u70, hg, he, hx⟩ := bgd hx
        refine Ev.blk (is := [.aload_n 1, .aload_n 0, .iload_n 3, .iconst 1, .iadd, .iaload]) (pc2 := 772) (L2 := [(4, 1), (2, v1), (2, v2), (0, v3)]) (S2 := [(0, u70), (2, v1)]) (h2 := h) (by decide +kernel) (by subst he; rfl) (by exact hg) ?_
        clear hg he
        obtain ⟨_, hg, -, hx⟩ := bgd hx
        obtain ⟨u71, hc, hx⟩ := bca hx
        refine Ev.call (args := [(2, v1), (0, u70)]) (S2 := []) (r1 := (some (0, u71))) (h1 := h) (i := .invokevirtual 116) (by decide +kernel) rfl rfl (Nat.le_of_ble_eq_true rfl) (Or.inr (Or.inl ⟨rfl, hg, by decide +kernel⟩)) (x_X_deep (by omega) hc) ?_
        obtain ⟨u72, hg, he, hx⟩ := bgd hx
        refine Ev.blk (is := [.aload_n 2, .aload_n 0, .iload_n 3, .iconst 1, .iadd, .iaload]) (pc2 := 781) (L2 := [(4, 1), (2, v1), (2, v2), (0, v3)]) (S2 := [(0, u72), (2, v2), (0, u71)]) (h2 := h) (by decide +kernel) (by subst he; rfl) (by exact hg) ?_
        clear hg he
        obtain ⟨_, hg, -, hx⟩ := bgd hx
        obtain ⟨u73, hc, hx⟩ := bca hx
        refine Ev.call (args := [(2, v2), (0, u72)]) (S2 := [(0, u71)]) (r1 := (some (0, u73.1))) (h1 := u73.2) (i := .invokevirtual 238) (by decide +kernel) rfl rfl (Nat.le_of_ble_eq_true rfl) (Or.inr (Or.inl ⟨rfl, hg, by decide +kernel⟩)) (x_R_deep (by omega) hc) ?_
        obtain ⟨ha, hb⟩ := bite hx
        clear hx
        refine Ev.br (i := .if_icmp .eq 716) (len := 3) (a := 1500) (b := 787) (by decide +kernel) rfl Iff.rfl (fun hc => ?_) (fun hc => ?_)
        · have hx := ha hc
          clear ha hb hc
          refine Ev.blk (is := [.iinc 3 6]) (pc2 := 1503) (L2 := [(4, 1), (2, v1), (2, v2), (0, w32 (v3 + 6))]) (S2 := []) (h2 := u73.2) (by decide +kernel) rfl trivial ?_
          refine Ev.jp (i := .goto (-1485)) (len := 3) (pc2 := 18) (by decide +kernel) rfl ?_
          exact ih v1 v2 (w32 (v3 + 6)) u73.2 _ hx
        · have hx := hb hc
          clear ha hb hc
          refine Ev.blk (is := [.iconst 0]) (pc2 := 788) (L2 := [(4, 1), (2, v1), (2, v2), (0, v3)]) (S2 := [(0, 0)]) (h2 := u73.2) (by decide +kernel) rfl trivial ?_
          cases hx
          exact Ev.ret (i := .ireturn) (len := 1) (by decide +kernel) rfl (finOf (t := some .boolean) rfl (bz0))
      have hx := hb hc16
      clear ha hb
      obtain ⟨ha, hb⟩ := bite hx
      clear hx
      by_cases hc17 : andI u1 63 = 17
      · have hx := ha hc17
        clear ha hb
        refine Ev.jp (i := .tableswitch 1467 0 39 #[175, 208, 271, 294, 307, 350, 429, 488, 521, 544, 567, 580, 593, 626, 695, 709, 733, 756, 780, 803, 836, 870, 903, 926, 959, 992, 1025, 1048, 1071, 1104, 1127, 1160, 1193, 1226, 1259, 1302, 1335, 1368, 1421, 1444]) (len := 175) (pc2 := 789) (by decide +kernel) (by rw [hc17]; rfl) ?_
        clear hc17
        obtain ⟨u74, hg, he, hx⟩ := bgd hx
        refine Ev.blk (is := [.aload_n 1, .aload_n 0, .iload_n 3, .iconst 1, .iadd, .iaload]) (pc2 := 795) (L2 := [(4, 1), (2, v1), (2, v2), (0, v3)]) (S2 := [(0, u74), (2, v1)]) (h2 := h) (by decide +kernel) (by subst he; rfl) (by exact hg) ?_
        clear hg he
        obtain ⟨_, hg, -, hx⟩ := bgd hx
        obtain ⟨u75, hc, hx⟩ := bca hx
        refine Ev.call (args := [(2, v1), (0, u74)]) (S2 := []) (r1 := (some (1, u75))) (h1 := h) (i := .invokevirtual 117) (by decide +kernel) rfl rfl (Nat.le_of_ble_eq_true rfl) (Or.inr (Or.inl ⟨rfl, hg, by decide +kernel⟩)) (x_X_falls (by omega) hc) ?_
        obtain ⟨u76, hg, he, hx⟩ := bgd hx
        refine Ev.blk (is := [.aload_n 2, .aload_n 0, .iload_n 3, .iconst 1, .iadd, .iaload]) (pc2 := 804) (L2 := [(4, 1), (2, v1), (2, v2), (0, v3)]) (S2 := [(0, u76), (2, v2), (1, u75)]) (h2 := h) (by decide +kernel) (by subst he; rfl) (by exact hg) ?_
        clear hg he
        obtain ⟨_, hg, -, hx⟩ := bgd hx
        obtain ⟨u77, hc, hx⟩ := bca hx
        refine Ev.call (args := [(2, v2), (0, u76)]) (S2 := [(1, u75)]) (r1 := (some (1, u77.1))) (h1 := u77.2) (i := .invokevirtual 240) (by decide +kernel) rfl rfl (Nat.le_of_ble_eq_true rfl) (Or.inr (Or.inl ⟨rfl, hg, by decide +kernel⟩)) (x_R_falls (by omega) hc) ?_
        refine Ev.blk (is := [.lcmp]) (pc2 := 808) (L2 := [(4, 1), (2, v1), (2, v2), (0, v3)]) (S2 := [(0, cmpL u75 u77.1)]) (h2 := u77.2) (by decide +kernel) rfl trivial ?_
        obtain ⟨ha, hb⟩ := bite hx
        clear hx
        refine Ev.br (i := .ifCond .eq 692) (len := 3) (a := 1500) (b := 811) (by decide +kernel) rfl cmpL_eq (fun hc => ?_) (fun hc => ?_)
        · have hx := ha hc
          clear ha hb hc
          refine Ev.blk (is := [.iinc 3 6]) (pc2 := 1503) (L2 := [(4, 1), (2, v1), (2, v2), (0, w32 (v3 + 6))]) (S2 := []) (h2 := u77.2) (by decide +kernel) rfl trivial ?_
          refine Ev.jp (i := .goto (-1485)) (len := 3) (pc2 := 18) (by decide +kernel) rfl ?_
          exact ih v1 v2 (w32 (v3 + 6)) u77.2 _ hx
        · have hx := hb hc
          clear ha hb hc
          refine Ev.blk (is := [.iconst 0]) (pc2 := 812) (L2 := [(4, 1), (2, v1), (2, v2), (0, v3)]) (S2 := [(0, 0)]) (h2 := u77.2) (by decide +kernel) rfl trivial ?_
          cases hx
          exact Ev.ret (i := .ireturn) (len := 1) (by decide +kernel) rfl (finOf (t := some .boolean) rfl (bz0))
      have hx := hb hc17
      clear ha hb
      obtain ⟨ha, hb⟩ := bite hx
      clear hx
      by_cases hc18 : andI u1 63 = 18
      · have hx := ha hc18
        clear ha hb
        refine Ev.jp (i := .tableswitch 1467 0 39 #[175, 208, 271, 294, 307, 350, 429, 488, 521, 544, 567, 580, 593, 626, 695, 709, 733, 756, 780, 803, 836, 870, 903, 926, 959, 992, 1025, 1048, 1071, 1104, 1127, 1160, 1193, 1226, 1259, 1302, 1335, 1368, 1421, 1444]) (len := 175) (pc2 := 813) (by decide +kernel) (by rw [hc18]; rfl) ?_
        clear hc18
        obtain ⟨u78, hg, he, hx⟩ := bgd hx
        refine Ev.blk (is := [.aload_n 1, .aload_n 0, .iload_n 3, .iconst 1, .iadd, .iaload]) (pc2 := 819) (L2 := [(4, 1), (2, v1), (2, v2), (0, v3)]) (S2 := [(0, u78), (2, v1)]) (h2 := h) (by decide +kernel) (by subst he; rfl) (by exact hg) ?_
        clear hg he
        obtain ⟨_, hg, -, hx⟩ := bgd hx
        obtain ⟨u79, hc, hx⟩ := bca hx
        refine Ev.call (args := [(2, v1), (0, u78)]) (S2 := []) (r1 := (some (0, u79))) (h1 := h) (i := .invokevirtual 119) (by decide +kernel) rfl rfl (Nat.le_of_ble_eq_true rfl) (Or.inr (Or.inl ⟨rfl, hg, by decide +kernel⟩)) (x_X_cost (by omega) hc) ?_
        obtain ⟨u80, hg, he, hx⟩ := bgd hx
        refine Ev.blk (is := [.aload_n 2, .aload_n 0, .iload_n 3, .iconst 1, .iadd, .iaload]) (pc2 := 828) (L2 := [(4, 1), (2, v1), (2, v2), (0, v3)]) (S2 := [(0, u80), (2, v2), (0, u79)]) (h2 := h) (by decide +kernel) (by subst he; rfl) (by exact hg) ?_
        clear hg he
        obtain ⟨_, hg, -, hx⟩ := bgd hx
        obtain ⟨u81, hc, hx⟩ := bca hx
        refine Ev.call (args := [(2, v2), (0, u80)]) (S2 := [(0, u79)]) (r1 := (some (0, u81.1))) (h1 := u81.2) (i := .invokevirtual 241) (by decide +kernel) rfl rfl (Nat.le_of_ble_eq_true rfl) (Or.inr (Or.inl ⟨rfl, hg, by decide +kernel⟩)) (x_R_cost (by omega) hc) ?_
        obtain ⟨ha, hb⟩ := bite hx
        clear hx
        refine Ev.br (i := .if_icmp .eq 669) (len := 3) (a := 1500) (b := 834) (by decide +kernel) rfl Iff.rfl (fun hc => ?_) (fun hc => ?_)
        · have hx := ha hc
          clear ha hb hc
          refine Ev.blk (is := [.iinc 3 6]) (pc2 := 1503) (L2 := [(4, 1), (2, v1), (2, v2), (0, w32 (v3 + 6))]) (S2 := []) (h2 := u81.2) (by decide +kernel) rfl trivial ?_
          refine Ev.jp (i := .goto (-1485)) (len := 3) (pc2 := 18) (by decide +kernel) rfl ?_
          exact ih v1 v2 (w32 (v3 + 6)) u81.2 _ hx
        · have hx := hb hc
          clear ha hb hc
          refine Ev.blk (is := [.iconst 0]) (pc2 := 835) (L2 := [(4, 1), (2, v1), (2, v2), (0, v3)]) (S2 := [(0, 0)]) (h2 := u81.2) (by decide +kernel) rfl trivial ?_
          cases hx
          exact Ev.ret (i := .ireturn) (len := 1) (by decide +kernel) rfl (finOf (t := some .boolean) rfl (bz0))
      have hx := hb hc18
      clear ha hb
      obtain ⟨ha, hb⟩ := bite hx
      clear hx
      by_cases hc19 : andI u1 63 = 19
      · have hx := ha hc19
        clear ha hb
        refine Ev.jp (i := .tableswitch 1467 0 39 #[175, 208, 271, 294, 307, 350, 429, 488, 521, 544, 567, 580, 593, 626, 695, 709, 733, 756, 780, 803, 836, 870, 903, 926, 959, 992, 1025, 1048, 1071, 1104, 1127, 1160, 1193, 1226, 1259, 1302, 1335, 1368, 1421, 1444]) (len := 175) (pc2 := 836) (by decide +kernel) (by rw [hc19]; rfl) ?_
        clear hc19
        obtain ⟨u82, hg, he, hx⟩ := bgd hx
        refine Ev.blk (is := [.aload_n 1, .aload_n 0, .iload_n 3, .iconst 1, .iadd, .iaload]) (pc2 := 842) (L2 := [(4, 1), (2, v1), (2, v2), (0, v3)]) (S2 := [(0, u82), (2, v1)]) (h2 := h) (by decide +kernel) (by subst he; rfl) (by exact hg) ?_
        clear hg he
        obtain ⟨u83, hg, he, hx⟩ := bgd hx
        refine Ev.blk (is := [.aload_n 0, .iload_n 3, .iconst 2, .iadd, .iaload]) (pc2 := 847) (L2 := [(4, 1), (2, v1), (2, v2), (0, v3)]) (S2 := [(0, u83), (0, u82), (2, v1)]) (h2 := h) (by decide +kernel) (by subst he; rfl) (by exact hg) ?_
        clear hg he
        obtain ⟨_, hg, -, hx⟩ := bgd hx
        obtain ⟨u84, hc, hx⟩ := bca hx
        refine Ev.call (args := [(2, v1), (0, u82), (0, u83)]) (S2 := []) (r1 := (some (0, u84))) (h1 := h) (i := .invokevirtual 122) (by decide +kernel) rfl rfl (Nat.le_of_ble_eq_true rfl) (Or.inr (Or.inl ⟨rfl, hg, by decide +kernel⟩)) (x_X_loose (by omega) hc) ?_
        obtain ⟨u85, hg, he, hx⟩ := bgd hx
        refine Ev.blk (is := [.aload_n 2, .aload_n 0, .iload_n 3, .iconst 1, .iadd, .iaload]) (pc2 := 856) (L2 := [(4, 1), (2, v1), (2, v2), (0, v3)]) (S2 := [(0, u85), (2, v2), (0, u84)]) (h2 := h) (by decide +kernel) (by subst he; rfl) (by exact hg) ?_
        clear hg he
        obtain ⟨u86, hg, he, hx⟩ := bgd hx
        refine Ev.blk (is := [.aload_n 0, .iload_n 3, .iconst 2, .iadd, .iaload]) (pc2 := 861) (L2 := [(4, 1), (2, v1), (2, v2), (0, v3)]) (S2 := [(0, u86), (0, u85), (2, v2), (0, u84)]) (h2 := h) (by decide +kernel) (by subst he; rfl) (by exact hg) ?_
        clear hg he
        obtain ⟨_, hg, -, hx⟩ := bgd hx
        obtain ⟨u87, hc, hx⟩ := bca hx
        refine Ev.call (args := [(2, v2), (0, u85), (0, u86)]) (S2 := [(0, u84)]) (r1 := (some (0, u87.1))) (h1 := u87.2) (i := .invokevirtual 244) (by decide +kernel) rfl rfl (Nat.le_of_ble_eq_true rfl) (Or.inr (Or.inl ⟨rfl, hg, by decide +kernel⟩)) (x_R_loose (by omega) hc) ?_
        obtain ⟨ha, hb⟩ := bite hx
        clear hx
        refine Ev.br (i := .if_icmp .eq 636) (len := 3) (a := 1500) (b := 867) (by decide +kernel) rfl Iff.rfl (fun hc => ?_) (fun hc => ?_)
        · have hx := ha hc
          clear ha hb hc
          refine Ev.blk (is := [.iinc 3 6]) (pc2 := 1503) (L2 := [(4, 1), (2, v1), (2, v2), (0, w32 (v3 + 6))]) (S2 := []) (h2 := u87.2) (by decide +kernel) rfl trivial ?_
          refine Ev.jp (i := .goto (-1485)) (len := 3) (pc2 := 18) (by decide +kernel) rfl ?_
          exact ih v1 v2 (w32 (v3 + 6)) u87.2 _ hx
        · have hx := hb hc
          clear ha hb hc
          refine Ev.blk (is := [.iconst 0]) (pc2 := 868) (L2 := [(4, 1), (2, v1), (2, v2), (0, v3)]) (S2 := [(0, 0)]) (h2 := u87.2) (by decide +kernel) rfl trivial ?_
          cases hx
          exact Ev.ret (i := .ireturn) (len := 1) (by decide +kernel) rfl (finOf (t := some .boolean) rfl (bz0))
      have hx := hb hc19
      clear ha hb
      obtain ⟨ha, hb⟩ := bite hx
      clear hx
      by_cases hc20 : andI u1 63 = 20
      · have hx := ha hc20
        clear ha hb
        refine Ev.jp (i := .tableswitch 1467 0 39 #[175, 208, 271, 294, 307, 350, 429, 488, 521, 544, 567, 580, 593, 626, 695, 709, 733, 756, 780, 803, 836, 870, 903, 926, 959, 992, 1025, 1048, 1071, 1104, 1127, 1160, 1193, 1226, 1259, 1302, 1335, 1368, 1421, 1444]) (len := 175) (pc2 := 869) (by decide +kernel) (by rw [hc20]; rfl) ?_
        clear hc20
        obtain ⟨u88, hg, he, hx⟩ := bgd hx
        refine Ev.blk (is := [.aload_n 1, .aload_n 0, .iload_n 3, .iconst 1, .iadd, .iaload]) (pc2 := 875) (L2 := [(4, 1), (2, v1), (2, v2), (0, v3)]) (S2 := [(0, u88), (2, v1)]) (h2 := h) (by decide +kernel) (by subst he; rfl) (by exact hg) ?_
        clear hg he
        obtain ⟨u89, hg, he, hx⟩ := bgd hx
        refine Ev.blk (is := [.aload_n 0, .iload_n 3, .iconst 2, .iadd, .iaload]) (pc2 := 880) (L2 := [(4, 1), (2, v1), (2, v2), (0, v3)]) (S2 := [(0, u89), (0, u88), (2, v1)]) (h2 := h) (by decide +kernel) (by subst he; rfl) (by exact hg) ?_
        clear hg he
        obtain ⟨_, hg, -, hx⟩ := bgd hx
        obtain ⟨u90, hc, hx⟩ := bca hx
        refine Ev.call (args := [(2, v1), (0, u88), (0, u89)]) (S2 := []) (r1 := (some (1, u90))) (h1 := h) (i := .invokevirtual 124) (by decide +kernel) rfl rfl (Nat.le_of_ble_eq_true rfl) (Or.inr (Or.inl ⟨rfl, hg, by decide +kernel⟩)) (x_X_shared (by omega) hc) ?_
        obtain ⟨u91, hg, he, hx⟩ := bgd hx
        refine Ev.blk (is := [.aload_n 2, .aload_n 0, .iload_n 3, .iconst 1, .iadd, .iaload]) (pc2 := 889) (L2 := [(4, 1), (2, v1), (2, v2), (0, v3)]) (S2 := [(0, u91), (2, v2), (1, u90)]) (h2 := h) (by decide +kernel) (by subst he; rfl) (by exact hg) ?_
        clear hg he
        obtain ⟨u92, hg, he, hx⟩ := bgd hx
        refine Ev.blk (is := [.aload_n 0, .iload_n 3, .iconst 2, .iadd, .iaload]) (pc2 := 894) (L2 := [(4, 1), (2, v1), (2, v2), (0, v3)]) (S2 := [(0, u92), (0, u91), (2, v2), (1, u90)]) (h2 := h) (by decide +kernel) (by subst he; rfl) (by exact hg) ?_
        clear hg he
        obtain ⟨_, hg, -, hx⟩ := bgd hx
        obtain ⟨u93, hc, hx⟩ := bca hx
        refine Ev.call (args := [(2, v2), (0, u91), (0, u92)]) (S2 := [(1, u90)]) (r1 := (some (1, u93.1))) (h1 := u93.2) (i := .invokevirtual 245) (by decide +kernel) rfl rfl (Nat.le_of_ble_eq_true rfl) (Or.inr (Or.inl ⟨rfl, hg, by decide +kernel⟩)) (x_R_shared (by omega) hc) ?_
        refine Ev.blk (is := [.lcmp]) (pc2 := 898) (L2 := [(4, 1), (2, v1), (2, v2), (0, v3)]) (S2 := [(0, cmpL u90 u93.1)]) (h2 := u93.2) (by decide +kernel) rfl trivial ?_
        obtain ⟨ha, hb⟩ := bite hx
        clear hx
        refine Ev.br (i := .ifCond .eq 602) (len := 3) (a := 1500) (b := 901) (by decide +kernel) rfl cmpL_eq (fun hc => ?_) (fun hc => ?_)
        · have hx := ha hc
          clear ha hb hc
          refine Ev.blk (is := [.iinc 3 6]) (pc2 := 1503) (L2 := [(4, 1), (2, v1), (2, v2), (0, w32 (v3 + 6))]) (S2 := []) (h2 := u93.2) (by decide +kernel) rfl trivial ?_
          refine Ev.jp (i := .goto (-1485)) (len := 3) (pc2 := 18) (by decide +kernel) rfl ?_
          exact ih v1 v2 (w32 (v3 + 6)) u93.2 _ hx
        · have hx := hb hc
          clear ha hb hc
          refine Ev.blk (is := [.iconst 0]) (pc2 := 902) (L2 := [(4, 1), (2, v1), (2, v2), (0, v3)]) (S2 := [(0, 0)]) (h2 := u93.2) (by decide +kernel) rfl trivial ?_
          cases hx
          exact Ev.ret (i := .ireturn) (len := 1) (by decide +kernel) rfl (finOf (t := some .boolean) rfl (bz0))
      have hx := hb hc20
      clear ha hb
      obtain ⟨ha, hb⟩ := bite hx
      clear hx
      by_cases hc21 : andI u1 63 = 21
      · have hx := ha hc21
        clear ha hb
        refine Ev.jp (i := .tableswitch 1467 0 39 #[175, 208, 271, 294, 307, 350, 429, 488, 521, 544, 567, 580, 593, 626, 695, 709, 733, 756, 780, 803, 836, 870, 903, 926, 959, 992, 1025, 1048, 1071, 1104, 1127, 1160, 1193, 1226, 1259, 1302, 1335, 1368, 1421, 1444]) (len := 175) (pc2 := 903) (by decide +kernel) (by rw [hc21]; rfl) ?_
        clear hc21
        obtain ⟨u94, hg, he, hx⟩ := bgd hx
        refine Ev.blk (is := [.aload_n 1, .aload_n 0, .iload_n 3, .iconst 1, .iadd, .iaload]) (pc2 := 909) (L2 := [(4, 1), (2, v1), (2, v2), (0, v3)]) (S2 := [(0, u94), (2, v1)]) (h2 := h) (by decide +kernel) (by subst he; rfl) (by exact hg) ?_
        clear hg he
        obtain ⟨u95, hg, he, hx⟩ := bgd hx
        refine Ev.blk (is := [.aload_n 0, .iload_n 3, .iconst 2, .iadd, .iaload]) (pc2 := 914) (L2 := [(4, 1), (2, v1), (2, v2), (0, v3)]) (S2 := [(0, u95), (0, u94), (2, v1)]) (h2 := h) (by decide +kernel) (by subst he; rfl) (by exact hg) ?_
        clear hg he
        obtain ⟨_, hg, -, hx⟩ := bgd hx
        obtain ⟨u96, hc, hx⟩ := bca hx
        refine Ev.call (args := [(2, v1), (0, u94), (0, u95)]) (S2 := []) (r1 := (some (0, u96.1))) (h1 := u96.2) (i := .invokevirtual 125) (by decide +kernel) rfl rfl (Nat.le_of_ble_eq_true rfl) (Or.inr (Or.inl ⟨rfl, hg, by decide +kernel⟩)) (x_X_spell (by omega) hc) ?_
        obtain ⟨u97, hg, he, hx⟩ := bgd hx
        refine Ev.blk (is := [.aload_n 2, .aload_n 0, .iload_n 3, .iconst 1, .iadd, .iaload]) (pc2 := 923) (L2 := [(4, 1), (2, v1), (2, v2), (0, v3)]) (S2 := [(0, u97), (2, v2), (0, u96.1)]) (h2 := u96.2) (by decide +kernel) (by subst he; rfl) (by exact hg) ?_
        clear hg he
        obtain ⟨u98, hg, he, hx⟩ := bgd hx
        refine Ev.blk (is := [.aload_n 0, .iload_n 3, .iconst 2, .iadd, .iaload]) (pc2 := 928) (L2 := [(4, 1), (2, v1), (2, v2), (0, v3)]) (S2 := [(0, u98), (0, u97), (2, v2), (0, u96.1)]) (h2 := u96.2) (by decide +kernel) (by subst he; rfl) (by exact hg) ?_
        clear hg he
        obtain ⟨_, hg, -, hx⟩ := bgd hx
        obtain ⟨u99, hc, hx⟩ := bca hx
        refine Ev.call (args := [(2, v2), (0, u97), (0, u98)]) (S2 := [(0, u96.1)]) (r1 := (some (0, u99.1))) (h1 := u99.2) (i := .invokevirtual 216) (by decide +kernel) rfl rfl (Nat.le_of_ble_eq_true rfl) (Or.inr (Or.inl ⟨rfl, hg, by decide +kernel⟩)) (x_R_spell (by omega) hc) ?_
        obtain ⟨ha, hb⟩ := bite hx
        clear hx
        refine Ev.br (i := .if_icmp .eq 569) (len := 3) (a := 1500) (b := 934) (by decide +kernel) rfl Iff.rfl (fun hc => ?_) (fun hc => ?_)
        · have hx := ha hc
          clear ha hb hc
          refine Ev.blk (is := [.iinc 3 6]) (pc2 := 1503) (L2 := [(4, 1), (2, v1), (2, v2), (0, w32 (v3 + 6))]) (S2 := []) (h2 := u99.2) (by decide +kernel) rfl trivial ?_
          refine Ev.jp (i := .goto (-1485)) (len := 3) (pc2 := 18) (by decide +kernel) rfl ?_
          exact ih v1 v2 (w32 (v3 + 6)) u99.2 _ hx
        · have hx := hb hc
          clear ha hb hc
          refine Ev.blk (is := [.iconst 0]) (pc2 := 935) (L2 := [(4, 1), (2, v1), (2, v2), (0, v3)]) (S2 := [(0, 0)]) (h2 := u99.2) (by decide +kernel) rfl trivial ?_
          cases hx
          exact Ev.ret (i := .ireturn) (len := 1) (by decide +kernel) rfl (finOf (t := some .boolean) rfl (bz0))
      have hx := hb hc21
      clear ha hb
      obtain ⟨ha, hb⟩ := bite hx
      clear hx
      by_cases hc22 : andI u1 63 = 22
      · have hx := ha hc22
        clear ha hb
        refine Ev.jp (i := .tableswitch 1467 0 39 #[175, 208, 271, 294, 307, 350, 429, 488, 521, 544, 567, 580, 593, 626, 695, 709, 733, 756, 780, 803, 836, 870, 903, 926, 959, 992, 1025, 1048, 1071, 1104, 1127, 1160, 1193, 1226, 1259, 1302, 1335, 1368, 1421, 1444]) (len := 175) (pc2 := 936) (by decide +kernel) (by rw [hc22]; rfl) ?_
        clear hc22
        obtain ⟨u100, hg, he, hx⟩ := bgd hx
        refine Ev.blk (is := [.aload_n 1, .aload_n 0, .iload_n 3, .iconst 1, .iadd, .iaload]) (pc2 := 942) (L2 := [(4, 1), (2, v1), (2, v2), (0, v3)]) (S2 := [(0, u100), (2, v1)]) (h2 := h) (by decide +kernel) (by subst he; rfl) (by exact hg) ?_
        clear hg he
        obtain ⟨_, hg, -, hx⟩ := bgd hx
        obtain ⟨u101, hc, hx⟩ := bca hx
        refine Ev.call (args := [(2, v1), (0, u100)]) (S2 := []) (r1 := (some (0, u101))) (h1 := h) (i := .invokevirtual 132) (by decide +kernel) rfl rfl (Nat.le_of_ble_eq_true rfl) (Or.inr (Or.inl ⟨rfl, hg, by decide +kernel⟩)) (x_X_proof (by omega) hc) ?_
        obtain ⟨u102, hg, he, hx⟩ := bgd hx
        refine Ev.blk (is := [.aload_n 2, .aload_n 0, .iload_n 3, .iconst 1, .iadd, .iaload]) (pc2 := 951) (L2 := [(4, 1), (2, v1), (2, v2), (0, v3)]) (S2 := [(0, u102), (2, v2), (0, u101)]) (h2 := h) (by decide +kernel) (by subst he; rfl) (by exact hg) ?_
        clear hg he
        obtain ⟨_, hg, -, hx⟩ := bgd hx
        obtain ⟨u103, hc, hx⟩ := bca hx
        refine Ev.call (args := [(2, v2), (0, u102)]) (S2 := [(0, u101)]) (r1 := (some (0, u103.1))) (h1 := u103.2) (i := .invokevirtual 246) (by decide +kernel) rfl rfl (Nat.le_of_ble_eq_true rfl) (Or.inr (Or.inl ⟨rfl, hg, by decide +kernel⟩)) (x_R_proof (by omega) hc) ?_
        obtain ⟨ha, hb⟩ := bite hx
        clear hx
        refine Ev.br (i := .if_icmp .eq 546) (len := 3) (a := 1500) (b := 957) (by decide +kernel) rfl Iff.rfl (fun hc => ?_) (fun hc => ?_)
        · have hx := ha hc
          clear ha hb hc
          refine Ev.blk (is := [.iinc 3 6]) (pc2 := 1503) (L2 := [(4, 1), (2, v1), (2, v2), (0, w32 (v3 + 6))]) (S2 := []) (h2 := u103.2) (by decide +kernel) rfl trivial ?_
          refine Ev.jp (i := .goto (-1485)) (len := 3) (pc2 := 18) (by decide +kernel) rfl ?_
          exact ih v1 v2 (w32 (v3 + 6)) u103.2 _ hx
        · have hx := hb hc
          clear ha hb hc
          refine Ev.blk (is := [.iconst 0]) (pc2 := 958) (L2 := [(4, 1), (2, v1), (2, v2), (0, v3)]) (S2 := [(0, 0)]) (h2 := u103.2) (by decide +kernel) rfl trivial ?_
          cases hx
          exact Ev.ret (i := .ireturn) (len := 1) (by decide +kernel) rfl (finOf (t := some .boolean) rfl (bz0))
      have hx := hb hc22
      clear ha hb
      obtain ⟨ha, hb⟩ := bite hx
      clear hx
      by_cases hc23 : andI u1 63 = 23
      · have hx := ha hc23
        clear ha hb
        refine Ev.jp (i := .tableswitch 1467 0 39 #[175, 208, 271, 294, 307, 350, 429, 488, 521, 544, 567, 580, 593, 626, 695, 709, 733, 756, 780, 803, 836, 870, 903, 926, 959, 992, 1025, 1048, 1071, 1104, 1127, 1160, 1193, 1226, 1259, 1302, 1335, 1368, 1421, 1444]) (len := 175) (pc2 := 959) (by decide +kernel) (by rw [hc23]; rfl) ?_
        clear hc23
        obtain ⟨u104, hg, he, hx⟩ := bgd hx
        refine Ev.blk (is := [.aload_n 1, .aload_n 0, .iload_n 3, .iconst 1, .iadd, .iaload]) (pc2 := 965) (L2 := [(4, 1), (2, v1), (2, v2), (0, v3)]) (S2 := [(0, u104), (2, v1)]) (h2 := h) (by decide +kernel) (by subst he; rfl) (by exact hg) ?_
        clear hg he
        obtain ⟨u105, hg, he, hx⟩ := bgd hx
        refine Ev.blk (is := [.aload_n 0, .iload_n 3, .iconst 2, .iadd, .iaload]) (pc2 := 970) (L2 := [(4, 1), (2, v1), (2, v2), (0, v3)]) (S2 := [(0, u105), (0, u104), (2, v1)]) (h2 := h) (by decide +kernel) (by subst he; rfl) (by exact hg) ?_
        clear hg he
        obtain ⟨_, hg, -, hx⟩ := bgd hx
        obtain ⟨u106, hc, hx⟩ := bca hx
        refine Ev.call (args := [(2, v1), (0, u104), (0, u105)]) (S2 := []) (r1 := (some (0, u106.1))) (h1 := u106.2) (i := .invokevirtual 133) (by decide +kernel) rfl rfl (Nat.le_of_ble_eq_true rfl) (Or.inr (Or.inl ⟨rfl, hg, by decide +kernel⟩)) (x_X_prime (by omega) hc) ?_
        obtain ⟨u107, hg, he, hx⟩ := bgd hx
        refine Ev.blk (is := [.aload_n 2, .aload_n 0, .iload_n 3, .iconst 1, .iadd, .iaload]) (pc2 := 979) (L2 := [(4, 1), (2, v1), (2, v2), (0, v3)]) (S2 := [(0, u107), (2, v2), (0, u106.1)]) (h2 := u106.2) (by decide +kernel) (by subst he; rfl) (by exact hg) ?_
        clear hg he
        obtain ⟨u108, hg, he, hx⟩ := bgd hx
        refine Ev.blk (is := [.aload_n 0, .iload_n 3, .iconst 2, .iadd, .iaload]) (pc2 := 984) (L2 := [(4, 1), (2, v1), (2, v2), (0, v3)]) (S2 := [(0, u108), (0, u107), (2, v2), (0, u106.1)]) (h2 := u106.2) (by decide +kernel) (by subst he; rfl) (by exact hg) ?_
        clear hg he
        obtain ⟨_, hg, -, hx⟩ := bgd hx
        obtain ⟨u109, hc, hx⟩ := bca hx
        refine Ev.call (args := [(2, v2), (0, u107), (0, u108)]) (S2 := [(0, u106.1)]) (r1 := (some (0, u109.1))) (h1 := u109.2) (i := .invokevirtual 247) (by decide +kernel) rfl rfl (Nat.le_of_ble_eq_true rfl) (Or.inr (Or.inl ⟨rfl, hg, by decide +kernel⟩)) (x_R_prime (by omega) hc) ?_
        obtain ⟨ha, hb⟩ := bite hx
        clear hx
        refine Ev.br (i := .if_icmp .eq 513) (len := 3) (a := 1500) (b := 990) (by decide +kernel) rfl Iff.rfl (fun hc => ?_) (fun hc => ?_)
        · have hx := ha hc
          clear ha hb hc
          refine Ev.blk (is := [.iinc 3 6]) (pc2 := 1503) (L2 := [(4, 1), (2, v1), (2, v2), (0, w32 (v3 + 6))]) (S2 := []) (h2 := u109.2) (by decide +kernel) rfl trivial ?_
          refine Ev.jp (i := .goto (-1485)) (len := 3) (pc2 := 18) (by decide +kernel) rfl ?_
          exact ih v1 v2 (w32 (v3 + 6)) u109.2 _ hx
        · have hx := hb hc
          clear ha hb hc
          refine Ev.blk (is := [.iconst 0]) (pc2 := 991) (L2 := [(4, 1), (2, v1), (2, v2), (0, v3)]) (S2 := [(0, 0)]) (h2 := u109.2) (by decide +kernel) rfl trivial ?_
          cases hx
          exact Ev.ret (i := .ireturn) (len := 1) (by decide +kernel) rfl (finOf (t := some .boolean) rfl (bz0))
      have hx := hb hc23
      clear ha hb
      obtain ⟨ha, hb⟩ := bite hx
      clear hx
      by_cases hc24 : andI u1 63 = 24
      · have hx := ha hc24
        clear ha hb
        refine Ev.jp (i := .tableswitch 1467 0 39 #[175, 208, 271, 294, 307, 350, 429, 488, 521, 544, 567, 580, 593, 626, 695, 709, 733, 756, 780, 803, 836, 870, 903, 926, 959, 992, 1025, 1048, 1071, 1104, 1127, 1160, 1193, 1226, 1259, 1302, 1335, 1368, 1421, 1444]) (len := 175) (pc2 := 992) (by decide +kernel) (by rw [hc24]; rfl) ?_
        clear hc24
        obtain ⟨u110, hg, he, hx⟩ := bgd hx
        refine Ev.blk (is := [.aload_n 1, .aload_n 0, .iload_n 3, .iconst 1, .iadd, .iaload]) (pc2 := 998) (L2 := [(4, 1), (2, v1), (2, v2), (0, v3)]) (S2 := [(0, u110), (2, v1)]) (h2 := h) (by decide +kernel) (by subst he; rfl) (by exact hg) ?_
        clear hg he
        obtain ⟨u111, hg, he, hx⟩ := bgd hx
        refine Ev.blk (is := [.aload_n 0, .iload_n 3, .iconst 2, .iadd, .iaload]) (pc2 := 1003) (L2 := [(4, 1), (2, v1), (2, v2), (0, v3)]) (S2 := [(0, u111), (0, u110), (2, v1)]) (h2 := h) (by decide +kernel) (by subst he; rfl) (by exact hg) ?_
        clear hg he
        obtain ⟨_, hg, -, hx⟩ := bgd hx
        obtain ⟨u112, hc, hx⟩ := bca hx
        refine Ev.call (args := [(2, v1), (0, u110), (0, u111)]) (S2 := []) (r1 := (some (0, u112))) (h1 := h) (i := .invokevirtual 134) (by decide +kernel) rfl rfl (Nat.le_of_ble_eq_true rfl) (Or.inr (Or.inl ⟨rfl, hg, by decide +kernel⟩)) (x_X_often (by omega) hc) ?_
        obtain ⟨u113, hg, he, hx⟩ := bgd hx
        refine Ev.blk (is := [.aload_n 2, .aload_n 0, .iload_n 3, .iconst 1, .iadd, .iaload]) (pc2 := 1012) (L2 := [(4, 1), (2, v1), (2, v2), (0, v3)]) (S2 := [(0, u113), (2, v2), (0, u112)]) (h2 := h) (by decide +kernel) (by subst he; rfl) (by exact hg) ?_
        clear hg he
        obtain ⟨u114, hg, he, hx⟩ := bgd hx
        refine Ev.blk (is := [.aload_n 0, .iload_n 3, .iconst 2, .iadd, .iaload]) (pc2 := 1017) (L2 := [(4, 1), (2, v1), (2, v2), (0, v3)]) (S2 := [(0, u114), (0, u113), (2, v2), (0, u112)]) (h2 := h) (by decide +kernel) (by subst he; rfl) (by exact hg) ?_
        clear hg he
        obtain ⟨_, hg, -, hx⟩ := bgd hx
        obtain ⟨u115, hc, hx⟩ := bca hx
        refine Ev.call (args := [(2, v2), (0, u113), (0, u114)]) (S2 := [(0, u112)]) (r1 := (some (0, u115))) (h1 := h) (i := .invokevirtual 248) (by decide +kernel) rfl rfl (Nat.le_of_ble_eq_true rfl) (Or.inr (Or.inl ⟨rfl, hg, by decide +kernel⟩)) (x_R_often (by omega) hc) ?_
        obtain ⟨ha, hb⟩ := bite hx
        clear hx
        refine Ev.br (i := .if_icmp .eq 480) (len := 3) (a := 1500) (b := 1023) (by decide +kernel) rfl Iff.rfl (fun hc => ?_) (fun hc => ?_)
        · have hx := ha hc
          clear ha hb hc
          refine Ev.blk (is := [.iinc 3 6]) (pc2 := 1503) (L2 := [(4, 1), (2, v1), (2, v2), (0, w32 (v3 + 6))]) (S2 := []) (h2 := h) (by decide +kernel) rfl trivial ?_
          refine Ev.jp (i := .goto (-1485)) (len := 3) (pc2 := 18) (by decide +kernel) rfl ?_
          exact ih v1 v2 (w32 (v3 + 6)) h _ hx
        · have hx := hb hc
          clear ha hb hc
          refine Ev.blk (is := [.iconst 0]) (pc2 := 1024) (L2 := [(4, 1), (2, v1), (2, v2), (0, v3)]) (S2 := [(0, 0)]) (h2 := h) (by decide +kernel) rfl trivial ?_
          cases hx
          exact Ev.ret (i := .ireturn) (len := 1) (by decide +kernel) rfl (finOf (t := some .boolean) rfl (bz0))
      have hx := hb hc24
      clear ha hb
      obtain ⟨ha, hb⟩ := bite hx
      clear hx
      by_cases hc25 : andI u1 63 = 25
      · have hx := ha hc25
        clear ha hb
        refine Ev.jp (i := .tableswitch 1467 0 39 #[175, 208, 271, 294, 307, 350, 429, 488, 521, 544, 567, 580, 593, 626, 695, 709, 733, 756, 780, 803, 836, 870, 903, 926, 959, 992, 1025, 1048, 1071, 1104, 1127, 1160, 1193, 1226, 1259, 1302, 1335, 1368, 1421, 1444]) (len := 175) (pc2 := 1025) (by decide +kernel) (by rw [hc25]; rfl) ?_
        clear hc25
        obtain ⟨u116, hg, he, hx⟩ := bgd hx
        refine Ev.blk (is := [.aload_n 1, .aload_n 0, .iload_n 3, .iconst 1, .iadd, .iaload]) (pc2 := 1031) (L2 := [(4, 1), (2, v1), (2, v2), (0, v3)]) (S2 := [(0, u116), (2, v1)]) (h2 := h) (by decide +kernel) (by subst he; rfl) (by exact hg) ?_
        clear hg he
        obtain ⟨u117, hg, he, hx⟩ := bgd hx
        refine Ev.blk (is := [.aload_n 0, .iload_n 3, .iconst 2, .iadd, .iaload]) (pc2 := 1036) (L2 := [(4, 1), (2, v1), (2, v2), (0, v3)]) (S2 := [(0, u117), (0, u116), (2, v1)]) (h2 := h) (by decide +kernel) (by subst he; rfl) (by exact hg) ?_
        clear hg he
        obtain ⟨_, hg, -, hx⟩ := bgd hx
        obtain ⟨u118, hc, hx⟩ := bca hx
        refine Ev.call (args := [(2, v1), (0, u116), (0, u117)]) (S2 := []) (r1 := (some (0, u118.1))) (h1 := u118.2) (i := .invokevirtual 135) (by decide +kernel) rfl rfl (Nat.le_of_ble_eq_true rfl) (Or.inr (Or.inl ⟨rfl, hg, by decide +kernel⟩)) (x_X_needs (by omega) hc) ?_
        obtain ⟨u119, hg, he, hx⟩ := bgd hx
        refine Ev.blk (is := [.aload_n 2, .aload_n 0, .iload_n 3, .iconst 1, .iadd, .iaload]) (pc2 := 1045) (L2 := [(4, 1), (2, v1), (2, v2), (0, v3)]) (S2 := [(0, u119), (2, v2), (0, u118.1)]) (h2 := u118.2) (by decide +kernel) (by subst he; rfl) (by exact hg) ?_
        clear hg he
        obtain ⟨u120, hg, he, hx⟩ := bgd hx
        refine Ev.blk (is := [.aload_n 0, .iload_n 3, .iconst 2, .iadd, .iaload]) (pc2 := 1050) (L2 := [(4, 1), (2, v1), (2, v2), (0, v3)]) (S2 := [(0, u120), (0, u119), (2, v2), (0, u118.1)]) (h2 := u118.2) (by decide +kernel) (by subst he; rfl) (by exact hg) ?_
        clear hg he
        obtain ⟨_, hg, -, hx⟩ := bgd hx
        obtain ⟨u121, hc, hx⟩ := bca hx
        refine Ev.call (args := [(2, v2), (0, u119), (0, u120)]) (S2 := [(0, u118.1)]) (r1 := (some (0, u121.1))) (h1 := u121.2) (i := .invokevirtual 199) (by decide +kernel) rfl rfl (Nat.le_of_ble_eq_true rfl) (Or.inr (Or.inl ⟨rfl, hg, by decide +kernel⟩)) (x_R_needs (by omega) hc) ?_
        obtain ⟨ha, hb⟩ := bite hx
        clear hx
        refine Ev.br (i := .if_icmp .eq 447) (len := 3) (a := 1500) (b := 1056) (by decide +kernel) rfl Iff.rfl (fun hc => ?_) (fun hc => ?_)
        · have hx := ha hc
          clear ha hb hc
          refine Ev.blk (is := [.iinc 3 6]) (pc2 := 1503) (L2 := [(4, 1), (2, v1), (2, v2), (0, w32 (v3 + 6))]) (S2 := []) (h2 := u121.2) (by decide +kernel) rfl trivial ?_
          refine Ev.jp (i := .goto (-1485)) (len := 3) (pc2 := 18) (by decide +kernel) rfl ?_
          exact ih v1 v2 (w32 (v3 + 6)) u121.2 _ hx
        · have hx := hb hc
          clear ha hb hc
          refine Ev.blk (is := [.iconst 0]) (pc2 := 1057) (L2 := [(4, 1), (2, v1), (2, v2), (0, v3)]) (S2 := [(0, 0)]) (h2 := u121.2) (by decide +kernel) rfl trivial ?_
          cases hx
          exact Ev.ret (i := .ireturn) (len := 1) (by decide +kernel) rfl (finOf (t := some .boolean) rfl (bz0))
      have hx := hb hc25
      clear ha hb
      obtain ⟨ha, hb⟩ := bite hx
      clear hx
      by_cases hc26 : andI u1 63 = 26
      · have hx := ha hc26
        clear ha hb
        refine Ev.jp (i := .tableswitch 1467 0 39 #[175, 208, 271, 294, 307, 350, 429, 488, 521, 544, 567, 580, 593, 626, 695, 709, 733, 756, 780, 803, 836, 870, 903, 926, 959, 992, 1025, 1048, 1071, 1104, 1127, 1160, 1193, 1226, 1259, 1302, 1335, 1368, 1421, 1444]) (len := 175) (pc2 := 1058) (by decide +kernel) (by rw [hc26]; rfl) ?_
        clear hc26
        obtain ⟨u122, hg, he, hx⟩ := bgd hx
        refine Ev.blk (is := [.aload_n 1, .aload_n 0, .iload_n 3, .iconst 1, .iadd, .iaload]) (pc2 := 1064) (L2 := [(4, 1), (2, v1), (2, v2), (0, v3)]) (S2 := [(0, u122), (2, v1)]) (h2 := h) (by decide +kernel) (by subst he; rfl) (by exact hg) ?_
        clear hg he
        obtain ⟨_, hg, -, hx⟩ := bgd hx
        obtain ⟨u123, hc, hx⟩ := bca hx
        refine Ev.call (args := [(2, v1), (0, u122)]) (S2 := []) (r1 := (some (0, u123.1))) (h1 := u123.2) (i := .invokevirtual 136) (by decide +kernel) rfl rfl (Nat.le_of_ble_eq_true rfl) (Or.inr (Or.inl ⟨rfl, hg, by decide +kernel⟩)) (x_X_fewest (by omega) hc) ?_
        obtain ⟨u124, hg, he, hx⟩ := bgd hx
        refine Ev.blk (is := [.aload_n 2, .aload_n 0, .iload_n 3, .iconst 1, .iadd, .iaload]) (pc2 := 1073) (L2 := [(4, 1), (2, v1), (2, v2), (0, v3)]) (S2 := [(0, u124), (2, v2), (0, u123.1)]) (h2 := u123.2) (by decide +kernel) (by subst he; rfl) (by exact hg) ?_
        clear hg he
        obtain ⟨_, hg, -, hx⟩ := bgd hx
        obtain ⟨u125, hc, hx⟩ := bca hx
        refine Ev.call (args := [(2, v2), (0, u124)]) (S2 := [(0, u123.1)]) (r1 := (some (0, u125.1))) (h1 := u125.2) (i := .invokevirtual 200) (by decide +kernel) rfl rfl (Nat.le_of_ble_eq_true rfl) (Or.inr (Or.inl ⟨rfl, hg, by decide +kernel⟩)) (x_R_fewest (by omega) hc) ?_
        obtain ⟨ha, hb⟩ := bite hx
        clear hx
        refine Ev.br (i := .if_icmp .eq 424) (len := 3) (a := 1500) (b := 1079) (by decide +kernel) rfl Iff.rfl (fun hc => ?_) (fun hc => ?_)
        · have hx := ha hc
          clear ha hb hc
          refine Ev.blk (is := [.iinc 3 6]) (pc2 := 1503) (L2 := [(4, 1), (2, v1), (2, v2), (0, w32 (v3 + 6))]) (S2 := []) (h2 := u125.2) (by decide +kernel) rfl trivial ?_
          refine Ev.jp (i := .goto (-1485)) (len := 3) (pc2 := 18) (by decide +kernel) rfl ?_
          exact ih v1 v2 (w32 (v3 + 6)) u125.2 _ hx
        · have hx := hb hc
          clear ha hb hc
          refine Ev.blk (is := [.iconst 0]) (pc2 := 1080) (L2 := [(4, 1), (2, v1), (2, v2), (0, v3)]) (S2 := [(0, 0)]) (h2 := u125.2) (by decide +kernel) rfl trivial ?_
          cases hx
          exact Ev.ret (i := .ireturn) (len := 1) (by decide +kernel) rfl (finOf (t := some .boolean) rfl (bz0))
      have hx := hb hc26
      clear ha hb
      obtain ⟨ha, hb⟩ := bite hx
      clear hx
      by_cases hc27 : andI u1 63 = 27
      · have hx := ha hc27
        clear ha hb
        refine Ev.jp (i := .tableswitch 1467 0 39 #[175, 208, 271, 294, 307, 350, 429, 488, 521, 544, 567, 580, 593, 626, 695, 709, 733, 756, 780, 803, 836, 870, 903, 926, 959, 992, 1025, 1048, 1071, 1104, 1127, 1160, 1193, 1226, 1259, 1302, 1335, 1368, 1421, 1444]) (len := 175) (pc2 := 1081) (by decide +kernel) (by rw [hc27]; rfl) ?_
        clear hc27
        obtain ⟨u126, hg, he, hx⟩ := bgd hx
        refine Ev.blk (is := [.aload_n 1, .aload_n 0, .iload_n 3, .iconst 1, .iadd, .iaload]) (pc2 := 1087) (L2 := [(4, 1), (2, v1), (2, v2), (0, v3)]) (S2 := [(0, u126), (2, v1)]) (h2 := h) (by decide +kernel) (by subst he; rfl) (by exact hg) ?_
        clear hg he
        obtain ⟨_, hg, -, hx⟩ := bgd hx
        obtain ⟨u127, hc, hx⟩ := bca hx
        refine Ev.call (args := [(2, v1), (0, u126)]) (S2 := []) (r1 := (some (0, u127))) (h1 := h) (i := .invokevirtual 137) (by decide +kernel) rfl rfl (Nat.le_of_ble_eq_true rfl) (Or.inr (Or.inl ⟨rfl, hg, by decide +kernel⟩)) (x_X_next (by omega) hc) ?_
        obtain ⟨u128, hg, he, hx⟩ := bgd hx
        refine Ev.blk (is := [.aload_n 2, .aload_n 0, .iload_n 3, .iconst 1, .iadd, .iaload]) (pc2 := 1096) (L2 := [(4, 1), (2, v1), (2, v2), (0, v3)]) (S2 := [(0, u128), (2, v2), (0, u127)]) (h2 := h) (by decide +kernel) (by subst he; rfl) (by exact hg) ?_
        clear hg he
        obtain ⟨_, hg, -, hx⟩ := bgd hx
        obtain ⟨u129, hc, hx⟩ := bca hx
        refine Ev.call (args := [(2, v2), (0, u128)]) (S2 := [(0, u127)]) (r1 := (some (0, u129))) (h1 := h) (i := .invokevirtual 249) (by decide +kernel) rfl rfl (Nat.le_of_ble_eq_true rfl) (Or.inr (Or.inl ⟨rfl, hg, by decide +kernel⟩)) (x_R_next (by omega) hc) ?_
        obtain ⟨ha, hb⟩ := bite hx
        clear hx
        refine Ev.br (i := .if_icmp .eq 401) (len := 3) (a := 1500) (b := 1102) (by decide +kernel) rfl Iff.rfl (fun hc => ?_) (fun hc => ?_)
        · have hx := ha hc
          clear ha hb hc
          refine Ev.blk (is := [.iinc 3 6]) (pc2 := 1503) (L2 := [(4, 1), (2, v1), (2, v2), (0, w32 (v3 + 6))]) (S2 := []) (h2 := h) (by decide +kernel) rfl trivial ?_
          refine Ev.jp (i := .goto (-1485)) (len := 3) (pc2 := 18) (by decide +kernel) rfl ?_
          exact ih v1 v2 (w32 (v3 + 6)) h _ hx
        · have hx := hb hc
          clear ha hb hc
          refine Ev.blk (is := [.iconst 0]) (pc2 := 1103) (L2 := [(4, 1), (2, v1), (2, v2), (0, v3)]) (S2 := [(0, 0)]) (h2 := h) (by decide +kernel) rfl trivial ?_
          cases hx
          exact Ev.ret (i := .ireturn) (len := 1) (by decide +kernel) rfl (finOf (t := some .boolean) rfl (bz0))
      have hx := hb hc27
      clear ha hb
      obtain ⟨ha, hb⟩ := bite hx
      clear hx
      by_cases hc28 : andI u1 63 = 28
      · have hx := ha hc28
        clear ha hb
        refine Ev.jp (i := .tableswitch 1467 0 39 #[175, 208, 271, 294, 307, 350, 429, 488, 521, 544, 567, 580, 593, 626, 695, 709, 733, 756, 780, 803, 836, 870, 903, 926, 959, 992, 1025, 1048, 1071, 1104, 1127, 1160, 1193, 1226, 1259, 1302, 1335, 1368, 1421, 1444]) (len := 175) (pc2 := 1104) (by decide +kernel) (by rw [hc28]; rfl) ?_
        clear hc28
        obtain ⟨u130, hg, he, hx⟩ := bgd hx
        refine Ev.blk (is := [.aload_n 1, .aload_n 0, .iload_n 3, .iconst 1, .iadd, .iaload]) (pc2 := 1110) (L2 := [(4, 1), (2, v1), (2, v2), (0, v3)]) (S2 := [(0, u130), (2, v1)]) (h2 := h) (by decide +kernel) (by subst he; rfl) (by exact hg) ?_
        clear hg he
        obtain ⟨u131, hg, he, hx⟩ := bgd hx
        refine Ev.blk (is := [.aload_n 0, .iload_n 3, .iconst 2, .iadd, .iaload]) (pc2 := 1115) (L2 := [(4, 1), (2, v1), (2, v2), (0, v3)]) (S2 := [(0, u131), (0, u130), (2, v1)]) (h2 := h) (by decide +kernel) (by subst he; rfl) (by exact hg) ?_
        clear hg he
        obtain ⟨_, hg, -, hx⟩ := bgd hx
        obtain ⟨u132, hc, hx⟩ := bca hx
        refine Ev.call (args := [(2, v1), (0, u130), (0, u131)]) (S2 := []) (r1 := (some (0, u132.1))) (h1 := u132.2) (i := .invokevirtual 138) (by decide +kernel) rfl rfl (Nat.le_of_ble_eq_true rfl) (Or.inr (Or.inl ⟨rfl, hg, by decide +kernel⟩)) (x_X_smooth (by omega) hc) ?_
        obtain ⟨u133, hg, he, hx⟩ := bgd hx
        refine Ev.blk (is := [.aload_n 2, .aload_n 0, .iload_n 3, .iconst 1, .iadd, .iaload]) (pc2 := 1124) (L2 := [(4, 1), (2, v1), (2, v2), (0, v3)]) (S2 := [(0, u133), (2, v2), (0, u132.1)]) (h2 := u132.2) (by decide +kernel) (by subst he; rfl) (by exact hg) ?_
        clear hg he
        obtain ⟨u134, hg, he, hx⟩ := bgd hx
        refine Ev.blk (is := [.aload_n 0, .iload_n 3, .iconst 2, .iadd, .iaload]) (pc2 := 1129) (L2 := [(4, 1), (2, v1), (2, v2), (0, v3)]) (S2 := [(0, u134), (0, u133), (2, v2), (0, u132.1)]) (h2 := u132.2) (by decide +kernel) (by subst he; rfl) (by exact hg) ?_
        clear hg he
        obtain ⟨_, hg, -, hx⟩ := bgd hx
        obtain ⟨u135, hc, hx⟩ := bca hx
        refine Ev.call (args := [(2, v2), (0, u133), (0, u134)]) (S2 := [(0, u132.1)]) (r1 := (some (0, u135.1))) (h1 := u135.2) (i := .invokevirtual 250) (by decide +kernel) rfl rfl (Nat.le_of_ble_eq_true rfl) (Or.inr (Or.inl ⟨rfl, hg, by decide +kernel⟩)) (x_R_smooth (by omega) hc) ?_
        obtain ⟨ha, hb⟩ := bite hx
        clear hx
        refine Ev.br (i := .if_icmp .eq 368) (len := 3) (a := 1500) (b := 1135) (by decide +kernel) rfl Iff.rfl (fun hc => ?_) (fun hc => ?_)
        · have hx := ha hc
          clear ha hb hc
          refine Ev.blk (is := [.iinc 3 6]) (pc2 := 1503) (L2 := [(4, 1), (2, v1), (2, v2), (0, w32 (v3 + 6))]) (S2 := []) (h2 := u135.2) (by decide +kernel) rfl trivial ?_
          refine Ev.jp (i := .goto (-1485)) (len := 3) (pc2 := 18) (by decide +kernel) rfl ?_
          exact ih v1 v2 (w32 (v3 + 6)) u135.2 _ hx
        · have hx := hb hc
          clear ha hb hc
          refine Ev.blk (is := [.iconst 0]) (pc2 := 1136) (L2 := [(4, 1), (2, v1), (2, v2), (0, v3)]) (S2 := [(0, 0)]) (h2 := u135.2) (by decide +kernel) rfl trivial ?_
          cases hx
          exact Ev.ret (i := .ireturn) (len := 1) (by decide +kernel) rfl (finOf (t := some .boolean) rfl (bz0))
      have hx := hb hc28
      clear ha hb
      obtain ⟨ha, hb⟩ := bite hx
      clear hx
      by_cases hc29 : andI u1 63 = 29
      · have hx := ha hc29
        clear ha hb
        refine Ev.jp (i := .tableswitch 1467 0 39 #[175, 208, 271, 294, 307, 350, 429, 488, 521, 544, 567, 580, 593, 626, 695, 709, 733, 756, 780, 803, 836, 870, 903, 926, 959, 992, 1025, 1048, 1071, 1104, 1127, 1160, 1193, 1226, 1259, 1302, 1335, 1368, 1421, 1444]) (len := 175) (pc2 := 1137) (by decide +kernel) (by rw [hc29]; rfl) ?_
        clear hc29
        obtain ⟨u136, hg, he, hx⟩ := bgd hx
        refine Ev.blk (is := [.aload_n 1, .aload_n 0, .iload_n 3, .iconst 1, .iadd, .iaload]) (pc2 := 1143) (L2 := [(4, 1), (2, v1), (2, v2), (0, v3)]) (S2 := [(0, u136), (2, v1)]) (h2 := h) (by decide +kernel) (by subst he; rfl) (by exact hg) ?_
        clear hg he
        obtain ⟨_, hg, -, hx⟩ := bgd hx
        obtain ⟨u137, hc, hx⟩ := bca hx
        refine Ev.call (args := [(2, v1), (0, u136)]) (S2 := []) (r1 := (some (0, u137.1))) (h1 := u137.2) (i := .invokevirtual 140) (by decide +kernel) rfl rfl (Nat.le_of_ble_eq_true rfl) (Or.inr (Or.inl ⟨rfl, hg, by decide +kernel⟩)) (x_X_bound (by omega) hc) ?_
        obtain ⟨u138, hg, he, hx⟩ := bgd hx
        refine Ev.blk (is := [.aload_n 2, .aload_n 0, .iload_n 3, .iconst 1, .iadd, .iaload]) (pc2 := 1152) (L2 := [(4, 1), (2, v1), (2, v2), (0, v3)]) (S2 := [(0, u138), (2, v2), (0, u137.1)]) (h2 := u137.2) (by decide +kernel) (by subst he; rfl) (by exact hg) ?_
        clear hg he
        obtain ⟨_, hg, -, hx⟩ := bgd hx
        obtain ⟨u139, hc, hx⟩ := bca hx
        refine Ev.call (args := [(2, v2), (0, u138)]) (S2 := [(0, u137.1)]) (r1 := (some (0, u139.1))) (h1 := u139.2) (i := .invokevirtual 252) (by decide +kernel) rfl rfl (Nat.le_of_ble_eq_true rfl) (Or.inr (Or.inl ⟨rfl, hg, by decide +kernel⟩)) (x_R_bound (by omega) hc) ?_
        obtain ⟨ha, hb⟩ := bite hx
        clear hx
        refine Ev.br (i := .if_icmp .eq 345) (len := 3) (a := 1500) (b := 1158) (by decide +kernel) rfl Iff.rfl (fun hc => ?_) (fun hc => ?_)
        · have hx := ha hc
          clear ha hb hc
          refine Ev.blk (is := [.iinc 3 6]) (pc2 := 1503) (L2 := [(4, 1), (2, v1), (2, v2), (0, w32 (v3 + 6))]) (S2 := []) (h2 := u139.2) (by decide +kernel) rfl trivial ?_
          refine Ev.jp (i := .goto (-1485)) (len := 3) (pc2 := 18) (by decide +kernel) rfl ?_
          exact ih v1 v2 (w32 (v3 + 6)) u139.2 _ hx
        · have hx := hb hc
          clear ha hb hc
          refine Ev.blk (is := [.iconst 0]) (pc2 := 1159) (L2 := [(4, 1), (2, v1), (2, v2), (0, v3)]) (S2 := [(0, 0)]) (h2 := u139.2) (by decide +kernel) rfl trivial ?_
          cases hx
          exact Ev.ret (i := .ireturn) (len := 1) (by decide +kernel) rfl (finOf (t := some .boolean) rfl (bz0))
      have hx := hb hc29
      clear ha hb
      obtain ⟨ha, hb⟩ := bite hx
      clear hx
      by_cases hc30 : andI u1 63 = 30
      · have hx := ha hc30
        clear ha hb
        refine Ev.jp (i := .tableswitch 1467 0 39 #[175, 208, 271, 294, 307, 350, 429, 488, 521, 544, 567, 580, 593, 626, 695, 709, 733, 756, 780, 803, 836, 870, 903, 926, 959, 992, 1025, 1048, 1071, 1104, 1127, 1160, 1193, 1226, 1259, 1302, 1335, 1368, 1421, 1444]) (len := 175) (pc2 := 1160) (by decide +kernel) (by rw [hc30]; rfl) ?_
        clear hc30
        obtain ⟨u140, hg, he, hx⟩ := bgd hx
        refine Ev.blk (is := [.aload_n 1, .aload_n 0, .iload_n 3, .iconst 1, .iadd, .iaload]) (pc2 := 1166) (L2 := [(4, 1), (2, v1), (2, v2), (0, v3)]) (S2 := [(0, u140), (2, v1)]) (h2 := h) (by decide +kernel) (by subst he; rfl) (by exact hg) ?_
        clear hg he
        obtain ⟨u141, hg, he, hx⟩ := bgd hx
        refine Ev.blk (is := [.aload_n 0, .iload_n 3, .iconst 2, .iadd, .iaload]) (pc2 := 1171) (L2 := [(4, 1), (2, v1), (2, v2), (0, v3)]) (S2 := [(0, u141), (0, u140), (2, v1)]) (h2 := h) (by decide +kernel) (by subst he; rfl) (by exact hg) ?_
        clear hg he
        obtain ⟨_, hg, -, hx⟩ := bgd hx
        obtain ⟨u142, hc, hx⟩ := bca hx
        refine Ev.call (args := [(2, v1), (0, u140), (0, u141)]) (S2 := []) (r1 := (some (0, u142))) (h1 := h) (i := .invokevirtual 141) (by decide +kernel) rfl rfl (Nat.le_of_ble_eq_true rfl) (Or.inr (Or.inl ⟨rfl, hg, by decide +kernel⟩)) (x_X_chase (by omega) hc) ?_
        obtain ⟨u143, hg, he, hx⟩ := bgd hx
        refine Ev.blk (is := [.aload_n 2, .aload_n 0, .iload_n 3, .iconst 1, .iadd, .iaload]) (pc2 := 1180) (L2 := [(4, 1), (2, v1), (2, v2), (0, v3)]) (S2 := [(0, u143), (2, v2), (0, u142)]) (h2 := h) (by decide +kernel) (by subst he; rfl) (by exact hg) ?_
        clear hg he
        obtain ⟨u144, hg, he, hx⟩ := bgd hx
        refine Ev.blk (is := [.aload_n 0, .iload_n 3, .iconst 2, .iadd, .iaload]) (pc2 := 1185) (L2 := [(4, 1), (2, v1), (2, v2), (0, v3)]) (S2 := [(0, u144), (0, u143), (2, v2), (0, u142)]) (h2 := h) (by decide +kernel) (by subst he; rfl) (by exact hg) ?_
        clear hg he
        obtain ⟨_, hg, -, hx⟩ := bgd hx
        obtain ⟨u145, hc, hx⟩ := bca hx
        refine Ev.call (args := [(2, v2), (0, u143), (0, u144)]) (S2 := [(0, u142)]) (r1 := (some (0, u145))) (h1 := h) (i := .invokevirtual 253) (by decide +kernel) rfl rfl (Nat.le_of_ble_eq_true rfl) (Or.inr (Or.inl ⟨rfl, hg, by decide +kernel⟩)) (x_R_chase (by omega) hc) ?_
        obtain ⟨ha, hb⟩ := bite hx
        clear hx
        refine Ev.br (i := .if_icmp .eq 312) (len := 3) (a := 1500) (b := 1191) (by decide +kernel) rfl Iff.rfl (fun hc => ?_) (fun hc => ?_)
        · have hx := ha hc
          clear ha hb hc
          refine Ev.blk (is := [.iinc 3 6]) (pc2 := 1503) (L2 := [(4, 1), (2, v1), (2, v2), (0, w32 (v3 + 6))]) (S2 := []) (h2 := h) (by decide +kernel) rfl trivial ?_
          refine Ev.jp (i := .goto (-1485)) (len := 3) (pc2 := 18) (by decide +kernel) rfl ?_
          exact ih v1 v2 (w32 (v3 + 6)) h _ hx
        · have hx := hb hc
          clear ha hb hc
          refine Ev.blk (is := [.iconst 0]) (pc2 := 1192) (L2 := [(4, 1), (2, v1), (2, v2), (0, v3)]) (S2 := [(0, 0)]) (h2 := h) (by decide +kernel) rfl trivial ?_
          cases hx
          exact Ev.ret (i := .ireturn) (len := 1) (by decide +kernel) rfl (finOf (t := some .boolean) rfl (bz0))
      have hx := hb hc30
      clear ha hb
      obtain ⟨ha, hb⟩ := bite hx
      clear hx
      by_cases hc31 : andI u1 63 = 31
      · have hx := ha hc31
        clear ha hb
        refine Ev.jp (i := .tableswitch 1467 0 39 #[175, 208, 271, 294, 307, 350, 429, 488, 521, 544, 567, 580, 593, 626, 695, 709, 733, 756, 780, 803, 836, 870, 903, 926, 959, 992, 1025, 1048, 1071, 1104, 1127, 1160, 1193, 1226, 1259, 1302, 1335, 1368, 1421, 1444]) (len := 175) (pc2 := 1193) (by decide +kernel) (by rw [hc31]; rfl) ?_
        clear hc31
        obtain ⟨u146, hg, he, hx⟩ := bgd hx
        refine Ev.blk (is := [.aload_n 1, .aload_n 0, .iload_n 3, .iconst 1, .iadd, .iaload]) (pc2 := 1199) (L2 := [(4, 1), (2, v1), (2, v2), (0, v3)]) (S2 := [(0, u146), (2, v1)]) (h2 := h) (by decide +kernel) (by subst he; rfl) (by exact hg) ?_
        clear hg he
        obtain ⟨u147, hg, he, hx⟩ := bgd hx
        refine Ev.blk (is := [.aload_n 0, .iload_n 3, .iconst 2, .iadd, .iaload]) (pc2 := 1204) (L2 := [(4, 1), (2, v1), (2, v2), (0, v3)]) (S2 := [(0, u147), (0, u146), (2, v1)]) (h2 := h) (by decide +kernel) (by subst he; rfl) (by exact hg) ?_
        clear hg he
        obtain ⟨_, hg, -, hx⟩ := bgd hx
        obtain ⟨u148, hc, hx⟩ := bca hx
        refine Ev.call (args := [(2, v1), (0, u146), (0, u147)]) (S2 := []) (r1 := (some (0, u148))) (h1 := h) (i := .invokevirtual 143) (by decide +kernel) rfl rfl (Nat.le_of_ble_eq_true rfl) (Or.inr (Or.inl ⟨rfl, hg, by decide +kernel⟩)) (x_X_primes (by omega) hc) ?_
        obtain ⟨u149, hg, he, hx⟩ := bgd hx
        refine Ev.blk (is := [.aload_n 2, .aload_n 0, .iload_n 3, .iconst 1, .iadd, .iaload]) (pc2 := 1213) (L2 := [(4, 1), (2, v1), (2, v2), (0, v3)]) (S2 := [(0, u149), (2, v2), (0, u148)]) (h2 := h) (by decide +kernel) (by subst he; rfl) (by exact hg) ?_
        clear hg he
        obtain ⟨u150, hg, he, hx⟩ := bgd hx
        refine Ev.blk (is := [.aload_n 0, .iload_n 3, .iconst 2, .iadd, .iaload]) (pc2 := 1218) (L2 := [(4, 1), (2, v1), (2, v2), (0, v3)]) (S2 := [(0, u150), (0, u149), (2, v2), (0, u148)]) (h2 := h) (by decide +kernel) (by subst he; rfl) (by exact hg) ?_
        clear hg he
        obtain ⟨_, hg, -, hx⟩ := bgd hx
        obtain ⟨u151, hc, hx⟩ := bca hx
        refine Ev.call (args := [(2, v2), (0, u149), (0, u150)]) (S2 := [(0, u148)]) (r1 := (some (0, u151))) (h1 := h) (i := .invokevirtual 254) (by decide +kernel) rfl rfl (Nat.le_of_ble_eq_true rfl) (Or.inr (Or.inl ⟨rfl, hg, by decide +kernel⟩)) (x_R_primes (by omega) hc) ?_
        obtain ⟨ha, hb⟩ := bite hx
        clear hx
        refine Ev.br (i := .if_icmp .eq 279) (len := 3) (a := 1500) (b := 1224) (by decide +kernel) rfl Iff.rfl (fun hc => ?_) (fun hc => ?_)
        · have hx := ha hc
          clear ha hb hc
          refine Ev.blk (is := [.iinc 3 6]) (pc2 := 1503) (L2 := [(4, 1), (2, v1), (2, v2), (0, w32 (v3 + 6))]) (S2 := []) (h2 := h) (by decide +kernel) rfl trivial ?_
          refine Ev.jp (i := .goto (-1485)) (len := 3) (pc2 := 18) (by decide +kernel) rfl ?_
          exact ih v1 v2 (w32 (v3 + 6)) h _ hx
        · have hx := hb hc
          clear ha hb hc
          refine Ev.blk (is := [.iconst 0]) (pc2 := 1225) (L2 := [(4, 1), (2, v1), (2, v2), (0, v3)]) (S2 := [(0, 0)]) (h2 := h) (by decide +kernel) rfl trivial ?_
          cases hx
          exact Ev.ret (i := .ireturn) (len := 1) (by decide +kernel) rfl (finOf (t := some .boolean) rfl (bz0))
      have hx := hb hc31
      clear ha hb
      obtain ⟨ha, hb⟩ := bite hx
      clear hx
      by_cases hc32 : andI u1 63 = 32
      · have hx := ha hc32
        clear ha hb
        refine Ev.jp (i := .tableswitch 1467 0 39 #[175, 208, 271, 294, 307, 350, 429, 488, 521, 544, 567, 580, 593, 626, 695, 709, 733, 756, 780, 803, 836, 870, 903, 926, 959, 992, 1025, 1048, 1071, 1104, 1127, 1160, 1193, 1226, 1259, 1302, 1335, 1368, 1421, 1444]) (len := 175) (pc2 := 1226) (by decide +kernel) (by rw [hc32]; rfl) ?_
        clear hc32
        obtain ⟨u152, hg, he, hx⟩ := bgd hx
        refine Ev.blk (is := [.aload_n 1, .aload_n 0, .iload_n 3, .iconst 1, .iadd, .iaload]) (pc2 := 1232) (L2 := [(4, 1), (2, v1), (2, v2), (0, v3)]) (S2 := [(0, u152), (2, v1)]) (h2 := h) (by decide +kernel) (by subst he; rfl) (by exact hg) ?_
        clear hg he
        obtain ⟨u153, hg, he, hx⟩ := bgd hx
        refine Ev.blk (is := [.aload_n 0, .iload_n 3, .iconst 2, .iadd, .iaload]) (pc2 := 1237) (L2 := [(4, 1), (2, v1), (2, v2), (0, v3)]) (S2 := [(0, u153), (0, u152), (2, v1)]) (h2 := h) (by decide +kernel) (by subst he; rfl) (by exact hg) ?_
        clear hg he
        obtain ⟨_, hg, -, hx⟩ := bgd hx
        obtain ⟨u154, hc, hx⟩ := bca hx
        refine Ev.call (args := [(2, v1), (0, u152), (0, u153)]) (S2 := []) (r1 := (some (0, u154))) (h1 := h) (i := .invokevirtual 144) (by decide +kernel) rfl rfl (Nat.le_of_ble_eq_true rfl) (Or.inr (Or.inl ⟨rfl, hg, by decide +kernel⟩)) (x_X_passes (by omega) hc) ?_
        obtain ⟨u155, hg, he, hx⟩ := bgd hx
        refine Ev.blk (is := [.aload_n 2, .aload_n 0, .iload_n 3, .iconst 1, .iadd, .iaload]) (pc2 := 1246) (L2 := [(4, 1), (2, v1), (2, v2), (0, v3)]) (S2 := [(0, u155), (2, v2), (0, u154)]) (h2 := h) (by decide +kernel) (by subst he; rfl) (by exact hg) ?_
        clear hg he
        obtain ⟨u156, hg, he, hx⟩ := bgd hx
        refine Ev.blk (is := [.aload_n 0, .iload_n 3, .iconst 2, .iadd, .iaload]) (pc2 := 1251) (L2 := [(4, 1), (2, v1), (2, v2), (0, v3)]) (S2 := [(0, u156), (0, u155), (2, v2), (0, u154)]) (h2 := h) (by decide +kernel) (by subst he; rfl) (by exact hg) ?_
        clear hg he
        obtain ⟨_, hg, -, hx⟩ := bgd hx
        obtain ⟨u157, hc, hx⟩ := bca hx
        refine Ev.call (args := [(2, v2), (0, u155), (0, u156)]) (S2 := [(0, u154)]) (r1 := (some (0, u157))) (h1 := h) (i := .invokevirtual 255) (by decide +kernel) rfl rfl (Nat.le_of_ble_eq_true rfl) (Or.inr (Or.inl ⟨rfl, hg, by decide +kernel⟩)) (x_R_passes (by omega) hc) ?_
        obtain ⟨ha, hb⟩ := bite hx
        clear hx
        refine Ev.br (i := .if_icmp .eq 246) (len := 3) (a := 1500) (b := 1257) (by decide +kernel) rfl Iff.rfl (fun hc => ?_) (fun hc => ?_)
        · have hx := ha hc
          clear ha hb hc
          refine Ev.blk (is := [.iinc 3 6]) (pc2 := 1503) (L2 := [(4, 1), (2, v1), (2, v2), (0, w32 (v3 + 6))]) (S2 := []) (h2 := h) (by decide +kernel) rfl trivial ?_
          refine Ev.jp (i := .goto (-1485)) (len := 3) (pc2 := 18) (by decide +kernel) rfl ?_
          exact ih v1 v2 (w32 (v3 + 6)) h _ hx
        · have hx := hb hc
          clear ha hb hc
          refine Ev.blk (is := [.iconst 0]) (pc2 := 1258) (L2 := [(4, 1), (2, v1), (2, v2), (0, v3)]) (S2 := [(0, 0)]) (h2 := h) (by decide +kernel) rfl trivial ?_
          cases hx
          exact Ev.ret (i := .ireturn) (len := 1) (by decide +kernel) rfl (finOf (t := some .boolean) rfl (bz0))
      have hx := hb hc32
      clear ha hb
      obtain ⟨ha, hb⟩ := bite hx
      clear hx
      by_cases hc33 : andI u1 63 = 33
      · have hx := ha hc33
        clear ha hb
        refine Ev.jp (i := .tableswitch 1467 0 39 #[175, 208, 271, 294, 307, 350, 429, 488, 521, 544, 567, 580, 593, 626, 695, 709, 733, 756, 780, 803, 836, 870, 903, 926, 959, 992, 1025, 1048, 1071, 1104, 1127, 1160, 1193, 1226, 1259, 1302, 1335, 1368, 1421, 1444]) (len := 175) (pc2 := 1259) (by decide +kernel) (by rw [hc33]; rfl) ?_
        clear hc33
        obtain ⟨u158, hg, he, hx⟩ := bgd hx
        refine Ev.blk (is := [.aload_n 1, .aload_n 0, .iload_n 3, .iconst 1, .iadd, .iaload]) (pc2 := 1265) (L2 := [(4, 1), (2, v1), (2, v2), (0, v3)]) (S2 := [(0, u158), (2, v1)]) (h2 := h) (by decide +kernel) (by subst he; rfl) (by exact hg) ?_
        clear hg he
        obtain ⟨u159, hg, he, hx⟩ := bgd hx
        refine Ev.blk (is := [.aload_n 0, .iload_n 3, .iconst 2, .iadd, .iaload]) (pc2 := 1270) (L2 := [(4, 1), (2, v1), (2, v2), (0, v3)]) (S2 := [(0, u159), (0, u158), (2, v1)]) (h2 := h) (by decide +kernel) (by subst he; rfl) (by exact hg) ?_
        clear hg he
        obtain ⟨_, hg, -, hx⟩ := bgd hx
        obtain ⟨u160, hc, hx⟩ := bca hx
        refine Ev.call (args := [(2, v1), (0, u158), (0, u159)]) (S2 := []) (r1 := (some (0, u160))) (h1 := h) (i := .invokevirtual 146) (by decide +kernel) rfl rfl (Nat.le_of_ble_eq_true rfl) (Or.inr (Or.inl ⟨rfl, hg, by decide +kernel⟩)) (x_X_fools (by omega) hc) ?_
        obtain ⟨u161, hg, he, hx⟩ := bgd hx
        refine Ev.blk (is := [.aload_n 2, .aload_n 0, .iload_n 3, .iconst 1, .iadd, .iaload]) (pc2 := 1279) (L2 := [(4, 1), (2, v1), (2, v2), (0, v3)]) (S2 := [(0, u161), (2, v2), (0, u160)]) (h2 := h) (by decide +kernel) (by subst he; rfl) (by exact hg) ?_
        clear hg he
        obtain ⟨u162, hg, he, hx⟩ := bgd hx
        refine Ev.blk (is := [.aload_n 0, .iload_n 3, .iconst 2, .iadd, .iaload]) (pc2 := 1284) (L2 := [(4, 1), (2, v1), (2, v2), (0, v3)]) (S2 := [(0, u162), (0, u161), (2, v2), (0, u160)]) (h2 := h) (by decide +kernel) (by subst he; rfl) (by exact hg) ?_
        clear hg he
        obtain ⟨_, hg, -, hx⟩ := bgd hx
        obtain ⟨u163, hc, hx⟩ := bca hx
        refine Ev.call (args := [(2, v2), (0, u161), (0, u162)]) (S2 := [(0, u160)]) (r1 := (some (0, u163))) (h1 := h) (i := .invokevirtual 258) (by decide +kernel) rfl rfl (Nat.le_of_ble_eq_true rfl) (Or.inr (Or.inl ⟨rfl, hg, by decide +kernel⟩)) (x_R_fools (by omega) hc) ?_
        obtain ⟨ha, hb⟩ := bite hx
        clear hx
        refine Ev.br (i := .if_icmp .eq 213) (len := 3) (a := 1500) (b := 1290) (by decide +kernel) rfl Iff.rfl (fun hc => ?_) (fun hc => ?_)
        · have hx := ha hc
          clear ha hb hc
          refine Ev.blk (is := [.iinc 3 6]) (pc2 := 1503) (L2 := [(4, 1), (2, v1), (2, v2), (0, w32 (v3 + 6))]) (S2 := []) (h2 := h) (by decide +kernel) rfl trivial ?_
          refine Ev.jp (i := .goto (-1485)) (len := 3) (pc2 := 18) (by decide +kernel) rfl ?_
          exact ih v1 v2 (w32 (v3 + 6)) h _ hx
        · have hx := hb hc
          clear ha hb hc
          refine Ev.blk (is := [.iconst 0]) (pc2 := 1291) (L2 := [(4, 1), (2, v1), (2, v2), (0, v3)]) (S2 := [(0, 0)]) (h2 := h) (by decide +kernel) rfl trivial ?_
          cases hx
          exact Ev.ret (i := .ireturn) (len := 1) (by decide +kernel) rfl (finOf (t := some .boolean) rfl (bz0))
      have hx := hb hc33
      clear ha hb
      obtain ⟨ha, hb⟩ := bite hx
      clear hx
      by_cases hc34 : andI u1 63 = 34
      · have hx := ha hc34
        clear ha hb
        refine Ev.jp (i := .tableswitch 1467 0 39 #[175, 208, 271, 294, 307, 350, 429, 488, 521, 544, 567, 580, 593, 626, 695, 709, 733, 756, 780, 803, 836, 870, 903, 926, 959, 992, 1025, 1048, 1071, 1104, 1127, 1160, 1193, 1226, 1259, 1302, 1335, 1368, 1421, 1444]) (len := 175) (pc2 := 1292) (by decide +kernel) (by rw [hc34]; rfl) ?_
        clear hc34
        obtain ⟨u164, hg, he, hx⟩ := bgd hx
        refine Ev.blk (is := [.aload_n 1, .aload_n 0, .iload_n 3, .iconst 1, .iadd, .iaload]) (pc2 := 1298) (L2 := [(4, 1), (2, v1), (2, v2), (0, v3)]) (S2 := [(0, u164), (2, v1)]) (h2 := h) (by decide +kernel) (by subst he; rfl) (by exact hg) ?_
        clear hg he
        obtain ⟨u165, hg, he, hx⟩ := bgd hx
        refine Ev.blk (is := [.aload_n 0, .iload_n 3, .iconst 2, .iadd, .iaload]) (pc2 := 1303) (L2 := [(4, 1), (2, v1), (2, v2), (0, v3)]) (S2 := [(0, u165), (0, u164), (2, v1)]) (h2 := h) (by decide +kernel) (by subst he; rfl) (by exact hg) ?_
        clear hg he
        obtain ⟨u166, hg, he, hx⟩ := bgd hx
        refine Ev.blk (is := [.aload_n 0, .iload_n 3, .iconst 3, .iadd, .iaload]) (pc2 := 1308) (L2 := [(4, 1), (2, v1), (2, v2), (0, v3)]) (S2 := [(0, u166), (0, u165), (0, u164), (2, v1)]) (h2 := h) (by decide +kernel) (by subst he; rfl) (by exact hg) ?_
        clear hg he
        obtain ⟨_, hg, -, hx⟩ := bgd hx
        obtain ⟨u167, hc, hx⟩ := bca hx
        refine Ev.call (args := [(2, v1), (0, u164), (0, u165), (0, u166)]) (S2 := []) (r1 := (some (0, u167))) (h1 := h) (i := .invokevirtual 147) (by decide +kernel) rfl rfl (Nat.le_of_ble_eq_true rfl) (Or.inr (Or.inl ⟨rfl, hg, by decide +kernel⟩)) (x_X_power (by omega) hc) ?_
        obtain ⟨u168, hg, he, hx⟩ := bgd hx
        refine Ev.blk (is := [.aload_n 2, .aload_n 0, .iload_n 3, .iconst 1, .iadd, .iaload]) (pc2 := 1317) (L2 := [(4, 1), (2, v1), (2, v2), (0, v3)]) (S2 := [(0, u168), (2, v2), (0, u167)]) (h2 := h) (by decide +kernel) (by subst he; rfl) (by exact hg) ?_
        clear hg he
        obtain ⟨u169, hg, he, hx⟩ := bgd hx
        refine Ev.blk (is := [.aload_n 0, .iload_n 3, .iconst 2, .iadd, .iaload]) (pc2 := 1322) (L2 := [(4, 1), (2, v1), (2, v2), (0, v3)]) (S2 := [(0, u169), (0, u168), (2, v2), (0, u167)]) (h2 := h) (by decide +kernel) (by subst he; rfl) (by exact hg) ?_
        clear hg he
        obtain ⟨u170, hg, he, hx⟩ := bgd hx
        refine Ev.blk (is := [.aload_n 0, .iload_n 3, .iconst 3, .iadd, .iaload]) (pc2 := 1327) (L2 := [(4, 1), (2, v1), (2, v2), (0, v3)]) (S2 := [(0, u170), (0, u169), (0, u168), (2, v2), (0, u167)]) (h2 := h) (by decide +kernel) (by subst he; rfl) (by exact hg) ?_
        clear hg he
        obtain ⟨_, hg, -, hx⟩ := bgd hx
        obtain ⟨u171, hc, hx⟩ := bca hx
        refine Ev.call (args := [(2, v2), (0, u168), (0, u169), (0, u170)]) (S2 := [(0, u167)]) (r1 := (some (0, u171))) (h1 := h) (i := .invokevirtual 259) (by decide +kernel) rfl rfl (Nat.le_of_ble_eq_true rfl) (Or.inr (Or.inl ⟨rfl, hg, by decide +kernel⟩)) (x_R_power (by omega) hc) ?_
        obtain ⟨ha, hb⟩ := bite hx
        clear hx
        refine Ev.br (i := .if_icmp .eq 170) (len := 3) (a := 1500) (b := 1333) (by decide +kernel) rfl Iff.rfl (fun hc => ?_) (fun hc => ?_)
        · have hx := ha hc
          clear ha hb hc
          refine Ev.blk (is := [.iinc 3 6]) (pc2 := 1503) (L2 := [(4, 1), (2, v1), (2, v2), (0, w32 (v3 + 6))]) (S2 := []) (h2 := h) (by decide +kernel) rfl trivial ?_
          refine Ev.jp (i := .goto (-1485)) (len := 3) (pc2 := 18) (by decide +kernel) rfl ?_
          exact ih v1 v2 (w32 (v3 + 6)) h _ hx
        · have hx := hb hc
          clear ha hb hc
          refine Ev.blk (is := [.iconst 0]) (pc2 := 1334) (L2 := [(4, 1), (2, v1), (2, v2), (0, v3)]) (S2 := [(0, 0)]) (h2 := h) (by decide +kernel) rfl trivial ?_
          cases hx
          exact Ev.ret (i := .ireturn) (len := 1) (by decide +kernel) rfl (finOf (t := some .boolean) rfl (bz0))
      have hx := hb hc34
      clear ha hb
      obtain ⟨ha, hb⟩ := bite hx
      clear hx
      by_cases hc35 : andI u1 63 = 35
      · have hx := ha hc35
        clear ha hb
        refine Ev.jp (i := .tableswitch 1467 0 39 #[175, 208, 271, 294, 307, 350, 429, 488, 521, 544, 567, 580, 593, 626, 695, 709, 733, 756, 780, 803, 836, 870, 903, 926, 959, 992, 1025, 1048, 1071, 1104, 1127, 1160, 1193, 1226, 1259, 1302, 1335, 1368, 1421, 1444]) (len := 175) (pc2 := 1335) (by decide +kernel) (by rw [hc35]; rfl) ?_
        clear hc35
        obtain ⟨u172, hg, he, hx⟩ := bgd hx
        refine Ev.blk (is := [.aload_n 1, .aload_n 0, .iload_n 3, .iconst 1, .iadd, .iaload]) (pc2 := 1341) (L2 := [(4, 1), (2, v1), (2, v2), (0, v3)]) (S2 := [(0, u172), (2, v1)]) (h2 := h) (by decide +kernel) (by subst he; rfl) (by exact hg) ?_
        clear hg he
        obtain ⟨u173, hg, he, hx⟩ := bgd hx
        refine Ev.blk (is := [.aload_n 0, .iload_n 3, .iconst 2, .iadd, .iaload]) (pc2 := 1346) (L2 := [(4, 1), (2, v1), (2, v2), (0, v3)]) (S2 := [(0, u173), (0, u172), (2, v1)]) (h2 := h) (by decide +kernel) (by subst he; rfl) (by exact hg) ?_
        clear hg he
        obtain ⟨_, hg, -, hx⟩ := bgd hx
        obtain ⟨u174, hc, hx⟩ := bca hx
        refine Ev.call (args := [(2, v1), (0, u172), (0, u173)]) (S2 := []) (r1 := (some (0, u174.1))) (h1 := u174.2) (i := .invokevirtual 148) (by decide +kernel) rfl rfl (Nat.le_of_ble_eq_true rfl) (Or.inr (Or.inl ⟨rfl, hg, by decide +kernel⟩)) (x_X_order (by omega) hc) ?_
        obtain ⟨u175, hg, he, hx⟩ := bgd hx
        refine Ev.blk (is := [.aload_n 2, .aload_n 0, .iload_n 3, .iconst 1, .iadd, .iaload]) (pc2 := 1355) (L2 := [(4, 1), (2, v1), (2, v2), (0, v3)]) (S2 := [(0, u175), (2, v2), (0, u174.1)]) (h2 := u174.2) (by decide +kernel) (by subst he; rfl) (by exact hg) ?_
        clear hg he
        obtain ⟨u176, hg, he, hx⟩ := bgd hx
        refine Ev.blk (is := [.aload_n 0, .iload_n 3, .iconst 2, .iadd, .iaload]) (pc2 := 1360) (L2 := [(4, 1), (2, v1), (2, v2), (0, v3)]) (S2 := [(0, u176), (0, u175), (2, v2), (0, u174.1)]) (h2 := u174.2) (by decide +kernel) (by subst he; rfl) (by exact hg) ?_
        clear hg he
        obtain ⟨_, hg, -, hx⟩ := bgd hx
        obtain ⟨u177, hc, hx⟩ := bca hx
        refine Ev.call (args := [(2, v2), (0, u175), (0, u176)]) (S2 := [(0, u174.1)]) (r1 := (some (0, u177))) (h1 := u174.2) (i := .invokevirtual 260) (by decide +kernel) rfl rfl (Nat.le_of_ble_eq_true rfl) (Or.inr (Or.inl ⟨rfl, hg, by decide +kernel⟩)) (x_R_order (by omega) hc) ?_
        obtain ⟨ha, hb⟩ := bite hx
        clear hx
        refine Ev.br (i := .if_icmp .eq 137) (len := 3) (a := 1500) (b := 1366) (by decide +kernel) rfl Iff.rfl (fun hc => ?_) (fun hc => ?_)
        · have hx := ha hc
          clear ha hb hc
          refine Ev.blk (is := [.iinc 3 6]) (pc2 := 1503) (L2 := [(4, 1), (2, v1), (2, v2), (0, w32 (v3 + 6))]) (S2 := []) (h2 := u174.2) (by decide +kernel) rfl trivial ?_
          refine Ev.jp (i := .goto (-1485)) (len := 3) (pc2 := 18) (by decide +kernel) rfl ?_
          exact ih v1 v2 (w32 (v3 + 6)) u174.2 _ hx
        · have hx := hb hc
          clear ha hb hc
          refine Ev.blk (is := [.iconst 0]) (pc2 := 1367) (L2 := [(4, 1), (2, v1), (2, v2), (0, v3)]) (S2 := [(0, 0)]) (h2 := u174.2) (by decide +kernel) rfl trivial ?_
          cases hx
          exact Ev.ret (i := .ireturn) (len := 1) (by decide +kernel) rfl (finOf (t := some .boolean) rfl (bz0))
      have hx := hb hc35
      clear ha hb
      obtain ⟨ha, hb⟩ := bite hx
      clear hx
      by_cases hc36 : andI u1 63 = 36
      · have hx := ha hc36
        clear ha hb
        refine Ev.jp (i := .tableswitch 1467 0 39 #[175, 208, 271, 294, 307, 350, 429, 488, 521, 544, 567, 580, 593, 626, 695, 709, 733, 756, 780, 803, 836, 870, 903, 926, 959, 992, 1025, 1048, 1071, 1104, 1127, 1160, 1193, 1226, 1259, 1302, 1335, 1368, 1421, 1444]) (len := 175) (pc2 := 1368) (by decide +kernel) (by rw [hc36]; rfl) ?_
        clear hc36
        obtain ⟨u178, hg, he, hx⟩ := bgd hx
        refine Ev.blk (is := [.aload_n 1, .aload_n 0, .iload_n 3, .iconst 1, .iadd, .iaload]) (pc2 := 1374) (L2 := [(4, 1), (2, v1), (2, v2), (0, v3)]) (S2 := [(0, u178), (2, v1)]) (h2 := h) (by decide +kernel) (by subst he; rfl) (by exact hg) ?_
        clear hg he
        obtain ⟨u179, hg, he, hx⟩ := bgd hx
        refine Ev.blk (is := [.aload_n 0, .iload_n 3, .iconst 2, .iadd, .iaload]) (pc2 := 1379) (L2 := [(4, 1), (2, v1), (2, v2), (0, v3)]) (S2 := [(0, u179), (0, u178), (2, v1)]) (h2 := h) (by decide +kernel) (by subst he; rfl) (by exact hg) ?_
        clear hg he
        obtain ⟨_, hg, -, hx⟩ := bgd hx
        obtain ⟨u180, hc, hx⟩ := bca hx
        refine Ev.call (args := [(2, v1), (0, u178), (0, u179)]) (S2 := []) (r1 := (some (0, u180))) (h1 := h) (i := .invokevirtual 151) (by decide +kernel) rfl rfl (Nat.le_of_ble_eq_true rfl) (Or.inr (Or.inl ⟨rfl, hg, by decide +kernel⟩)) (x_X_jacobi (by omega) hc) ?_
        obtain ⟨u181, hg, he, hx⟩ := bgd hx
        refine Ev.blk (is := [.aload_n 2, .aload_n 0, .iload_n 3, .iconst 1, .iadd, .iaload]) (pc2 := 1388) (L2 := [(4, 1), (2, v1), (2, v2), (0, v3)]) (S2 := [(0, u181), (2, v2), (0, u180)]) (h2 := h) (by decide +kernel) (by subst he; rfl) (by exact hg) ?_
        clear hg he
        obtain ⟨u182, hg, he, hx⟩ := bgd hx
        refine Ev.blk (is := [.aload_n 0, .iload_n 3, .iconst 2, .iadd, .iaload]) (pc2 := 1393) (L2 := [(4, 1), (2, v1), (2, v2), (0, v3)]) (S2 := [(0, u182), (0, u181), (2, v2), (0, u180)]) (h2 := h) (by decide +kernel) (by subst he; rfl) (by exact hg) ?_
        clear hg he
        obtain ⟨_, hg, -, hx⟩ := bgd hx
        obtain ⟨u183, hc, hx⟩ := bca hx
        refine Ev.call (args := [(2, v2), (0, u181), (0, u182)]) (S2 := [(0, u180)]) (r1 := (some (0, u183))) (h1 := h) (i := .invokevirtual 261) (by decide +kernel) rfl rfl (Nat.le_of_ble_eq_true rfl) (Or.inr (Or.inl ⟨rfl, hg, by decide +kernel⟩)) (x_R_jacobi (by omega) hc) ?_
        obtain ⟨ha, hb⟩ := bite hx
        clear hx
        refine Ev.br (i := .if_icmp .eq 104) (len := 3) (a := 1500) (b := 1399) (by decide +kernel) rfl Iff.rfl (fun hc => ?_) (fun hc => ?_)
        · have hx := ha hc
          clear ha hb hc
          refine Ev.blk (is := [.iinc 3 6]) (pc2 := 1503) (L2 := [(4, 1), (2, v1), (2, v2), (0, w32 (v3 + 6))]) (S2 := []) (h2 := h) (by decide +kernel) rfl trivial ?_
          refine Ev.jp (i := .goto (-1485)) (len := 3) (pc2 := 18) (by decide +kernel) rfl ?_
          exact ih v1 v2 (w32 (v3 + 6)) h _ hx
        · have hx := hb hc
          clear ha hb hc
          refine Ev.blk (is := [.iconst 0]) (pc2 := 1400) (L2 := [(4, 1), (2, v1), (2, v2), (0, v3)]) (S2 := [(0, 0)]) (h2 := h) (by decide +kernel) rfl trivial ?_
          cases hx
          exact Ev.ret (i := .ireturn) (len := 1) (by decide +kernel) rfl (finOf (t := some .boolean) rfl (bz0))
      have hx := hb hc36
      clear ha hb
      obtain ⟨ha, hb⟩ := bite hx
      clear hx
      by_cases hc37 : andI u1 63 = 37
      · have hx := ha hc37
        clear ha hb
        refine Ev.jp (i := .tableswitch 1467 0 39 #[175, 208, 271, 294, 307, 350, 429, 488, 521, 544, 567, 580, 593, 626, 695, 709, 733, 756, 780, 803, 836, 870, 903, 926, 959, 992, 1025, 1048, 1071, 1104, 1127, 1160, 1193, 1226, 1259, 1302, 1335, 1368, 1421, 1444]) (len := 175) (pc2 := 1401) (by decide +kernel) (by rw [hc37]; rfl) ?_
        clear hc37
        obtain ⟨u184, hg, he, hx⟩ := bgd hx
        refine Ev.blk (is := [.aload_n 1, .aload_n 0, .iload_n 3, .iconst 1, .iadd, .iaload]) (pc2 := 1407) (L2 := [(4, 1), (2, v1), (2, v2), (0, v3)]) (S2 := [(0, u184), (2, v1)]) (h2 := h) (by decide +kernel) (by subst he; rfl) (by exact hg) ?_
        clear hg he
        obtain ⟨u185, hg, he, hx⟩ := bgd hx
        refine Ev.blk (is := [.aload_n 0, .iload_n 3, .iconst 2, .iadd, .iaload]) (pc2 := 1412) (L2 := [(4, 1), (2, v1), (2, v2), (0, v3)]) (S2 := [(0, u185), (0, u184), (2, v1)]) (h2 := h) (by decide +kernel) (by subst he; rfl) (by exact hg) ?_
        clear hg he
        obtain ⟨u186, hg, he, hx⟩ := bgd hx
        refine Ev.blk (is := [.aload_n 0, .iload_n 3, .iconst 3, .iadd, .iaload]) (pc2 := 1417) (L2 := [(4, 1), (2, v1), (2, v2), (0, v3)]) (S2 := [(0, u186), (0, u185), (0, u184), (2, v1)]) (h2 := h) (by decide +kernel) (by subst he; rfl) (by exact hg) ?_
        clear hg he
        obtain ⟨u187, hg, he, hx⟩ := bgd hx
        refine Ev.blk (is := [.aload_n 0, .iload_n 3, .iconst 4, .iadd, .iaload]) (pc2 := 1422) (L2 := [(4, 1), (2, v1), (2, v2), (0, v3)]) (S2 := [(0, u187), (0, u186), (0, u185), (0, u184), (2, v1)]) (h2 := h) (by decide +kernel) (by subst he; rfl) (by exact hg) ?_
        clear hg he
        obtain ⟨_, hg, -, hx⟩ := bgd hx
        obtain ⟨u188, hc, hx⟩ := bca hx
        refine Ev.call (args := [(2, v1), (0, u184), (0, u185), (0, u186), (0, u187)]) (S2 := []) (r1 := (some (0, u188))) (h1 := h) (i := .invokevirtual 152) (by decide +kernel) rfl rfl (Nat.le_of_ble_eq_true rfl) (Or.inr (Or.inl ⟨rfl, hg, by decide +kernel⟩)) (x_X_u (by omega) hc) ?_
        obtain ⟨u189, hg, he, hx⟩ := bgd hx
        refine Ev.blk (is := [.aload_n 2, .aload_n 0, .iload_n 3, .iconst 1, .iadd, .iaload]) (pc2 := 1431) (L2 := [(4, 1), (2, v1), (2, v2), (0, v3)]) (S2 := [(0, u189), (2, v2), (0, u188)]) (h2 := h) (by decide +kernel) (by subst he; rfl) (by exact hg) ?_
        clear hg he
        obtain ⟨u190, hg, he, hx⟩ := bgd hx
        refine Ev.blk (is := [.aload_n 0, .iload_n 3, .iconst 2, .iadd, .iaload]) (pc2 := 1436) (L2 := [(4, 1), (2, v1), (2, v2), (0, v3)]) (S2 := [(0, u190), (0, u189), (2, v2), (0, u188)]) (h2 := h) (by decide +kernel) (by subst he; rfl) (by exact hg) ?_
        clear hg he
        obtain ⟨u191, hg, he, hx⟩ := bgd hx
        refine Ev.blk (is := [.aload_n 0, .iload_n 3, .iconst 3, .iadd, .iaload]) (pc2 := 1441) (L2 := [(4, 1), (2, v1), (2, v2), (0, v3)]) (S2 := [(0, u191), (0, u190), (0, u189), (2, v2), (0, u188)]) (h2 := h) (by decide +kernel) (by subst he; rfl) (by exact hg) ?_
        clear hg he
        obtain ⟨u192, hg, he, hx⟩ := bgd hx
        refine Ev.blk (is := [.aload_n 0, .iload_n 3, .iconst 4, .iadd, .iaload]) (pc2 := 1446) (L2 := [(4, 1), (2, v1), (2, v2), (0, v3)]) (S2 := [(0, u192), (0, u191), (0, u190), (0, u189), (2, v2), (0, u188)]) (h2 := h) (by decide +kernel) (by subst he; rfl) (by exact hg) ?_
        clear hg he
        obtain ⟨_, hg, -, hx⟩ := bgd hx
        obtain ⟨u193, hc, hx⟩ := bca hx
        refine Ev.call (args := [(2, v2), (0, u189), (0, u190), (0, u191), (0, u192)]) (S2 := [(0, u188)]) (r1 := (some (0, u193.1))) (h1 := u193.2) (i := .invokevirtual 262) (by decide +kernel) rfl rfl (Nat.le_of_ble_eq_true rfl) (Or.inr (Or.inl ⟨rfl, hg, by decide +kernel⟩)) (x_R_u (by omega) hc) ?_
        obtain ⟨ha, hb⟩ := bite hx
        clear hx
        refine Ev.br (i := .if_icmp .eq 51) (len := 3) (a := 1500) (b := 1452) (by decide +kernel) rfl Iff.rfl (fun hc => ?_) (fun hc => ?_)
        · have hx := ha hc
          clear ha hb hc
          refine Ev.blk (is := [.iinc 3 6]) (pc2 := 1503) (L2 := [(4, 1), (2, v1), (2, v2), (0, w32 (v3 + 6))]) (S2 := []) (h2 := u193.2) (by decide +kernel) rfl trivial ?_
          refine Ev.jp (i := .goto (-1485)) (len := 3) (pc2 := 18) (by decide +kernel) rfl ?_
          exact ih v1 v2 (w32 (v3 + 6)) u193.2 _ hx
        · have hx := hb hc
          clear ha hb hc
          refine Ev.blk (is := [.iconst 0]) (pc2 := 1453) (L2 := [(4, 1), (2, v1), (2, v2), (0, v3)]) (S2 := [(0, 0)]) (h2 := u193.2) (by decide +kernel) rfl trivial ?_
          cases hx
          exact Ev.ret (i := .ireturn) (len := 1) (by decide +kernel) rfl (finOf (t := some .boolean) rfl (bz0))
      have hx := hb hc37
      clear ha hb
      obtain ⟨ha, hb⟩ := bite hx
      clear hx
      by_cases hc38 : andI u1 63 = 38
      · have hx := ha hc38
        clear ha hb
        refine Ev.jp (i := .tableswitch 1467 0 39 #[175, 208, 271, 294, 307, 350, 429, 488, 521, 544, 567, 580, 593, 626, 695, 709, 733, 756, 780, 803, 836, 870, 903, 926, 959, 992, 1025, 1048, 1071, 1104, 1127, 1160, 1193, 1226, 1259, 1302, 1335, 1368, 1421, 1444]) (len := 175) (pc2 := 1454) (by decide +kernel) (by rw [hc38]; rfl) ?_
        clear hc38
        obtain ⟨u194, hg, he, hx⟩ := bgd hx
        refine Ev.blk (is := [.aload_n 1, .aload_n 0, .iload_n 3, .iconst 1, .iadd, .iaload]) (pc2 := 1460) (L2 := [(4, 1), (2, v1), (2, v2), (0, v3)]) (S2 := [(0, u194), (2, v1)]) (h2 := h) (by decide +kernel) (by subst he; rfl) (by exact hg) ?_
        clear hg he
        obtain ⟨_, hg, -, hx⟩ := bgd hx
        obtain ⟨u195, hc, hx⟩ := bca hx
        refine Ev.call (args := [(2, v1), (0, u194)]) (S2 := []) (r1 := (some (0, u195.1))) (h1 := u195.2) (i := .invokevirtual 153) (by decide +kernel) rfl rfl (Nat.le_of_ble_eq_true rfl) (Or.inr (Or.inl ⟨rfl, hg, by decide +kernel⟩)) (x_X_units (by omega) hc) ?_
        obtain ⟨u196, hg, he, hx⟩ := bgd hx
        refine Ev.blk (is := [.aload_n 2, .aload_n 0, .iload_n 3, .iconst 1, .iadd, .iaload]) (pc2 := 1469) (L2 := [(4, 1), (2, v1), (2, v2), (0, v3)]) (S2 := [(0, u196), (2, v2), (0, u195.1)]) (h2 := u195.2) (by decide +kernel) (by subst he; rfl) (by exact hg) ?_
        clear hg he
        obtain ⟨_, hg, -, hx⟩ := bgd hx
        obtain ⟨u197, hc, hx⟩ := bca hx
        refine Ev.call (args := [(2, v2), (0, u196)]) (S2 := [(0, u195.1)]) (r1 := (some (0, u197.1))) (h1 := u197.2) (i := .invokevirtual 263) (by decide +kernel) rfl rfl (Nat.le_of_ble_eq_true rfl) (Or.inr (Or.inl ⟨rfl, hg, by decide +kernel⟩)) (x_R_units (by omega) hc) ?_
        obtain ⟨ha, hb⟩ := bite hx
        clear hx
        refine Ev.br (i := .if_icmp .eq 28) (len := 3) (a := 1500) (b := 1475) (by decide +kernel) rfl Iff.rfl (fun hc => ?_) (fun hc => ?_)
        · have hx := ha hc
          clear ha hb hc
          refine Ev.blk (is := [.iinc 3 6]) (pc2 := 1503) (L2 := [(4, 1), (2, v1), (2, v2), (0, w32 (v3 + 6))]) (S2 := []) (h2 := u197.2) (by decide +kernel) rfl trivial ?_
          refine Ev.jp (i := .goto (-1485)) (len := 3) (pc2 := 18) (by decide +kernel) rfl ?_
          exact ih v1 v2 (w32 (v3 + 6)) u197.2 _ hx
        · have hx := hb hc
          clear ha hb hc
          refine Ev.blk (is := [.iconst 0]) (pc2 := 1476) (L2 := [(4, 1), (2, v1), (2, v2), (0, v3)]) (S2 := [(0, 0)]) (h2 := u197.2) (by decide +kernel) rfl trivial ?_
          cases hx
          exact Ev.ret (i := .ireturn) (len := 1) (by decide +kernel) rfl (finOf (t := some .boolean) rfl (bz0))
      have hx := hb hc38
      clear ha hb
      obtain ⟨ha, hb⟩ := bite hx
      clear hx
      by_cases hc39 : andI u1 63 = 39
      · have hx := ha hc39
        clear ha hb
        refine Ev.jp (i := .tableswitch 1467 0 39 #[175, 208, 271, 294, 307, 350, 429, 488, 521, 544, 567, 580, 593, 626, 695, 709, 733, 756, 780, 803, 836, 870, 903, 926, 959, 992, 1025, 1048, 1071, 1104, 1127, 1160, 1193, 1226, 1259, 1302, 1335, 1368, 1421, 1444]) (len := 175) (pc2 := 1477) (by decide +kernel) (by rw [hc39]; rfl) ?_
        clear hc39
        obtain ⟨u198, hg, he, hx⟩ := bgd hx
        refine Ev.blk (is := [.aload_n 1, .aload_n 0, .iload_n 3, .iconst 1, .iadd, .iaload]) (pc2 := 1483) (L2 := [(4, 1), (2, v1), (2, v2), (0, v3)]) (S2 := [(0, u198), (2, v1)]) (h2 := h) (by decide +kernel) (by subst he; rfl) (by exact hg) ?_
        clear hg he
        obtain ⟨_, hg, -, hx⟩ := bgd hx
        obtain ⟨u199, hc, hx⟩ := bca hx
        refine Ev.call (args := [(2, v1), (0, u198)]) (S2 := []) (r1 := (some (0, u199))) (h1 := h) (i := .invokevirtual 154) (by decide +kernel) rfl rfl (Nat.le_of_ble_eq_true rfl) (Or.inr (Or.inl ⟨rfl, hg, by decide +kernel⟩)) (x_X_count (by omega) hc) ?_
        obtain ⟨u200, hg, he, hx⟩ := bgd hx
        refine Ev.blk (is := [.aload_n 2, .aload_n 0, .iload_n 3, .iconst 1, .iadd, .iaload]) (pc2 := 1492) (L2 := [(4, 1), (2, v1), (2, v2), (0, v3)]) (S2 := [(0, u200), (2, v2), (0, u199)]) (h2 := h) (by decide +kernel) (by subst he; rfl) (by exact hg) ?_
        clear hg he
        obtain ⟨_, hg, -, hx⟩ := bgd hx
        obtain ⟨u201, hc, hx⟩ := bca hx
        refine Ev.call (args := [(2, v2), (0, u200)]) (S2 := [(0, u199)]) (r1 := (some (0, u201.1))) (h1 := u201.2) (i := .invokevirtual 264) (by decide +kernel) rfl rfl (Nat.le_of_ble_eq_true rfl) (Or.inr (Or.inl ⟨rfl, hg, by decide +kernel⟩)) (x_R_count (by omega) hc) ?_
        obtain ⟨ha, hb⟩ := bite hx
        clear hx
        refine Ev.br (i := .if_icmp .eq 5) (len := 3) (a := 1500) (b := 1498) (by decide +kernel) rfl Iff.rfl (fun hc => ?_) (fun hc => ?_)
        · have hx := ha hc
          clear ha hb hc
          refine Ev.blk (is := [.iinc 3 6]) (pc2 := 1503) (L2 := [(4, 1), (2, v1), (2, v2), (0, w32 (v3 + 6))]) (S2 := []) (h2 := u201.2) (by decide +kernel) rfl trivial ?_
          refine Ev.jp (i := .goto (-1485)) (len := 3) (pc2 := 18) (by decide +kernel) rfl ?_
          exact ih v1 v2 (w32 (v3 + 6)) u201.2 _ hx
        · have hx := hb hc
          clear ha hb hc
          refine Ev.blk (is := [.iconst 0]) (pc2 := 1499) (L2 := [(4, 1), (2, v1), (2, v2), (0, v3)]) (S2 := [(0, 0)]) (h2 := u201.2) (by decide +kernel) rfl trivial ?_
          cases hx
          exact Ev.ret (i := .ireturn) (len := 1) (by decide +kernel) rfl (finOf (t := some .boolean) rfl (bz0))
      have hx := hb hc39
      clear ha hb
      refine Ev.jp (i := .tableswitch 1467 0 39 #[175, 208, 271, 294, 307, 350, 429, 488, 521, 544, 567, 580, 593, 626, 695, 709, 733, 756, 780, 803, 836, 870, 903, 926, 959, 992, 1025, 1048, 1071, 1104, 1127, 1160, 1193, 1226, 1259, 1302, 1335, 1368, 1421, 1444]) (len := 175) (pc2 := 1500) (by decide +kernel) (jsw (by omega)) ?_
      clear hc0 hc1 hc2 hc3 hc4 hc5 hc6 hc7 hc8 hc9 hc10 hc11 hc12 hc13 hc14 hc15 hc16 hc17 hc18 hc19 hc20 hc21 hc22 hc23 hc24 hc25 hc26 hc27 hc28 hc29 hc30 hc31 hc32 hc33 hc34 hc35 hc36 hc37 hc38 hc39
      refine Ev.blk (is := [.iinc 3 6]) (pc2 := 1503) (L2 := [(4, 1), (2, v1), (2, v2), (0, w32 (v3 + 6))]) (S2 := []) (h2 := h) (by decide +kernel) rfl trivial ?_
      refine Ev.jp (i := .goto (-1485)) (len := 3) (pc2 := 18) (by decide +kernel) rfl ?_
      exact ih v1 v2 (w32 (v3 + 6)) h _ hx
theorem x_Law_law {sc : AS} {d : Nat} (hd : 54 ≤ d) {h : AH} {r : (Int × AH)} (hx : Law_law sc h = some r) : Runs sc d 265 [(4, 1)] h (some (0, r.1)) r.2 := by
  obtain ⟨d, rfl⟩ : ∃ e, d = e + 1 := ⟨d - 1, by omega⟩
  have hd : 53 ≤ d := by omega
  unfold Law_law at hx
  refine ⟨⟨aM_265, rfl, Nat.le_of_ble_eq_true rfl⟩, ?_⟩
  show Ev sc d 265 0 [(4, 1), (9, 0), (9, 0), (9, 0)] [] h (some (0, r.1)) r.2
  obtain ⟨h1, hg, he, hx⟩ := bgd hx
  refine Ev.blk (is := [.new 8]) (pc2 := 3) (L2 := [(4, 1), (9, 0), (9, 0), (9, 0)]) (S2 := [(2, hNx h)]) (h2 := h1) (by decide +kernel) (by subst he; rfl) (by exact trivial) ?_
  clear hg he
  refine Ev.blk (is := [.dup]) (pc2 := 4) (L2 := [(4, 1), (9, 0), (9, 0), (9, 0)]) (S2 := [(2, hNx h), (2, hNx h)]) (h2 := h1) (by decide +kernel) rfl trivial ?_
  obtain ⟨_, hg, -, hx⟩ := bgd hx
  obtain ⟨h3, hc, hx⟩ := bca hx
  refine Ev.call (args := [(2, hNx h)]) (S2 := [(2, hNx h)]) (r1 := none) (h1 := h3) (i := .invokespecial 0) (by decide +kernel) rfl rfl (Nat.le_of_ble_eq_true rfl) (Or.inr (Or.inr ⟨rfl, _, _, rfl, hg⟩)) (x_X_init (by omega) hc) ?_
  obtain ⟨h4, hg, he, hx⟩ := bgd hx
  refine Ev.blk (is := [.astore_n 1, .new 9]) (pc2 := 11) (L2 := [(4, 1), (2, hNx h), (9, 0), (9, 0)]) (S2 := [(2, hNx h3)]) (h2 := h4) (by decide +kernel) (by subst he; rfl) (by exact trivial) ?_
  clear hg he
  refine Ev.blk (is := [.dup]) (pc2 := 12) (L2 := [(4, 1), (2, hNx h), (9, 0), (9, 0)]) (S2 := [(2, hNx h3), (2, hNx h3)]) (h2 := h4) (by decide +kernel) rfl trivial ?_
  obtain ⟨_, hg, -, hx⟩ := bgd hx
  obtain ⟨h6, hc, hx⟩ := bca hx
  refine Ev.call (args := [(2, hNx h3)]) (S2 := [(2, hNx h3)]) (r1 := none) (h1 := h6) (i := .invokespecial 160) (by decide +kernel) rfl rfl (Nat.le_of_ble_eq_true rfl) (Or.inr (Or.inr ⟨rfl, _, _, rfl, hg⟩)) (x_R_init (by omega) hc) ?_
  refine Ev.blk (is := [.astore_n 2, .iconst 0, .istore_n 3]) (pc2 := 18) (L2 := [(4, 1), (2, hNx h), (2, hNx h3), (0, 0)]) (S2 := []) (h2 := h6) (by decide +kernel) rfl trivial ?_
  exact y_Law_law_18 hd FU (hNx h) (hNx h3) 0 h6 _ hx
