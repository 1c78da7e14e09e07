/-! the methods run as their shallow functions say -/
theorem y_R_isRow_30 {sc : AS} {d : Nat} (hd : 2 ≤ d) : ∀ (s0 : Int) (s1 : Int) (s2 : Int) (h : AH) (r : Int), R_isRow_30 s0 s1 s2 h = some r → Ev sc d 223 30 [(9, 0), (9, 0), (9, 0), (9, 0)] [(0, s0), (1, s1), (1, s2)] h (some (0, r)) h := by
  intro s0 s1 s2 h r hx
  unfold R_isRow_30 at hx
  refine Ev.blk (is := [.iconst 1, .isub, .i2l]) (pc2 := 33) (L2 := [(9, 0), (9, 0), (9, 0), (9, 0)]) (S2 := [(1, w32 (s0 - 1)), (1, s1), (1, s2)]) (h2 := h) (by decide +kernel) rfl trivial ?_
  obtain ⟨u1, hc, hx⟩ := bca hx
  refine Ev.call (args := [(1, s2), (1, s1), (1, w32 (s0 - 1))]) (S2 := []) (r1 := (some (0, u1))) (h1 := h) (i := .invokestatic 162) (by decide +kernel) rfl rfl (Nat.le_of_ble_eq_true rfl) (Or.inl rfl) (x_R_in (by omega) hc) ?_
  obtain ⟨ha, hb⟩ := bite hx
  clear hx
  refine Ev.br (i := .ifCond .eq 7) (len := 3) (a := 43) (b := 39) (by decide +kernel) rfl Iff.rfl (fun hc => ?_) (fun hc => ?_)
  · have hx := ha hc
    clear ha hb hc
    refine Ev.blk (is := [.iconst 0]) (pc2 := 44) (L2 := [(9, 0), (9, 0), (9, 0), (9, 0)]) (S2 := [(0, 0)]) (h2 := h) (by decide +kernel) rfl trivial ?_
    cases hx
    exact Ev.ret (i := .ireturn) (len := 1) (by decide +kernel) rfl (finOf (t := some .boolean) rfl (bz0))
  · have hx := hb hc
    clear ha hb hc
    refine Ev.blk (is := [.iconst 1]) (pc2 := 40) (L2 := [(9, 0), (9, 0), (9, 0), (9, 0)]) (S2 := [(0, 1)]) (h2 := h) (by decide +kernel) rfl trivial ?_
    refine Ev.jp (i := .goto 4) (len := 3) (pc2 := 44) (by decide +kernel) rfl ?_
    cases hx
    exact Ev.ret (i := .ireturn) (len := 1) (by decide +kernel) rfl (finOf (t := some .boolean) rfl (bz1))
theorem x_R_isRow {sc : AS} {d : Nat} (hd : 3 ≤ d) {v0 : Int} {v1 : Int} {v2 : Int} {v3 : Int} {h : AH} {r : Int} (hx : R_isRow v0 v1 v2 v3 h = some r) : Runs sc d 223 [(2, v0), (0, v1), (0, v2), (0, v3)] h (some (0, r)) h := by
  obtain ⟨d, rfl⟩ : ∃ e, d = e + 1 := ⟨d - 1, by omega⟩
  have hd : 2 ≤ d := by omega
  unfold R_isRow at hx
  refine ⟨⟨aM_223, rfl, Nat.le_of_ble_eq_true rfl⟩, ?_⟩
  show Ev sc d 223 0 [(2, v0), (0, v1), (0, v2), (0, v3)] [] h (some (0, r)) h
  refine Ev.blk (is := [.aload_n 0, .iload_n 1]) (pc2 := 2) (L2 := [(2, v0), (0, v1), (0, v2), (0, v3)]) (S2 := [(0, v1), (2, v0)]) (h2 := h) (by decide +kernel) rfl trivial ?_
  obtain ⟨_, hg, -, hx⟩ := bgd hx
  obtain ⟨u1, hc, hx⟩ := bca hx
  refine Ev.call (args := [(2, v0), (0, v1)]) (S2 := []) (r1 := (some (0, u1))) (h1 := h) (i := .invokevirtual 198) (by decide +kernel) rfl rfl (Nat.le_of_ble_eq_true rfl) (Or.inr (Or.inl ⟨rfl, hg, by decide +kernel⟩)) (x_R_isLine (by omega) hc) ?_
  obtain ⟨ha, hb⟩ := bite hx
  clear hx
  refine Ev.br (i := .ifCond .eq 38) (len := 3) (a := 43) (b := 8) (by decide +kernel) rfl Iff.rfl (fun hc => ?_) (fun hc => ?_)
  · have hx := ha hc
    clear ha hb hc
    refine Ev.blk (is := [.iconst 0]) (pc2 := 44) (L2 := [(2, v0), (0, v1), (0, v2), (0, v3)]) (S2 := [(0, 0)]) (h2 := h) (by decide +kernel) rfl trivial ?_
    cases hx
    exact Ev.ret (i := .ireturn) (len := 1) (by decide +kernel) rfl (finOf (t := some .boolean) rfl (bz0))
  · have hx := hb hc
    clear ha hb hc
    refine Ev.blk (is := [.iload_n 3, .i2l, .lconst 0, .iload_n 2]) (pc2 := 12) (L2 := [(2, v0), (0, v1), (0, v2), (0, v3)]) (S2 := [(0, v2), (1, 0), (1, v3)]) (h2 := h) (by decide +kernel) rfl trivial ?_
    obtain ⟨ha, hb⟩ := bite hx
    clear hx
    refine Ev.br (i := .ifCond .eq 12) (len := 3) (a := 24) (b := 15) (by decide +kernel) rfl Iff.rfl (fun hc => ?_) (fun hc => ?_)
    · have hx := ha hc
      clear ha hb hc
      obtain ⟨u2, hg, he, hx⟩ := bgd hx
      refine Ev.blk (is := [.aload_n 0, .getfield 9212]) (pc2 := 28) (L2 := [(2, v0), (0, v1), (0, v2), (0, v3)]) (S2 := [(2, u2), (1, 0), (1, v3)]) (h2 := h) (by decide +kernel) (by subst he; rfl) (by exact hg) ?_
      clear hg he
      obtain ⟨u3, hg, he, hx⟩ := bgd hx
      refine Ev.blk (is := [.iload_n 1, .iaload]) (pc2 := 30) (L2 := [(2, v0), (0, v1), (0, v2), (0, v3)]) (S2 := [(0, u3), (1, 0), (1, v3)]) (h2 := h) (by decide +kernel) (by subst he; rfl) (by exact hg) ?_
      clear hg he
      refine Ev.wk (L2 := [(9, 0), (9, 0), (9, 0), (9, 0)]) (wkL_of ⟨Or.inr rfl, ⟨Or.inr rfl, ⟨Or.inr rfl, ⟨Or.inr rfl, trivial⟩⟩⟩⟩) ?_
      exact y_R_isRow_30 hd u3 0 v3 h _ hx
    · have hx := hb hc
      clear ha hb hc
      obtain ⟨u4, hg, he, hx⟩ := bgd hx
      refine Ev.blk (is := [.aload_n 0, .getfield 9213]) (pc2 := 19) (L2 := [(2, v0), (0, v1), (0, v2), (0, v3)]) (S2 := [(2, u4), (1, 0), (1, v3)]) (h2 := h) (by decide +kernel) (by subst he; rfl) (by exact hg) ?_
      clear hg he
      obtain ⟨u5, hg, he, hx⟩ := bgd hx
      refine Ev.blk (is := [.iload_n 1, .iaload]) (pc2 := 21) (L2 := [(2, v0), (0, v1), (0, v2), (0, v3)]) (S2 := [(0, u5), (1, 0), (1, v3)]) (h2 := h) (by decide +kernel) (by subst he; rfl) (by exact hg) ?_
      clear hg he
      refine Ev.jp (i := .goto 9) (len := 3) (pc2 := 30) (by decide +kernel) rfl ?_
      refine Ev.wk (L2 := [(9, 0), (9, 0), (9, 0), (9, 0)]) (wkL_of ⟨Or.inr rfl, ⟨Or.inr rfl, ⟨Or.inr rfl, ⟨Or.inr rfl, trivial⟩⟩⟩⟩) ?_
      exact y_R_isRow_30 hd u5 0 v3 h _ hx
theorem x_R_canBe {sc : AS} {d : Nat} (hd : 3 ≤ d) {v0 : Int} {v1 : Int} {h : AH} {r : Int} (hx : R_canBe v0 v1 = some r) : Runs sc d 224 [(0, v0), (0, v1)] h (some (0, r)) h := by
  obtain ⟨d, rfl⟩ : ∃ e, d = e + 1 := ⟨d - 1, by omega⟩
  have hd : 2 ≤ d := by omega
  unfold R_canBe at hx
  refine ⟨⟨aM_224, rfl, Nat.le_of_ble_eq_true rfl⟩, ?_⟩
  show Ev sc d 224 0 [(0, v0), (0, v1)] [] h (some (0, r)) h
  refine Ev.blk (is := [.iload_n 0]) (pc2 := 1) (L2 := [(0, v0), (0, v1)]) (S2 := [(0, v0)]) (h2 := h) (by decide +kernel) rfl trivial ?_
  obtain ⟨ha, hb⟩ := bite hx
  clear hx
  refine Ev.br (i := .ifCond .ne 11) (len := 3) (a := 4) (b := 12) (by decide +kernel) rfl Iff.rfl (fun hc => ?_) (fun hc => ?_)
  · have hx := ha hc
    clear ha hb hc
    refine Ev.blk (is := [.iload_n 1, .i2l]) (pc2 := 6) (L2 := [(0, v0), (0, v1)]) (S2 := [(1, v1)]) (h2 := h) (by decide +kernel) rfl trivial ?_
    obtain ⟨u1, hc, hx⟩ := bca hx
    refine Ev.call (args := [(1, v1)]) (S2 := []) (r1 := (some (0, u1))) (h1 := h) (i := .invokestatic 163) (by decide +kernel) rfl rfl (Nat.le_of_ble_eq_true rfl) (Or.inl rfl) (x_R_isNumber (by omega) hc) ?_
    refine Ev.jp (i := .goto 31) (len := 3) (pc2 := 40) (by decide +kernel) rfl ?_
    obtain ⟨_, hg, -, hx⟩ := bgd hx
    cases hx
    exact Ev.ret (i := .ireturn) (len := 1) (by decide +kernel) rfl (finOf (t := some .boolean) rfl (hg))
  · have hx := hb hc
    clear ha hb hc
    refine Ev.blk (is := [.iload_n 0, .iconst 1]) (pc2 := 14) (L2 := [(0, v0), (0, v1)]) (S2 := [(0, 1), (0, v0)]) (h2 := h) (by decide +kernel) rfl trivial ?_
    obtain ⟨ha, hb⟩ := bite hx
    clear hx
    refine Ev.br (i := .if_icmp .ne 15) (len := 3) (a := 17) (b := 29) (by decide +kernel) rfl Iff.rfl (fun hc => ?_) (fun hc => ?_)
    · have hx := ha hc
      clear ha hb hc
      refine Ev.blk (is := [.iload_n 1, .i2l, .lconst 1, .jsr_w 30]) (pc2 := 23) (L2 := [(0, v0), (0, v1)]) (S2 := [(1, 30), (1, 1), (1, v1)]) (h2 := h) (by decide +kernel) rfl trivial ?_
      obtain ⟨u2, hc, hx⟩ := bca hx
      refine Ev.call (args := [(1, v1), (1, 1), (1, 30)]) (S2 := []) (r1 := (some (0, u2))) (h1 := h) (i := .invokestatic 162) (by decide +kernel) rfl rfl (Nat.le_of_ble_eq_true rfl) (Or.inl rfl) (x_R_in (by omega) hc) ?_
      refine Ev.jp (i := .goto 14) (len := 3) (pc2 := 40) (by decide +kernel) rfl ?_
      obtain ⟨_, hg, -, hx⟩ := bgd hx
      cases hx
      exact Ev.ret (i := .ireturn) (len := 1) (by decide +kernel) rfl (finOf (t := some .boolean) rfl (hg))
    · have hx := hb hc
      clear ha hb hc
      refine Ev.blk (is := [.iload_n 1, .i2l, .jsr_w 2, .jsr_w 999]) (pc2 := 37) (L2 := [(0, v0), (0, v1)]) (S2 := [(1, 999), (1, 2), (1, v1)]) (h2 := h) (by decide +kernel) rfl trivial ?_
      obtain ⟨u3, hc, hx⟩ := bca hx
      refine Ev.call (args := [(1, v1), (1, 2), (1, 999)]) (S2 := []) (r1 := (some (0, u3))) (h1 := h) (i := .invokestatic 162) (by decide +kernel) rfl rfl (Nat.le_of_ble_eq_true rfl) (Or.inl rfl) (x_R_in (by omega) hc) ?_
      obtain ⟨_, hg, -, hx⟩ := bgd hx
      cases hx
      exact Ev.ret (i := .ireturn) (len := 1) (by decide +kernel) rfl (finOf (t := some .boolean) rfl (hg))
theorem y_R_alter_95 {sc : AS} {d : Nat} (hd : 3 ≤ d) : ∀ (v1 : Int) (v3 : Int) (v5 : Int) (s0 : Int) (h : AH) (r : (Int × AH)), R_alter_95 v1 v3 v5 s0 h = some r → Ev sc d 222 95 [(9, 0), (0, v1), (9, 0), (0, v3), (9, 0), (0, v5), (9, 0), (9, 0)] [(2, s0)] h (some (0, r.1)) r.2 := by
  intro v1 v3 v5 s0 h r hx
  unfold R_alter_95 at hx
  obtain ⟨u1, hg, he, hx⟩ := bgd hx
  refine Ev.blk (is := [.astore 6, .aload 6, .sipush 9, .iload_n 1, .imul, .iload_n 3, .iadd, .iaload]) (pc2 := 106) (L2 := [(9, 0), (0, v1), (9, 0), (0, v3), (9, 0), (0, v5), (2, s0), (9, 0)]) (S2 := [(0, u1)]) (h2 := h) (by decide +kernel) (by subst he; rfl) (by exact hg) ?_
  clear hg he
  obtain ⟨h2, hg, he, hx⟩ := bgd hx
  refine Ev.blk (is := [.istore 7, .aload 6, .sipush 9, .iload_n 1, .imul, .iload_n 3, .iadd, .iload 5, .iastore]) (pc2 := 119) (L2 := [(9, 0), (0, v1), (9, 0), (0, v3), (9, 0), (0, v5), (2, s0), (0, u1)]) (S2 := []) (h2 := h2) (by decide +kernel) (by subst he; rfl) (by exact hg) ?_
  clear hg he
  refine Ev.blk (is := [.iload 7]) (pc2 := 121) (L2 := [(9, 0), (0, v1), (9, 0), (0, v3), (9, 0), (0, v5), (2, s0), (0, u1)]) (S2 := [(0, u1)]) (h2 := h2) (by decide +kernel) rfl trivial ?_
  cases hx
  exact Ev.ret (i := .ireturn) (len := 1) (by decide +kernel) rfl (finOf (t := some .int) rfl (trivial))
theorem y_R_alter_25 {sc : AS} {d : Nat} (hd : 3 ≤ d) : ∀ (v0 : Int) (v1 : Int) (v2 : Int) (v3 : Int) (v4 : Int) (v5 : Int) (s0 : Int) (s1 : Int) (s2 : Int) (h : AH) (r : (Int × AH)), R_alter_25 v0 v1 v2 v3 v4 v5 s0 s1 s2 h = some r → Ev sc d 222 25 [(2, v0), (0, v1), (0, v2), (0, v3), (0, v4), (0, v5), (9, 0), (9, 0)] [(1, s0), (1, s1), (1, s2)] h (some (0, r.1)) r.2 := by
  intro v0 v1 v2 v3 v4 v5 s0 s1 s2 h r hx
  unfold R_alter_25 at hx
  obtain ⟨u1, hc, hx⟩ := bca hx
  refine Ev.call (args := [(1, s2), (1, s1), (1, s0)]) (S2 := []) (r1 := (some (0, u1))) (h1 := h) (i := .invokestatic 162) (by decide +kernel) rfl rfl (Nat.le_of_ble_eq_true rfl) (Or.inl rfl) (x_R_in (by omega) hc) ?_
  obtain ⟨ha, hb⟩ := bite hx
  clear hx
  refine Ev.br (i := .ifCond .eq 13) (len := 3) (a := 41) (b := 31) (by decide +kernel) rfl Iff.rfl (fun hc => ?_) (fun hc => ?_)
  · have hx := ha hc
    clear ha hb hc
    refine Ev.blk (is := [.iconst (-1)]) (pc2 := 42) (L2 := [(2, v0), (0, v1), (0, v2), (0, v3), (0, v4), (0, v5), (9, 0), (9, 0)]) (S2 := [(0, (-1))]) (h2 := h) (by decide +kernel) rfl trivial ?_
    cases hx
    exact Ev.ret (i := .ireturn) (len := 1) (by decide +kernel) rfl (finOf (t := some .int) rfl (trivial))
  · have hx := hb hc
    clear ha hb hc
    refine Ev.blk (is := [.iload 4, .iload 5]) (pc2 := 35) (L2 := [(2, v0), (0, v1), (0, v2), (0, v3), (0, v4), (0, v5), (9, 0), (9, 0)]) (S2 := [(0, v5), (0, v4)]) (h2 := h) (by decide +kernel) rfl trivial ?_
    obtain ⟨u2, hc, hx⟩ := bca hx
    refine Ev.call (args := [(0, v4), (0, v5)]) (S2 := []) (r1 := (some (0, u2))) (h1 := h) (i := .invokestatic 224) (by decide +kernel) rfl rfl (Nat.le_of_ble_eq_true rfl) (Or.inl rfl) (x_R_canBe (by omega) hc) ?_
    obtain ⟨ha, hb⟩ := bite hx
    clear hx
    refine Ev.br (i := .ifCond .ne 5) (len := 3) (a := 41) (b := 43) (by decide +kernel) rfl Iff.rfl (fun hc => ?_) (fun hc => ?_)
    · have hx := ha hc
      clear ha hb hc
      refine Ev.blk (is := [.iconst (-1)]) (pc2 := 42) (L2 := [(2, v0), (0, v1), (0, v2), (0, v3), (0, v4), (0, v5), (9, 0), (9, 0)]) (S2 := [(0, (-1))]) (h2 := h) (by decide +kernel) rfl trivial ?_
      cases hx
      exact Ev.ret (i := .ireturn) (len := 1) (by decide +kernel) rfl (finOf (t := some .int) rfl (trivial))
    · have hx := hb hc
      clear ha hb hc
      refine Ev.blk (is := [.iload 4, .iconst 2]) (pc2 := 46) (L2 := [(2, v0), (0, v1), (0, v2), (0, v3), (0, v4), (0, v5), (9, 0), (9, 0)]) (S2 := [(0, 2), (0, v4)]) (h2 := h) (by decide +kernel) rfl trivial ?_
      obtain ⟨ha, hb⟩ := bite hx
      clear hx
      refine Ev.br (i := .if_icmp .ne 10) (len := 3) (a := 49) (b := 56) (by decide +kernel) rfl Iff.rfl (fun hc => ?_) (fun hc => ?_)
      · have hx := ha hc
        clear ha hb hc
        obtain ⟨u3, hg, he, hx⟩ := bgd hx
        refine Ev.blk (is := [.aload_n 0, .getfield 9216]) (pc2 := 53) (L2 := [(2, v0), (0, v1), (0, v2), (0, v3), (0, v4), (0, v5), (9, 0), (9, 0)]) (S2 := [(2, u3)]) (h2 := h) (by decide +kernel) (by subst he; rfl) (by exact hg) ?_
        clear hg he
        refine Ev.jp (i := .goto 42) (len := 3) (pc2 := 95) (by decide +kernel) rfl ?_
        refine Ev.wk (L2 := [(9, 0), (0, v1), (9, 0), (0, v3), (9, 0), (0, v5), (9, 0), (9, 0)]) (wkL_of ⟨Or.inr rfl, ⟨Or.inl rfl, ⟨Or.inr rfl, ⟨Or.inl rfl, ⟨Or.inr rfl, ⟨Or.inl rfl, ⟨Or.inl rfl, ⟨Or.inl rfl, trivial⟩⟩⟩⟩⟩⟩⟩⟩) ?_
        exact y_R_alter_95 hd v1 v3 v5 u3 h _ hx
      · have hx := hb hc
        clear ha hb hc
        refine Ev.blk (is := [.iload 4, .iconst 1]) (pc2 := 59) (L2 := [(2, v0), (0, v1), (0, v2), (0, v3), (0, v4), (0, v5), (9, 0), (9, 0)]) (S2 := [(0, 1), (0, v4)]) (h2 := h) (by decide +kernel) rfl trivial ?_
        obtain ⟨ha, hb⟩ := bite hx
        clear hx
        refine Ev.br (i := .if_icmp .ne 21) (len := 3) (a := 62) (b := 80) (by decide +kernel) rfl Iff.rfl (fun hc => ?_) (fun hc => ?_)
        · have hx := ha hc
          clear ha hb hc
          refine Ev.blk (is := [.iload_n 2]) (pc2 := 63) (L2 := [(2, v0), (0, v1), (0, v2), (0, v3), (0, v4), (0, v5), (9, 0), (9, 0)]) (S2 := [(0, v2)]) (h2 := h) (by decide +kernel) rfl trivial ?_
          obtain ⟨ha, hb⟩ := bite hx
          clear hx
          refine Ev.br (i := .ifCond .eq 10) (len := 3) (a := 73) (b := 66) (by decide +kernel) rfl Iff.rfl (fun hc => ?_) (fun hc => ?_)
          · have hx := ha hc
            clear ha hb hc
            obtain ⟨u4, hg, he, hx⟩ := bgd hx
            refine Ev.blk (is := [.aload_n 0, .getfield 9215]) (pc2 := 77) (L2 := [(2, v0), (0, v1), (0, v2), (0, v3), (0, v4), (0, v5), (9, 0), (9, 0)]) (S2 := [(2, u4)]) (h2 := h) (by decide +kernel) (by subst he; rfl) (by exact hg) ?_
            clear hg he
            refine Ev.jp (i := .goto 18) (len := 3) (pc2 := 95) (by decide +kernel) rfl ?_
            refine Ev.wk (L2 := [(9, 0), (0, v1), (9, 0), (0, v3), (9, 0), (0, v5), (9, 0), (9, 0)]) (wkL_of ⟨Or.inr rfl, ⟨Or.inl rfl, ⟨Or.inr rfl, ⟨Or.inl rfl, ⟨Or.inr rfl, ⟨Or.inl rfl, ⟨Or.inl rfl, ⟨Or.inl rfl, trivial⟩⟩⟩⟩⟩⟩⟩⟩) ?_
            exact y_R_alter_95 hd v1 v3 v5 u4 h _ hx
          · have hx := hb hc
            clear ha hb hc
            obtain ⟨u5, hg, he, hx⟩ := bgd hx
            refine Ev.blk (is := [.aload_n 0, .getfield 9218]) (pc2 := 70) (L2 := [(2, v0), (0, v1), (0, v2), (0, v3), (0, v4), (0, v5), (9, 0), (9, 0)]) (S2 := [(2, u5)]) (h2 := h) (by decide +kernel) (by subst he; rfl) (by exact hg) ?_
            clear hg he
            refine Ev.jp (i := .goto 25) (len := 3) (pc2 := 95) (by decide +kernel) rfl ?_
            refine Ev.wk (L2 := [(9, 0), (0, v1), (9, 0), (0, v3), (9, 0), (0, v5), (9, 0), (9, 0)]) (wkL_of ⟨Or.inr rfl, ⟨Or.inl rfl, ⟨Or.inr rfl, ⟨Or.inl rfl, ⟨Or.inr rfl, ⟨Or.inl rfl, ⟨Or.inl rfl, ⟨Or.inl rfl, trivial⟩⟩⟩⟩⟩⟩⟩⟩) ?_
            exact y_R_alter_95 hd v1 v3 v5 u5 h _ hx
        · have hx := hb hc
          clear ha hb hc
          refine Ev.blk (is := [.iload_n 2]) (pc2 := 81) (L2 := [(2, v0), (0, v1), (0, v2), (0, v3), (0, v4), (0, v5), (9, 0), (9, 0)]) (S2 := [(0, v2)]) (h2 := h) (by decide +kernel) rfl trivial ?_
          obtain ⟨ha, hb⟩ := bite hx
          clear hx
          refine Ev.br (i := .ifCond .eq 10) (len := 3) (a := 91) (b := 84) (by decide +kernel) rfl Iff.rfl (fun hc => ?_) (fun hc => ?_)
          · have hx := ha hc
            clear ha hb hc
            obtain ⟨u6, hg, he, hx⟩ := bgd hx
            refine Ev.blk (is := [.aload_n 0, .getfield 9214]) (pc2 := 95) (L2 := [(2, v0), (0, v1), (0, v2), (0, v3), (0, v4), (0, v5), (9, 0), (9, 0)]) (S2 := [(2, u6)]) (h2 := h) (by decide +kernel) (by subst he; rfl) (by exact hg) ?_
            clear hg he
            refine Ev.wk (L2 := [(9, 0), (0, v1), (9, 0), (0, v3), (9, 0), (0, v5), (9, 0), (9, 0)]) (wkL_of ⟨Or.inr rfl, ⟨Or.inl rfl, ⟨Or.inr rfl, ⟨Or.inl rfl, ⟨Or.inr rfl, ⟨Or.inl rfl, ⟨Or.inl rfl, ⟨Or.inl rfl, trivial⟩⟩⟩⟩⟩⟩⟩⟩) ?_
            exact y_R_alter_95 hd v1 v3 v5 u6 h _ hx
          · have hx := hb hc
            clear ha hb hc
            obtain ⟨u7, hg, he, hx⟩ := bgd hx
            refine Ev.blk (is := [.aload_n 0, .getfield 9217]) (pc2 := 88) (L2 := [(2, v0), (0, v1), (0, v2), (0, v3), (0, v4), (0, v5), (9, 0), (9, 0)]) (S2 := [(2, u7)]) (h2 := h) (by decide +kernel) (by subst he; rfl) (by exact hg) ?_
            clear hg he
            refine Ev.jp (i := .goto 7) (len := 3) (pc2 := 95) (by decide +kernel) rfl ?_
            refine Ev.wk (L2 := [(9, 0), (0, v1), (9, 0), (0, v3), (9, 0), (0, v5), (9, 0), (9, 0)]) (wkL_of ⟨Or.inr rfl, ⟨Or.inl rfl, ⟨Or.inr rfl, ⟨Or.inl rfl, ⟨Or.inr rfl, ⟨Or.inl rfl, ⟨Or.inl rfl, ⟨Or.inl rfl, trivial⟩⟩⟩⟩⟩⟩⟩⟩) ?_
            exact y_R_alter_95 hd v1 v3 v5 u7 h _ hx
theorem x_R_alter {sc : AS} {d : Nat} (hd : 4 ≤ d) {v0 : Int} {v1 : Int} {v2 : Int} {v3 : Int} {v4 : Int} {v5 : Int} {h : AH} {r : (Int × AH)} (hx : R_alter v0 v1 v2 v3 v4 v5 h = some r) : Runs sc d 222 [(2, v0), (0, v1), (0, v2), (0, v3), (0, v4), (0, v5)] h (some (0, r.1)) r.2 := by
  obtain ⟨d, rfl⟩ : ∃ e, d = e + 1 := ⟨d - 1, by omega⟩
  have hd : 3 ≤ d := by omega
  unfold R_alter at hx
  refine ⟨⟨aM_222, rfl, Nat.le_of_ble_eq_true rfl⟩, ?_⟩
  show Ev sc d 222 0 [(2, v0), (0, v1), (0, v2), (0, v3), (0, v4), (0, v5), (9, 0), (9, 0)] [] h (some (0, r.1)) r.2
  refine Ev.blk (is := [.aload_n 0, .iload_n 1, .iload_n 2, .iload_n 3]) (pc2 := 4) (L2 := [(2, v0), (0, v1), (0, v2), (0, v3), (0, v4), (0, v5), (9, 0), (9, 0)]) (S2 := [(0, v3), (0, v2), (0, v1), (2, v0)]) (h2 := h) (by decide +kernel) rfl trivial ?_
  obtain ⟨_, hg, -, hx⟩ := bgd hx
  obtain ⟨u1, hc, hx⟩ := bca hx
  refine Ev.call (args := [(2, v0), (0, v1), (0, v2), (0, v3)]) (S2 := []) (r1 := (some (0, u1))) (h1 := h) (i := .invokevirtual 223) (by decide +kernel) rfl rfl (Nat.le_of_ble_eq_true rfl) (Or.inr (Or.inl ⟨rfl, hg, by decide +kernel⟩)) (x_R_isRow (by omega) hc) ?_
  obtain ⟨ha, hb⟩ := bite hx
  clear hx
  refine Ev.br (i := .ifCond .eq 34) (len := 3) (a := 41) (b := 10) (by decide +kernel) rfl Iff.rfl (fun hc => ?_) (fun hc => ?_)
  · have hx := ha hc
    clear ha hb hc
    refine Ev.blk (is := [.iconst (-1)]) (pc2 := 42) (L2 := [(2, v0), (0, v1), (0, v2), (0, v3), (0, v4), (0, v5), (9, 0), (9, 0)]) (S2 := [(0, (-1))]) (h2 := h) (by decide +kernel) rfl trivial ?_
    cases hx
    exact Ev.ret (i := .ireturn) (len := 1) (by decide +kernel) rfl (finOf (t := some .int) rfl (trivial))
  · have hx := hb hc
    clear ha hb hc
    refine Ev.blk (is := [.iload 4, .i2l, .lconst 0, .iload_n 2]) (pc2 := 15) (L2 := [(2, v0), (0, v1), (0, v2), (0, v3), (0, v4), (0, v5), (9, 0), (9, 0)]) (S2 := [(0, v2), (1, 0), (1, v4)]) (h2 := h) (by decide +kernel) rfl trivial ?_
    obtain ⟨ha, hb⟩ := bite hx
    clear hx
    refine Ev.br (i := .ifCond .eq 7) (len := 3) (a := 22) (b := 18) (by decide +kernel) rfl Iff.rfl (fun hc => ?_) (fun hc => ?_)
    · have hx := ha hc
      clear ha hb hc
      refine Ev.blk (is := [.jsr_w 2]) (pc2 := 25) (L2 := [(2, v0), (0, v1), (0, v2), (0, v3), (0, v4), (0, v5), (9, 0), (9, 0)]) (S2 := [(1, 2), (1, 0), (1, v4)]) (h2 := h) (by decide +kernel) rfl trivial ?_
      exact y_R_alter_25 hd v0 v1 v2 v3 v4 v5 2 0 v4 h _ hx
    · have hx := hb hc
      clear ha hb hc
      refine Ev.blk (is := [.lconst 1]) (pc2 := 19) (L2 := [(2, v0), (0, v1), (0, v2), (0, v3), (0, v4), (0, v5), (9, 0), (9, 0)]) (S2 := [(1, 1), (1, 0), (1, v4)]) (h2 := h) (by decide +kernel) rfl trivial ?_
      refine Ev.jp (i := .goto 6) (len := 3) (pc2 := 25) (by decide +kernel) rfl ?_
      exact y_R_alter_25 hd v0 v1 v2 v3 v4 v5 1 0 v4 h _ hx
theorem y_R_cut_41 {sc : AS} {d : Nat} (hd : 3 ≤ d) : ∀ (fu : Nat) (v0 : Int) (v1 : Int) (v2 : Int) (v4 : Int) (v5 : Int) (h : AH) (r : (Int × AH)), R_cut_41 fu v0 v1 v2 v4 v5 h = some r → Ev sc d 225 41 [(2, v0), (0, v1), (0, v2), (9, 0), (0, v4), (0, v5)] [] h (some (0, r.1)) r.2 := by
  intro fu
  induction fu with
  | zero => intro v0 v1 v2 v4 v5 h r hx; unfold R_cut_41 at hx; cases hx
  | succ fu ih =>
    intro v0 v1 v2 v4 v5 h r hx
    unfold R_cut_41 at hx
    refine Ev.blk (is := [.iload 5, .sipush 9, .iload_n 1, .imul, .iload 4, .iadd, .iconst 1, .isub]) (pc2 := 52) (L2 := [(2, v0), (0, v1), (0, v2), (9, 0), (0, v4), (0, v5)]) (S2 := [(0, w32 ((w32 ((w32 (9 * v1)) + v4)) - 1)), (0, v5)]) (h2 := h) (by decide +kernel) rfl trivial ?_
    obtain ⟨ha, hb⟩ := bite hx
    clear hx
    refine Ev.br (i := .if_icmp .ge 96) (len := 3) (a := 55) (b := 148) (by decide +kernel) rfl Iff.rfl (fun hc => ?_) (fun hc => ?_)
    · have hx := ha hc
      clear ha hb hc
      refine Ev.blk (is := [.iload_n 2]) (pc2 := 56) (L2 := [(2, v0), (0, v1), (0, v2), (9, 0), (0, v4), (0, v5)]) (S2 := [(0, v2)]) (h2 := h) (by decide +kernel) rfl trivial ?_
      obtain ⟨ha, hb⟩ := bite hx
      clear hx
      refine Ev.br (i := .ifCond .eq 38) (len := 3) (a := 94) (b := 59) (by decide +kernel) rfl Iff.rfl (fun hc => ?_) (fun hc => ?_)
      · have hx := ha hc
        clear ha hb hc
        obtain ⟨u1, hg, he, hx⟩ := bgd hx
        refine Ev.blk (is := [.aload_n 0, .getfield 9214]) (pc2 := 98) (L2 := [(2, v0), (0, v1), (0, v2), (9, 0), (0, v4), (0, v5)]) (S2 := [(2, u1)]) (h2 := h) (by decide +kernel) (by subst he; rfl) (by exact hg) ?_
        clear hg he
        obtain ⟨u2, hg, he, hx⟩ := bgd hx
        refine Ev.blk (is := [.iload 5, .aload_n 0, .getfield 9214]) (pc2 := 104) (L2 := [(2, v0), (0, v1), (0, v2), (9, 0), (0, v4), (0, v5)]) (S2 := [(2, u2), (0, v5), (2, u1)]) (h2 := h) (by decide +kernel) (by subst he; rfl) (by exact hg) ?_
        clear hg he
        obtain ⟨u3, hg, he, hx⟩ := bgd hx
        refine Ev.blk (is := [.iload 5, .iconst 1, .iadd, .iaload]) (pc2 := 109) (L2 := [(2, v0), (0, v1), (0, v2), (9, 0), (0, v4), (0, v5)]) (S2 := [(0, u3), (0, v5), (2, u1)]) (h2 := h) (by decide +kernel) (by subst he; rfl) (by exact hg) ?_
        clear hg he
        obtain ⟨h4, hg, he, hx⟩ := bgd hx
        refine Ev.blk (is := [.iastore]) (pc2 := 110) (L2 := [(2, v0), (0, v1), (0, v2), (9, 0), (0, v4), (0, v5)]) (S2 := []) (h2 := h4) (by decide +kernel) (by subst he; rfl) (by exact hg) ?_
        clear hg he
        obtain ⟨u5, hg, he, hx⟩ := bgd hx
        refine Ev.blk (is := [.aload_n 0, .getfield 9215]) (pc2 := 114) (L2 := [(2, v0), (0, v1), (0, v2), (9, 0), (0, v4), (0, v5)]) (S2 := [(2, u5)]) (h2 := h4) (by decide +kernel) (by subst he; rfl) (by exact hg) ?_
        clear hg he
        obtain ⟨u6, hg, he, hx⟩ := bgd hx
        refine Ev.blk (is := [.iload 5, .aload_n 0, .getfield 9215]) (pc2 := 120) (L2 := [(2, v0), (0, v1), (0, v2), (9, 0), (0, v4), (0, v5)]) (S2 := [(2, u6), (0, v5), (2, u5)]) (h2 := h4) (by decide +kernel) (by subst he; rfl) (by exact hg) ?_
        clear hg he
        obtain ⟨u7, hg, he, hx⟩ := bgd hx
        refine Ev.blk (is := [.iload 5, .iconst 1, .iadd, .iaload]) (pc2 := 125) (L2 := [(2, v0), (0, v1), (0, v2), (9, 0), (0, v4), (0, v5)]) (S2 := [(0, u7), (0, v5), (2, u5)]) (h2 := h4) (by decide +kernel) (by subst he; rfl) (by exact hg) ?_
        clear hg he
        obtain ⟨h8, hg, he, hx⟩ := bgd hx
        refine Ev.blk (is := [.iastore]) (pc2 := 126) (L2 := [(2, v0), (0, v1), (0, v2), (9, 0), (0, v4), (0, v5)]) (S2 := []) (h2 := h8) (by decide +kernel) (by subst he; rfl) (by exact hg) ?_
        clear hg he
        obtain ⟨u9, hg, he, hx⟩ := bgd hx
        refine Ev.blk (is := [.aload_n 0, .getfield 9216]) (pc2 := 130) (L2 := [(2, v0), (0, v1), (0, v2), (9, 0), (0, v4), (0, v5)]) (S2 := [(2, u9)]) (h2 := h8) (by decide +kernel) (by subst he; rfl) (by exact hg) ?_
        clear hg he
        obtain ⟨u10, hg, he, hx⟩ := bgd hx
        refine Ev.blk (is := [.iload 5, .aload_n 0, .getfield 9216]) (pc2 := 136) (L2 := [(2, v0), (0, v1), (0, v2), (9, 0), (0, v4), (0, v5)]) (S2 := [(2, u10), (0, v5), (2, u9)]) (h2 := h8) (by decide +kernel) (by subst he; rfl) (by exact hg) ?_
        clear hg he
        obtain ⟨u11, hg, he, hx⟩ := bgd hx
        refine Ev.blk (is := [.iload 5, .iconst 1, .iadd, .iaload]) (pc2 := 141) (L2 := [(2, v0), (0, v1), (0, v2), (9, 0), (0, v4), (0, v5)]) (S2 := [(0, u11), (0, v5), (2, u9)]) (h2 := h8) (by decide +kernel) (by subst he; rfl) (by exact hg) ?_
        clear hg he
        obtain ⟨h12, hg, he, hx⟩ := bgd hx
        refine Ev.blk (is := [.iastore]) (pc2 := 142) (L2 := [(2, v0), (0, v1), (0, v2), (9, 0), (0, v4), (0, v5)]) (S2 := []) (h2 := h12) (by decide +kernel) (by subst he; rfl) (by exact hg) ?_
        clear hg he
        refine Ev.blk (is := [.iinc 5 1]) (pc2 := 145) (L2 := [(2, v0), (0, v1), (0, v2), (9, 0), (0, v4), (0, w32 (v5 + 1))]) (S2 := []) (h2 := h12) (by decide +kernel) rfl trivial ?_
        refine Ev.jp (i := .goto (-104)) (len := 3) (pc2 := 41) (by decide +kernel) rfl ?_
        exact ih v0 v1 v2 v4 (w32 (v5 + 1)) h12 _ hx
      · have hx := hb hc
        clear ha hb hc
        obtain ⟨u13, hg, he, hx⟩ := bgd hx
        refine Ev.blk (is := [.aload_n 0, .getfield 9217]) (pc2 := 63) (L2 := [(2, v0), (0, v1), (0, v2), (9, 0), (0, v4), (0, v5)]) (S2 := [(2, u13)]) (h2 := h) (by decide +kernel) (by subst he; rfl) (by exact hg) ?_
        clear hg he
        obtain ⟨u14, hg, he, hx⟩ := bgd hx
        refine Ev.blk (is := [.iload 5, .aload_n 0, .getfield 9217]) (pc2 := 69) (L2 := [(2, v0), (0, v1), (0, v2), (9, 0), (0, v4), (0, v5)]) (S2 := [(2, u14), (0, v5), (2, u13)]) (h2 := h) (by decide +kernel) (by subst he; rfl) (by exact hg) ?_
        clear hg he
        obtain ⟨u15, hg, he, hx⟩ := bgd hx
        refine Ev.blk (is := [.iload 5, .iconst 1, .iadd, .iaload]) (pc2 := 74) (L2 := [(2, v0), (0, v1), (0, v2), (9, 0), (0, v4), (0, v5)]) (S2 := [(0, u15), (0, v5), (2, u13)]) (h2 := h) (by decide +kernel) (by subst he; rfl) (by exact hg) ?_
        clear hg he
        obtain ⟨h16, hg, he, hx⟩ := bgd hx
        refine Ev.blk (is := [.iastore]) (pc2 := 75) (L2 := [(2, v0), (0, v1), (0, v2), (9, 0), (0, v4), (0, v5)]) (S2 := []) (h2 := h16) (by decide +kernel) (by subst he; rfl) (by exact hg) ?_
        clear hg he
        obtain ⟨u17, hg, he, hx⟩ := bgd hx
        refine Ev.blk (is := [.aload_n 0, .getfield 9218]) (pc2 := 79) (L2 := [(2, v0), (0, v1), (0, v2), (9, 0), (0, v4), (0, v5)]) (S2 := [(2, u17)]) (h2 := h16) (by decide +kernel) (by subst he; rfl) (by exact hg) ?_
        clear hg he
        obtain ⟨u18, hg, he, hx⟩ := bgd hx
        refine Ev.blk (is := [.iload 5, .aload_n 0, .getfield 9218]) (pc2 := 85) (L2 := [(2, v0), (0, v1), (0, v2), (9, 0), (0, v4), (0, v5)]) (S2 := [(2, u18), (0, v5), (2, u17)]) (h2 := h16) (by decide +kernel) (by subst he; rfl) (by exact hg) ?_
        clear hg he
        obtain ⟨u19, hg, he, hx⟩ := bgd hx
        refine Ev.blk (is := [.iload 5, .iconst 1, .iadd, .iaload]) (pc2 := 90) (L2 := [(2, v0), (0, v1), (0, v2), (9, 0), (0, v4), (0, v5)]) (S2 := [(0, u19), (0, v5), (2, u17)]) (h2 := h16) (by decide +kernel) (by subst he; rfl) (by exact hg) ?_
        clear hg he
        obtain ⟨h20, hg, he, hx⟩ := bgd hx
        refine Ev.blk (is := [.iastore]) (pc2 := 91) (L2 := [(2, v0), (0, v1), (0, v2), (9, 0), (0, v4), (0, v5)]) (S2 := []) (h2 := h20) (by decide +kernel) (by subst he; rfl) (by exact hg) ?_
        clear hg he
        refine Ev.jp (i := .goto 51) (len := 3) (pc2 := 142) (by decide +kernel) rfl ?_
        refine Ev.blk (is := [.iinc 5 1]) (pc2 := 145) (L2 := [(2, v0), (0, v1), (0, v2), (9, 0), (0, v4), (0, w32 (v5 + 1))]) (S2 := []) (h2 := h20) (by decide +kernel) rfl trivial ?_
        refine Ev.jp (i := .goto (-104)) (len := 3) (pc2 := 41) (by decide +kernel) rfl ?_
        exact ih v0 v1 v2 v4 (w32 (v5 + 1)) h20 _ hx
    · have hx := hb hc
      clear ha hb hc
      refine Ev.blk (is := [.iload_n 2]) (pc2 := 149) (L2 := [(2, v0), (0, v1), (0, v2), (9, 0), (0, v4), (0, v5)]) (S2 := [(0, v2)]) (h2 := h) (by decide +kernel) rfl trivial ?_
      obtain ⟨ha, hb⟩ := bite hx
      clear hx
      refine Ev.br (i := .ifCond .eq 16) (len := 3) (a := 165) (b := 152) (by decide +kernel) rfl Iff.rfl (fun hc => ?_) (fun hc => ?_)
      · have hx := ha hc
        clear ha hb hc
        obtain ⟨u21, hg, he, hx⟩ := bgd hx
        refine Ev.blk (is := [.aload_n 0, .getfield 9212]) (pc2 := 169) (L2 := [(2, v0), (0, v1), (0, v2), (9, 0), (0, v4), (0, v5)]) (S2 := [(2, u21)]) (h2 := h) (by decide +kernel) (by subst he; rfl) (by exact hg) ?_
        clear hg he
        obtain ⟨u22, hg, he, hx⟩ := bgd hx
        refine Ev.blk (is := [.iload_n 1, .dup2, .iaload]) (pc2 := 172) (L2 := [(2, v0), (0, v1), (0, v2), (9, 0), (0, v4), (0, v5)]) (S2 := [(0, u22), (0, v1), (2, u21)]) (h2 := h) (by decide +kernel) (by subst he; rfl) (by exact hg) ?_
        clear hg he
        obtain ⟨h23, hg, he, hx⟩ := bgd hx
        refine Ev.blk (is := [.iconst 1, .isub, .iastore]) (pc2 := 175) (L2 := [(2, v0), (0, v1), (0, v2), (9, 0), (0, v4), (0, v5)]) (S2 := []) (h2 := h23) (by decide +kernel) (by subst he; rfl) (by exact hg) ?_
        clear hg he
        refine Ev.blk (is := [.iload 4, .iconst 1, .isub]) (pc2 := 179) (L2 := [(2, v0), (0, v1), (0, v2), (9, 0), (0, v4), (0, v5)]) (S2 := [(0, w32 (v4 - 1))]) (h2 := h23) (by decide +kernel) rfl trivial ?_
        cases hx
        exact Ev.ret (i := .ireturn) (len := 1) (by decide +kernel) rfl (finOf (t := some .int) rfl (trivial))
      · have hx := hb hc
        clear ha hb hc
        obtain ⟨u24, hg, he, hx⟩ := bgd hx
        refine Ev.blk (is := [.aload_n 0, .getfield 9213]) (pc2 := 156) (L2 := [(2, v0), (0, v1), (0, v2), (9, 0), (0, v4), (0, v5)]) (S2 := [(2, u24)]) (h2 := h) (by decide +kernel) (by subst he; rfl) (by exact hg) ?_
        clear hg he
        obtain ⟨u25, hg, he, hx⟩ := bgd hx
        refine Ev.blk (is := [.iload_n 1, .dup2, .iaload]) (pc2 := 159) (L2 := [(2, v0), (0, v1), (0, v2), (9, 0), (0, v4), (0, v5)]) (S2 := [(0, u25), (0, v1), (2, u24)]) (h2 := h) (by decide +kernel) (by subst he; rfl) (by exact hg) ?_
        clear hg he
        obtain ⟨h26, hg, he, hx⟩ := bgd hx
        refine Ev.blk (is := [.iconst 1, .isub, .iastore]) (pc2 := 162) (L2 := [(2, v0), (0, v1), (0, v2), (9, 0), (0, v4), (0, v5)]) (S2 := []) (h2 := h26) (by decide +kernel) (by subst he; rfl) (by exact hg) ?_
        clear hg he
        refine Ev.jp (i := .goto 13) (len := 3) (pc2 := 175) (by decide +kernel) rfl ?_
        refine Ev.blk (is := [.iload 4, .iconst 1, .isub]) (pc2 := 179) (L2 := [(2, v0), (0, v1), (0, v2), (9, 0), (0, v4), (0, v5)]) (S2 := [(0, w32 (v4 - 1))]) (h2 := h26) (by decide +kernel) rfl trivial ?_
        cases hx
        exact Ev.ret (i := .ireturn) (len := 1) (by decide +kernel) rfl (finOf (t := some .int) rfl (trivial))
theorem x_R_cut {sc : AS} {d : Nat} (hd : 4 ≤ d) {v0 : Int} {v1 : Int} {v2 : Int} {v3 : Int} {h : AH} {r : (Int × AH)} (hx : R_cut v0 v1 v2 v3 h = some r) : Runs sc d 225 [(2, v0), (0, v1), (0, v2), (0, v3)] h (some (0, r.1)) r.2 := by
  obtain ⟨d, rfl⟩ : ∃ e, d = e + 1 := ⟨d - 1, by omega⟩
  have hd : 3 ≤ d := by omega
  unfold R_cut at hx
  refine ⟨⟨aM_225, rfl, Nat.le_of_ble_eq_true rfl⟩, ?_⟩
  show Ev sc d 225 0 [(2, v0), (0, v1), (0, v2), (0, v3), (9, 0), (9, 0)] [] h (some (0, r.1)) r.2
  refine Ev.blk (is := [.aload_n 0, .iload_n 1, .iload_n 2, .iload_n 3]) (pc2 := 4) (L2 := [(2, v0), (0, v1), (0, v2), (0, v3), (9, 0), (9, 0)]) (S2 := [(0, v3), (0, v2), (0, v1), (2, v0)]) (h2 := h) (by decide +kernel) rfl trivial ?_
  obtain ⟨_, hg, -, hx⟩ := bgd hx
  obtain ⟨u1, hc, hx⟩ := bca hx
  refine Ev.call (args := [(2, v0), (0, v1), (0, v2), (0, v3)]) (S2 := []) (r1 := (some (0, u1))) (h1 := h) (i := .invokevirtual 223) (by decide +kernel) rfl rfl (Nat.le_of_ble_eq_true rfl) (Or.inr (Or.inl ⟨rfl, hg, by decide +kernel⟩)) (x_R_isRow (by omega) hc) ?_
  obtain ⟨ha, hb⟩ := bite hx
  clear hx
  refine Ev.br (i := .ifCond .ne 5) (len := 3) (a := 10) (b := 12) (by decide +kernel) rfl Iff.rfl (fun hc => ?_) (fun hc => ?_)
  · have hx := ha hc
    clear ha hb hc
    refine Ev.blk (is := [.iconst (-1)]) (pc2 := 11) (L2 := [(2, v0), (0, v1), (0, v2), (0, v3), (9, 0), (9, 0)]) (S2 := [(0, (-1))]) (h2 := h) (by decide +kernel) rfl trivial ?_
    cases hx
    exact Ev.ret (i := .ireturn) (len := 1) (by decide +kernel) rfl (finOf (t := some .int) rfl (trivial))
  · have hx := hb hc
    clear ha hb hc
    refine Ev.blk (is := [.iload_n 2]) (pc2 := 13) (L2 := [(2, v0), (0, v1), (0, v2), (0, v3), (9, 0), (9, 0)]) (S2 := [(0, v2)]) (h2 := h) (by decide +kernel) rfl trivial ?_
    obtain ⟨ha, hb⟩ := bite hx
    clear hx
    refine Ev.br (i := .ifCond .eq 12) (len := 3) (a := 25) (b := 16) (by decide +kernel) rfl Iff.rfl (fun hc => ?_) (fun hc => ?_)
    · have hx := ha hc
      clear ha hb hc
      obtain ⟨u2, hg, he, hx⟩ := bgd hx
      refine Ev.blk (is := [.aload_n 0, .getfield 9212]) (pc2 := 29) (L2 := [(2, v0), (0, v1), (0, v2), (0, v3), (9, 0), (9, 0)]) (S2 := [(2, u2)]) (h2 := h) (by decide +kernel) (by subst he; rfl) (by exact hg) ?_
      clear hg he
      obtain ⟨u3, hg, he, hx⟩ := bgd hx
      refine Ev.blk (is := [.iload_n 1, .iaload]) (pc2 := 31) (L2 := [(2, v0), (0, v1), (0, v2), (0, v3), (9, 0), (9, 0)]) (S2 := [(0, u3)]) (h2 := h) (by decide +kernel) (by subst he; rfl) (by exact hg) ?_
      clear hg he
      refine Ev.blk (is := [.istore 4, .sipush 9, .iload_n 1, .imul, .iload_n 3, .iadd, .istore 5]) (pc2 := 41) (L2 := [(2, v0), (0, v1), (0, v2), (0, v3), (0, u3), (0, w32 ((w32 (9 * v1)) + v3))]) (S2 := []) (h2 := h) (by decide +kernel) rfl trivial ?_
      refine Ev.wk (L2 := [(2, v0), (0, v1), (0, v2), (9, 0), (0, u3), (0, w32 ((w32 (9 * v1)) + v3))]) (wkL_of ⟨Or.inl rfl, ⟨Or.inl rfl, ⟨Or.inl rfl, ⟨Or.inr rfl, ⟨Or.inl rfl, ⟨Or.inl rfl, trivial⟩⟩⟩⟩⟩⟩) ?_
      exact y_R_cut_41 hd FU v0 v1 v2 u3 (w32 ((w32 (9 * v1)) + v3)) h _ hx
    · have hx := hb hc
      clear ha hb hc
      obtain ⟨u4, hg, he, hx⟩ := bgd hx
      refine Ev.blk (is := [.aload_n 0, .getfield 9213]) (pc2 := 20) (L2 := [(2, v0), (0, v1), (0, v2), (0, v3), (9, 0), (9, 0)]) (S2 := [(2, u4)]) (h2 := h) (by decide +kernel) (by subst he; rfl) (by exact hg) ?_
      clear hg he
      obtain ⟨u5, hg, he, hx⟩ := bgd hx
      refine Ev.blk (is := [.iload_n 1, .iaload]) (pc2 := 22) (L2 := [(2, v0), (0, v1), (0, v2), (0, v3), (9, 0), (9, 0)]) (S2 := [(0, u5)]) (h2 := h) (by decide +kernel) (by subst he; rfl) (by exact hg) ?_
      clear hg he
      refine Ev.jp (i := .goto 9) (len := 3) (pc2 := 31) (by decide +kernel) rfl ?_
      refine Ev.blk (is := [.istore 4, .sipush 9, .iload_n 1, .imul, .iload_n 3, .iadd, .istore 5]) (pc2 := 41) (L2 := [(2, v0), (0, v1), (0, v2), (0, v3), (0, u5), (0, w32 ((w32 (9 * v1)) + v3))]) (S2 := []) (h2 := h) (by decide +kernel) rfl trivial ?_
      refine Ev.wk (L2 := [(2, v0), (0, v1), (0, v2), (9, 0), (0, u5), (0, w32 ((w32 (9 * v1)) + v3))]) (wkL_of ⟨Or.inl rfl, ⟨Or.inl rfl, ⟨Or.inl rfl, ⟨Or.inr rfl, ⟨Or.inl rfl, ⟨Or.inl rfl, trivial⟩⟩⟩⟩⟩⟩) ?_
      exact y_R_cut_41 hd FU v0 v1 v2 u5 (w32 ((w32 (9 * v1)) + v3)) h _ hx
theorem x_R_isRightLine {sc : AS} {d : Nat} (hd : 6 ≤ d) {v0 : Int} {v1 : Int} {h : AH} {r : (Int × AH)} (hx : R_isRightLine v0 v1 h = some r) : Runs sc d 227 [(2, v0), (0, v1)] h (some (0, r.1)) r.2 := by
  obtain ⟨d, rfl⟩ : ∃ e, d = e + 1 := ⟨d - 1, by omega⟩
  have hd : 5 ≤ d := by omega
  unfold R_isRightLine at hx
  refine ⟨⟨aM_227, rfl, Nat.le_of_ble_eq_true rfl⟩, ?_⟩
  show Ev sc d 227 0 [(2, v0), (0, v1)] [] h (some (0, r.1)) r.2
  refine Ev.blk (is := [.aload_n 0]) (pc2 := 1) (L2 := [(2, v0), (0, v1)]) (S2 := [(2, v0)]) (h2 := h) (by decide +kernel) rfl trivial ?_
  obtain ⟨_, hg, -, hx⟩ := bgd hx
  obtain ⟨h2, hc, hx⟩ := bca hx
  refine Ev.call (args := [(2, v0)]) (S2 := []) (r1 := none) (h1 := h2) (i := .invokevirtual 164) (by decide +kernel) rfl rfl (Nat.le_of_ble_eq_true rfl) (Or.inr (Or.inl ⟨rfl, hg, by decide +kernel⟩)) (x_R_laysRight (by omega) hc) ?_
  obtain ⟨u3, hg, he, hx⟩ := bgd hx
  refine Ev.blk (is := [.aload_n 0, .getfield 9219]) (pc2 := 8) (L2 := [(2, v0), (0, v1)]) (S2 := [(2, u3)]) (h2 := h2) (by decide +kernel) (by subst he; rfl) (by exact hg) ?_
  clear hg he
  obtain ⟨u4, hg, he, hx⟩ := bgd hx
  refine Ev.blk (is := [.iload_n 1, .baload]) (pc2 := 10) (L2 := [(2, v0), (0, v1)]) (S2 := [(0, u4)]) (h2 := h2) (by decide +kernel) (by subst he; rfl) (by exact hg) ?_
  clear hg he
  obtain ⟨_, hg, -, hx⟩ := bgd hx
  cases hx
  exact Ev.ret (i := .ireturn) (len := 1) (by decide +kernel) rfl (finOf (t := some .boolean) rfl (hg))
theorem y_R_move_53 {sc : AS} {d : Nat} (hd : 6 ≤ d) : ∀ (fu : Nat) (v0 : Int) (v2 : Int) (v3 : Int) (h : AH) (r : (Int × AH)), R_move_53 fu v0 v2 v3 h = some r → Ev sc d 226 53 [(2, v0), (9, 0), (0, v2), (0, v3)] [] h (some (0, r.1)) r.2 := by
  intro fu
  induction fu with
  | zero => intro v0 v2 v3 h r hx; unfold R_move_53 at hx; cases hx
  | succ fu ih =>
    intro v0 v2 v3 h r hx
    unfold R_move_53 at hx
    refine Ev.blk (is := [.iload_n 3, .iload_n 2]) (pc2 := 55) (L2 := [(2, v0), (9, 0), (0, v2), (0, v3)]) (S2 := [(0, v2), (0, v3)]) (h2 := h) (by decide +kernel) rfl trivial ?_
    obtain ⟨ha, hb⟩ := bite hx
    clear hx
    refine Ev.br (i := .if_icmp .le 17) (len := 3) (a := 58) (b := 72) (by decide +kernel) rfl Iff.rfl (fun hc => ?_) (fun hc => ?_)
    · have hx := ha hc
      clear ha hb hc
      refine Ev.blk (is := [.aload_n 0, .iload_n 3, .iload_n 3, .iconst 1, .isub]) (pc2 := 63) (L2 := [(2, v0), (9, 0), (0, v2), (0, v3)]) (S2 := [(0, w32 (v3 - 1)), (0, v3), (2, v0)]) (h2 := h) (by decide +kernel) rfl trivial ?_
      obtain ⟨_, hg, -, hx⟩ := bgd hx
      obtain ⟨h2, hc, hx⟩ := bca hx
      refine Ev.call (args := [(2, v0), (0, v3), (0, w32 (v3 - 1))]) (S2 := []) (r1 := none) (h1 := h2) (i := .invokevirtual 196) (by decide +kernel) rfl rfl (Nat.le_of_ble_eq_true rfl) (Or.inr (Or.inl ⟨rfl, hg, by decide +kernel⟩)) (x_R_becomes (by omega) hc) ?_
      refine Ev.blk (is := [.iinc 3 (-1)]) (pc2 := 69) (L2 := [(2, v0), (9, 0), (0, v2), (0, w32 (v3 + (-1)))]) (S2 := []) (h2 := h2) (by decide +kernel) rfl trivial ?_
      refine Ev.jp (i := .goto (-16)) (len := 3) (pc2 := 53) (by decide +kernel) rfl ?_
      exact ih v0 v2 (w32 (v3 + (-1))) h2 _ hx
    · have hx := hb hc
      clear ha hb hc
      refine Ev.blk (is := [.aload_n 0, .iload_n 2, .sipush 115]) (pc2 := 76) (L2 := [(2, v0), (9, 0), (0, v2), (0, v3)]) (S2 := [(0, 115), (0, v2), (2, v0)]) (h2 := h) (by decide +kernel) rfl trivial ?_
      obtain ⟨_, hg, -, hx⟩ := bgd hx
      obtain ⟨h4, hc, hx⟩ := bca hx
      refine Ev.call (args := [(2, v0), (0, v2), (0, 115)]) (S2 := []) (r1 := none) (h1 := h4) (i := .invokevirtual 196) (by decide +kernel) rfl rfl (Nat.le_of_ble_eq_true rfl) (Or.inr (Or.inl ⟨rfl, hg, by decide +kernel⟩)) (x_R_becomes (by omega) hc) ?_
      refine Ev.blk (is := [.aload_n 0, .iload_n 2]) (pc2 := 81) (L2 := [(2, v0), (9, 0), (0, v2), (0, v3)]) (S2 := [(0, v2), (2, v0)]) (h2 := h4) (by decide +kernel) rfl trivial ?_
      obtain ⟨_, hg, -, hx⟩ := bgd hx
      obtain ⟨u5, hc, hx⟩ := bca hx
      refine Ev.call (args := [(2, v0), (0, v2)]) (S2 := []) (r1 := (some (0, u5.1))) (h1 := u5.2) (i := .invokevirtual 227) (by decide +kernel) rfl rfl (Nat.le_of_ble_eq_true rfl) (Or.inr (Or.inl ⟨rfl, hg, by decide +kernel⟩)) (x_R_isRightLine (by omega) hc) ?_
      obtain ⟨ha, hb⟩ := bite hx
      clear hx
      refine Ev.br (i := .ifCond .eq 7) (len := 3) (a := 91) (b := 87) (by decide +kernel) rfl Iff.rfl (fun hc => ?_) (fun hc => ?_)
      · have hx := ha hc
        clear ha hb hc
        refine Ev.blk (is := [.iconst 0]) (pc2 := 92) (L2 := [(2, v0), (9, 0), (0, v2), (0, v3)]) (S2 := [(0, 0)]) (h2 := u5.2) (by decide +kernel) rfl trivial ?_
        cases hx
        exact Ev.ret (i := .ireturn) (len := 1) (by decide +kernel) rfl (finOf (t := some .int) rfl (trivial))
      · have hx := hb hc
        clear ha hb hc
        refine Ev.blk (is := [.iconst 1]) (pc2 := 88) (L2 := [(2, v0), (9, 0), (0, v2), (0, v3)]) (S2 := [(0, 1)]) (h2 := u5.2) (by decide +kernel) rfl trivial ?_
        refine Ev.jp (i := .goto 4) (len := 3) (pc2 := 92) (by decide +kernel) rfl ?_
        cases hx
        exact Ev.ret (i := .ireturn) (len := 1) (by decide +kernel) rfl (finOf (t := some .int) rfl (trivial))
theorem y_R_move_32 {sc : AS} {d : Nat} (hd : 6 ≤ d) : ∀ (fu : Nat) (v0 : Int) (v1 : Int) (v2 : Int) (v3 : Int) (h : AH) (r : (Int × AH)), R_move_32 fu v0 v1 v2 v3 h = some r → Ev sc d 226 32 [(2, v0), (0, v1), (0, v2), (0, v3)] [] h (some (0, r.1)) r.2 := by
  intro fu
  induction fu with
  | zero => intro v0 v1 v2 v3 h r hx; unfold R_move_32 at hx; cases hx
  | succ fu ih =>
    intro v0 v1 v2 v3 h r hx
    unfold R_move_32 at hx
    refine Ev.blk (is := [.iload_n 3, .iload_n 2]) (pc2 := 34) (L2 := [(2, v0), (0, v1), (0, v2), (0, v3)]) (S2 := [(0, v2), (0, v3)]) (h2 := h) (by decide +kernel) rfl trivial ?_
    obtain ⟨ha, hb⟩ := bite hx
    clear hx
    refine Ev.br (i := .if_icmp .ge 17) (len := 3) (a := 37) (b := 51) (by decide +kernel) rfl Iff.rfl (fun hc => ?_) (fun hc => ?_)
    · have hx := ha hc
      clear ha hb hc
      refine Ev.blk (is := [.aload_n 0, .iload_n 3, .iload_n 3, .iconst 1, .iadd]) (pc2 := 42) (L2 := [(2, v0), (0, v1), (0, v2), (0, v3)]) (S2 := [(0, w32 (v3 + 1)), (0, v3), (2, v0)]) (h2 := h) (by decide +kernel) rfl trivial ?_
      obtain ⟨_, hg, -, hx⟩ := bgd hx
      obtain ⟨h2, hc, hx⟩ := bca hx
      refine Ev.call (args := [(2, v0), (0, v3), (0, w32 (v3 + 1))]) (S2 := []) (r1 := none) (h1 := h2) (i := .invokevirtual 196) (by decide +kernel) rfl rfl (Nat.le_of_ble_eq_true rfl) (Or.inr (Or.inl ⟨rfl, hg, by decide +kernel⟩)) (x_R_becomes (by omega) hc) ?_
      refine Ev.blk (is := [.iinc 3 1]) (pc2 := 48) (L2 := [(2, v0), (0, v1), (0, v2), (0, w32 (v3 + 1))]) (S2 := []) (h2 := h2) (by decide +kernel) rfl trivial ?_
      refine Ev.jp (i := .goto (-16)) (len := 3) (pc2 := 32) (by decide +kernel) rfl ?_
      exact ih v0 v1 v2 (w32 (v3 + 1)) h2 _ hx
    · have hx := hb hc
      clear ha hb hc
      refine Ev.blk (is := [.iload_n 1, .istore_n 3]) (pc2 := 53) (L2 := [(2, v0), (0, v1), (0, v2), (0, v1)]) (S2 := []) (h2 := h) (by decide +kernel) rfl trivial ?_
      refine Ev.wk (L2 := [(2, v0), (9, 0), (0, v2), (0, v1)]) (wkL_of ⟨Or.inl rfl, ⟨Or.inr rfl, ⟨Or.inl rfl, ⟨Or.inl rfl, trivial⟩⟩⟩⟩) ?_
      exact y_R_move_53 hd FU v0 v2 v1 h _ hx
theorem x_R_move {sc : AS} {d : Nat} (hd : 7 ≤ d) {v0 : Int} {v1 : Int} {v2 : Int} {h : AH} {r : (Int × AH)} (hx : R_move v0 v1 v2 h = some r) : Runs sc d 226 [(2, v0), (0, v1), (0, v2)] h (some (0, r.1)) r.2 := by
  obtain ⟨d, rfl⟩ : ∃ e, d = e + 1 := ⟨d - 1, by omega⟩
  have hd : 6 ≤ d := by omega
  unfold R_move at hx
  refine ⟨⟨aM_226, rfl, Nat.le_of_ble_eq_true rfl⟩, ?_⟩
  show Ev sc d 226 0 [(2, v0), (0, v1), (0, v2), (9, 0)] [] h (some (0, r.1)) r.2
  refine Ev.blk (is := [.aload_n 0, .iload_n 1]) (pc2 := 2) (L2 := [(2, v0), (0, v1), (0, v2), (9, 0)]) (S2 := [(0, v1), (2, v0)]) (h2 := h) (by decide +kernel) rfl trivial ?_
  obtain ⟨_, hg, -, hx⟩ := bgd hx
  obtain ⟨u1, hc, hx⟩ := bca hx
  refine Ev.call (args := [(2, v0), (0, v1)]) (S2 := []) (r1 := (some (0, u1))) (h1 := h) (i := .invokevirtual 198) (by decide +kernel) rfl rfl (Nat.le_of_ble_eq_true rfl) (Or.inr (Or.inl ⟨rfl, hg, by decide +kernel⟩)) (x_R_isLine (by omega) hc) ?_
  obtain ⟨ha, hb⟩ := bite hx
  clear hx
  refine Ev.br (i := .ifCond .eq 16) (len := 3) (a := 21) (b := 8) (by decide +kernel) rfl Iff.rfl (fun hc => ?_) (fun hc => ?_)
  · have hx := ha hc
    clear ha hb hc
    refine Ev.blk (is := [.iconst (-1)]) (pc2 := 22) (L2 := [(2, v0), (0, v1), (0, v2), (9, 0)]) (S2 := [(0, (-1))]) (h2 := h) (by decide +kernel) rfl trivial ?_
    cases hx
    exact Ev.ret (i := .ireturn) (len := 1) (by decide +kernel) rfl (finOf (t := some .int) rfl (trivial))
  · have hx := hb hc
    clear ha hb hc
    refine Ev.blk (is := [.aload_n 0, .iload_n 2]) (pc2 := 10) (L2 := [(2, v0), (0, v1), (0, v2), (9, 0)]) (S2 := [(0, v2), (2, v0)]) (h2 := h) (by decide +kernel) rfl trivial ?_
    obtain ⟨_, hg, -, hx⟩ := bgd hx
    obtain ⟨u2, hc, hx⟩ := bca hx
    refine Ev.call (args := [(2, v0), (0, v2)]) (S2 := []) (r1 := (some (0, u2))) (h1 := h) (i := .invokevirtual 198) (by decide +kernel) rfl rfl (Nat.le_of_ble_eq_true rfl) (Or.inr (Or.inl ⟨rfl, hg, by decide +kernel⟩)) (x_R_isLine (by omega) hc) ?_
    obtain ⟨ha, hb⟩ := bite hx
    clear hx
    refine Ev.br (i := .ifCond .eq 8) (len := 3) (a := 21) (b := 16) (by decide +kernel) rfl Iff.rfl (fun hc => ?_) (fun hc => ?_)
    · have hx := ha hc
      clear ha hb hc
      refine Ev.blk (is := [.iconst (-1)]) (pc2 := 22) (L2 := [(2, v0), (0, v1), (0, v2), (9, 0)]) (S2 := [(0, (-1))]) (h2 := h) (by decide +kernel) rfl trivial ?_
      cases hx
      exact Ev.ret (i := .ireturn) (len := 1) (by decide +kernel) rfl (finOf (t := some .int) rfl (trivial))
    · have hx := hb hc
      clear ha hb hc
      refine Ev.blk (is := [.iload_n 1, .iload_n 2]) (pc2 := 18) (L2 := [(2, v0), (0, v1), (0, v2), (9, 0)]) (S2 := [(0, v2), (0, v1)]) (h2 := h) (by decide +kernel) rfl trivial ?_
      obtain ⟨ha, hb⟩ := bite hx
      clear hx
      refine Ev.br (i := .if_icmp .ne 5) (len := 3) (a := 21) (b := 23) (by decide +kernel) rfl Iff.rfl (fun hc => ?_) (fun hc => ?_)
      · have hx := ha hc
        clear ha hb hc
        refine Ev.blk (is := [.iconst (-1)]) (pc2 := 22) (L2 := [(2, v0), (0, v1), (0, v2), (9, 0)]) (S2 := [(0, (-1))]) (h2 := h) (by decide +kernel) rfl trivial ?_
        cases hx
        exact Ev.ret (i := .ireturn) (len := 1) (by decide +kernel) rfl (finOf (t := some .int) rfl (trivial))
      · have hx := hb hc
        clear ha hb hc
        refine Ev.blk (is := [.aload_n 0, .sipush 115, .iload_n 1]) (pc2 := 27) (L2 := [(2, v0), (0, v1), (0, v2), (9, 0)]) (S2 := [(0, v1), (0, 115), (2, v0)]) (h2 := h) (by decide +kernel) rfl trivial ?_
        obtain ⟨_, hg, -, hx⟩ := bgd hx
        obtain ⟨h4, hc, hx⟩ := bca hx
        refine Ev.call (args := [(2, v0), (0, 115), (0, v1)]) (S2 := []) (r1 := none) (h1 := h4) (i := .invokevirtual 196) (by decide +kernel) rfl rfl (Nat.le_of_ble_eq_true rfl) (Or.inr (Or.inl ⟨rfl, hg, by decide +kernel⟩)) (x_R_becomes (by omega) hc) ?_
        refine Ev.blk (is := [.iload_n 1, .istore_n 3]) (pc2 := 32) (L2 := [(2, v0), (0, v1), (0, v2), (0, v1)]) (S2 := []) (h2 := h4) (by decide +kernel) rfl trivial ?_
        exact y_R_move_32 hd FU v0 v1 v2 v1 h4 _ hx
theorem x_R_has {sc : AS} {d : Nat} (hd : 1 ≤ d) {v0 : Int} {v2 : Int} {h : AH} {r : Int} (hx : R_has v0 v2 = some r) : Runs sc d 230 [(1, v0), (0, v2)] h (some (0, r)) h := by
  obtain ⟨d, rfl⟩ : ∃ e, d = e + 1 := ⟨d - 1, by omega⟩
  have hd : 0 ≤ d := by omega
  unfold R_has at hx
  refine ⟨⟨aM_230, rfl, Nat.le_of_ble_eq_true rfl⟩, ?_⟩
  show Ev sc d 230 0 [(1, v0), (8, 0), (0, v2)] [] h (some (0, r)) h
  refine Ev.blk (is := [.lload_n 0, .iload_n 2, .lshr, .lconst 1, .land, .lconst 1, .lcmp]) (pc2 := 7) (L2 := [(1, v0), (8, 0), (0, v2)]) (S2 := [(0, cmpL (andL (shrL v0 v2) 1) 1)]) (h2 := h) (by decide +kernel) rfl trivial ?_
  obtain ⟨ha, hb⟩ := bite hx
  clear hx
  refine Ev.br (i := .ifCond .ne 7) (len := 3) (a := 10) (b := 14) (by decide +kernel) rfl cmpL_eq (fun hc => ?_) (fun hc => ?_)
  · have hx := ha hc
    clear ha hb hc
    refine Ev.blk (is := [.iconst 1]) (pc2 := 11) (L2 := [(1, v0), (8, 0), (0, v2)]) (S2 := [(0, 1)]) (h2 := h) (by decide +kernel) rfl trivial ?_
    refine Ev.jp (i := .goto 4) (len := 3) (pc2 := 15) (by decide +kernel) rfl ?_
    cases hx
    exact Ev.ret (i := .ireturn) (len := 1) (by decide +kernel) rfl (finOf (t := some .boolean) rfl (bz1))
  · have hx := hb hc
    clear ha hb hc
    refine Ev.blk (is := [.iconst 0]) (pc2 := 15) (L2 := [(1, v0), (8, 0), (0, v2)]) (S2 := [(0, 0)]) (h2 := h) (by decide +kernel) rfl trivial ?_
    cases hx
    exact Ev.ret (i := .ireturn) (len := 1) (by decide +kernel) rfl (finOf (t := some .boolean) rfl (bz0))
theorem y_R_props_53 {sc : AS} {d : Nat} (hd : 1 ≤ d) : ∀ (fu : Nat) (v0 : Int) (v1 : Int) (v2 : Int) (v4 : Int) (h : AH) (r : Int), R_props_53 fu v0 v1 v2 v4 h = some r → Ev sc d 231 53 [(2, v0), (0, v1), (1, v2), (8, 0), (0, v4)] [] h (some (1, r)) h := by
  intro fu
  induction fu with
  | zero => intro v0 v1 v2 v4 h r hx; unfold R_props_53 at hx; cases hx
  | succ fu ih =>
    intro v0 v1 v2 v4 h r hx
    unfold R_props_53 at hx
    obtain ⟨u1, hg, he, hx⟩ := bgd hx
    refine Ev.blk (is := [.iload 4, .sipush 9, .iload_n 1, .imul, .aload_n 0, .getfield 9213]) (pc2 := 63) (L2 := [(2, v0), (0, v1), (1, v2), (8, 0), (0, v4)]) (S2 := [(2, u1), (0, w32 (9 * v1)), (0, v4)]) (h2 := h) (by decide +kernel) (by subst he; rfl) (by exact hg) ?_
    clear hg he
    obtain ⟨u2, hg, he, hx⟩ := bgd hx
    refine Ev.blk (is := [.iload_n 1, .iaload]) (pc2 := 65) (L2 := [(2, v0), (0, v1), (1, v2), (8, 0), (0, v4)]) (S2 := [(0, u2), (0, w32 (9 * v1)), (0, v4)]) (h2 := h) (by decide +kernel) (by subst he; rfl) (by exact hg) ?_
    clear hg he
    refine Ev.blk (is := [.iadd]) (pc2 := 66) (L2 := [(2, v0), (0, v1), (1, v2), (8, 0), (0, v4)]) (S2 := [(0, w32 ((w32 (9 * v1)) + u2)), (0, v4)]) (h2 := h) (by decide +kernel) rfl trivial ?_
    obtain ⟨ha, hb⟩ := bite hx
    clear hx
    refine Ev.br (i := .if_icmp .ge 26) (len := 3) (a := 69) (b := 92) (by decide +kernel) rfl Iff.rfl (fun hc => ?_) (fun hc => ?_)
    · have hx := ha hc
      clear ha hb hc
      obtain ⟨u3, hg, he, hx⟩ := bgd hx
      refine Ev.blk (is := [.lload_n 2, .lconst 1, .aload_n 0, .aload_n 0, .getfield 9217]) (pc2 := 76) (L2 := [(2, v0), (0, v1), (1, v2), (8, 0), (0, v4)]) (S2 := [(2, u3), (2, v0), (1, 1), (1, v2)]) (h2 := h) (by decide +kernel) (by subst he; rfl) (by exact hg) ?_
      clear hg he
      obtain ⟨u4, hg, he, hx⟩ := bgd hx
      refine Ev.blk (is := [.iload 4, .iaload]) (pc2 := 79) (L2 := [(2, v0), (0, v1), (1, v2), (8, 0), (0, v4)]) (S2 := [(0, u4), (2, v0), (1, 1), (1, v2)]) (h2 := h) (by decide +kernel) (by subst he; rfl) (by exact hg) ?_
      clear hg he
      refine Ev.blk (is := [.iload_n 1]) (pc2 := 80) (L2 := [(2, v0), (0, v1), (1, v2), (8, 0), (0, v4)]) (S2 := [(0, v1), (0, u4), (2, v0), (1, 1), (1, v2)]) (h2 := h) (by decide +kernel) rfl trivial ?_
      obtain ⟨_, hg, -, hx⟩ := bgd hx
      obtain ⟨u5, hc, hx⟩ := bca hx
      refine Ev.call (args := [(2, v0), (0, u4), (0, v1)]) (S2 := [(1, 1), (1, v2)]) (r1 := (some (0, u5))) (h1 := h) (i := .invokevirtual 169) (by decide +kernel) rfl rfl (Nat.le_of_ble_eq_true rfl) (Or.inr (Or.inl ⟨rfl, hg, by decide +kernel⟩)) (x_R_lineFor (by omega) hc) ?_
      refine Ev.blk (is := [.lshl, .lor, .lstore_n 2, .iinc 4 1]) (pc2 := 89) (L2 := [(2, v0), (0, v1), (1, orL v2 (shlL 1 u5)), (8, 0), (0, w32 (v4 + 1))]) (S2 := []) (h2 := h) (by decide +kernel) rfl trivial ?_
      refine Ev.jp (i := .goto (-36)) (len := 3) (pc2 := 53) (by decide +kernel) rfl ?_
      exact ih v0 v1 (orL v2 (shlL 1 u5)) (w32 (v4 + 1)) h _ hx
    · have hx := hb hc
      clear ha hb hc
      refine Ev.blk (is := [.lload_n 2]) (pc2 := 93) (L2 := [(2, v0), (0, v1), (1, v2), (8, 0), (0, v4)]) (S2 := [(1, v2)]) (h2 := h) (by decide +kernel) rfl trivial ?_
      cases hx
      exact Ev.ret (i := .lreturn) (len := 1) (by decide +kernel) rfl (finOf (t := some .long) rfl (trivial))
theorem y_R_props_8 {sc : AS} {d : Nat} (hd : 1 ≤ d) : ∀ (fu : Nat) (v0 : Int) (v1 : Int) (v2 : Int) (v4 : Int) (h : AH) (r : Int), R_props_8 fu v0 v1 v2 v4 h = some r → Ev sc d 231 8 [(2, v0), (0, v1), (1, v2), (8, 0), (0, v4)] [] h (some (1, r)) h := by
  intro fu
  induction fu with
  | zero => intro v0 v1 v2 v4 h r hx; unfold R_props_8 at hx; cases hx
  | succ fu ih =>
    intro v0 v1 v2 v4 h r hx
    unfold R_props_8 at hx
    obtain ⟨u1, hg, he, hx⟩ := bgd hx
    refine Ev.blk (is := [.iload 4, .sipush 9, .iload_n 1, .imul, .aload_n 0, .getfield 9212]) (pc2 := 18) (L2 := [(2, v0), (0, v1), (1, v2), (8, 0), (0, v4)]) (S2 := [(2, u1), (0, w32 (9 * v1)), (0, v4)]) (h2 := h) (by decide +kernel) (by subst he; rfl) (by exact hg) ?_
    clear hg he
    obtain ⟨u2, hg, he, hx⟩ := bgd hx
    refine Ev.blk (is := [.iload_n 1, .iaload]) (pc2 := 20) (L2 := [(2, v0), (0, v1), (1, v2), (8, 0), (0, v4)]) (S2 := [(0, u2), (0, w32 (9 * v1)), (0, v4)]) (h2 := h) (by decide +kernel) (by subst he; rfl) (by exact hg) ?_
    clear hg he
    refine Ev.blk (is := [.iadd]) (pc2 := 21) (L2 := [(2, v0), (0, v1), (1, v2), (8, 0), (0, v4)]) (S2 := [(0, w32 ((w32 (9 * v1)) + u2)), (0, v4)]) (h2 := h) (by decide +kernel) rfl trivial ?_
    obtain ⟨ha, hb⟩ := bite hx
    clear hx
    refine Ev.br (i := .if_icmp .ge 26) (len := 3) (a := 24) (b := 47) (by decide +kernel) rfl Iff.rfl (fun hc => ?_) (fun hc => ?_)
    · have hx := ha hc
      clear ha hb hc
      obtain ⟨u3, hg, he, hx⟩ := bgd hx
      refine Ev.blk (is := [.lload_n 2, .lconst 1, .aload_n 0, .aload_n 0, .getfield 9214]) (pc2 := 31) (L2 := [(2, v0), (0, v1), (1, v2), (8, 0), (0, v4)]) (S2 := [(2, u3), (2, v0), (1, 1), (1, v2)]) (h2 := h) (by decide +kernel) (by subst he; rfl) (by exact hg) ?_
      clear hg he
      obtain ⟨u4, hg, he, hx⟩ := bgd hx
      refine Ev.blk (is := [.iload 4, .iaload]) (pc2 := 34) (L2 := [(2, v0), (0, v1), (1, v2), (8, 0), (0, v4)]) (S2 := [(0, u4), (2, v0), (1, 1), (1, v2)]) (h2 := h) (by decide +kernel) (by subst he; rfl) (by exact hg) ?_
      clear hg he
      refine Ev.blk (is := [.iload_n 1]) (pc2 := 35) (L2 := [(2, v0), (0, v1), (1, v2), (8, 0), (0, v4)]) (S2 := [(0, v1), (0, u4), (2, v0), (1, 1), (1, v2)]) (h2 := h) (by decide +kernel) rfl trivial ?_
      obtain ⟨_, hg, -, hx⟩ := bgd hx
      obtain ⟨u5, hc, hx⟩ := bca hx
      refine Ev.call (args := [(2, v0), (0, u4), (0, v1)]) (S2 := [(1, 1), (1, v2)]) (r1 := (some (0, u5))) (h1 := h) (i := .invokevirtual 169) (by decide +kernel) rfl rfl (Nat.le_of_ble_eq_true rfl) (Or.inr (Or.inl ⟨rfl, hg, by decide +kernel⟩)) (x_R_lineFor (by omega) hc) ?_
      refine Ev.blk (is := [.lshl, .lor, .lstore_n 2, .iinc 4 1]) (pc2 := 44) (L2 := [(2, v0), (0, v1), (1, orL v2 (shlL 1 u5)), (8, 0), (0, w32 (v4 + 1))]) (S2 := []) (h2 := h) (by decide +kernel) rfl trivial ?_
      refine Ev.jp (i := .goto (-36)) (len := 3) (pc2 := 8) (by decide +kernel) rfl ?_
      exact ih v0 v1 (orL v2 (shlL 1 u5)) (w32 (v4 + 1)) h _ hx
    · have hx := hb hc
      clear ha hb hc
      refine Ev.blk (is := [.sipush 9, .iload_n 1, .imul, .istore 4]) (pc2 := 53) (L2 := [(2, v0), (0, v1), (1, v2), (8, 0), (0, w32 (9 * v1))]) (S2 := []) (h2 := h) (by decide +kernel) rfl trivial ?_
      exact y_R_props_53 hd FU v0 v1 v2 (w32 (9 * v1)) h _ hx
theorem x_R_props {sc : AS} {d : Nat} (hd : 2 ≤ d) {v0 : Int} {v1 : Int} {h : AH} {r : Int} (hx : R_props v0 v1 h = some r) : Runs sc d 231 [(2, v0), (0, v1)] h (some (1, r)) h := by
  obtain ⟨d, rfl⟩ : ∃ e, d = e + 1 := ⟨d - 1, by omega⟩
  have hd : 1 ≤ d := by omega
  unfold R_props at hx
  refine ⟨⟨aM_231, rfl, Nat.le_of_ble_eq_true rfl⟩, ?_⟩
  show Ev sc d 231 0 [(2, v0), (0, v1), (9, 0), (9, 0), (9, 0)] [] h (some (1, r)) h
  refine Ev.blk (is := [.lconst 0, .lstore_n 2, .sipush 9, .iload_n 1, .imul, .istore 4]) (pc2 := 8) (L2 := [(2, v0), (0, v1), (1, 0), (8, 0), (0, w32 (9 * v1))]) (S2 := []) (h2 := h) (by decide +kernel) rfl trivial ?_
  exact y_R_props_8 hd FU v0 v1 0 (w32 (9 * v1)) h _ hx
theorem y_R_restsOf_7 {sc : AS} {d : Nat} (hd : 2 ≤ d) : ∀ (fu : Nat) (v0 : Int) (v2 : Int) (v4 : Int) (h : AH) (r : Int), R_restsOf_7 fu v0 v2 v4 h = some r → Ev sc d 229 7 [(2, v0), (9, 0), (1, v2), (8, 0), (0, v4)] [] h (some (1, r)) h := by
  intro fu
  induction fu with
  | zero => intro v0 v2 v4 h r hx; unfold R_restsOf_7 at hx; cases hx
  | succ fu ih =>
    intro v0 v2 v4 h r hx
    unfold R_restsOf_7 at hx
    refine Ev.blk (is := [.iload 4]) (pc2 := 9) (L2 := [(2, v0), (9, 0), (1, v2), (8, 0), (0, v4)]) (S2 := [(0, v4)]) (h2 := h) (by decide +kernel) rfl trivial ?_
    obtain ⟨ha, hb⟩ := bite hx
    clear hx
    refine Ev.br (i := .ifCond .lt 27) (len := 3) (a := 36) (b := 12) (by decide +kernel) rfl Iff.rfl (fun hc => ?_) (fun hc => ?_)
    · have hx := ha hc
      clear ha hb hc
      refine Ev.blk (is := [.lload_n 2]) (pc2 := 37) (L2 := [(2, v0), (9, 0), (1, v2), (8, 0), (0, v4)]) (S2 := [(1, v2)]) (h2 := h) (by decide +kernel) rfl trivial ?_
      cases hx
      exact Ev.ret (i := .lreturn) (len := 1) (by decide +kernel) rfl (finOf (t := some .long) rfl (trivial))
    · have hx := hb hc
      clear ha hb hc
      refine Ev.blk (is := [.lload_n 2, .iload 4]) (pc2 := 15) (L2 := [(2, v0), (9, 0), (1, v2), (8, 0), (0, v4)]) (S2 := [(0, v4), (1, v2)]) (h2 := h) (by decide +kernel) rfl trivial ?_
      obtain ⟨u1, hc, hx⟩ := bca hx
      refine Ev.call (args := [(1, v2), (0, v4)]) (S2 := []) (r1 := (some (0, u1))) (h1 := h) (i := .invokestatic 230) (by decide +kernel) rfl rfl (Nat.le_of_ble_eq_true rfl) (Or.inl rfl) (x_R_has (by omega) hc) ?_
      obtain ⟨ha, hb⟩ := bite hx
      clear hx
      refine Ev.br (i := .ifCond .eq 12) (len := 3) (a := 30) (b := 21) (by decide +kernel) rfl Iff.rfl (fun hc => ?_) (fun hc => ?_)
      · have hx := ha hc
        clear ha hb hc
        refine Ev.blk (is := [.iinc 4 (-1)]) (pc2 := 33) (L2 := [(2, v0), (9, 0), (1, v2), (8, 0), (0, w32 (v4 + (-1)))]) (S2 := []) (h2 := h) (by decide +kernel) rfl trivial ?_
        refine Ev.jp (i := .goto (-26)) (len := 3) (pc2 := 7) (by decide +kernel) rfl ?_
        exact ih v0 v2 (w32 (v4 + (-1))) h _ hx
      · have hx := hb hc
        clear ha hb hc
        refine Ev.blk (is := [.lload_n 2, .aload_n 0, .iload 4]) (pc2 := 25) (L2 := [(2, v0), (9, 0), (1, v2), (8, 0), (0, v4)]) (S2 := [(0, v4), (2, v0), (1, v2)]) (h2 := h) (by decide +kernel) rfl trivial ?_
        obtain ⟨_, hg, -, hx⟩ := bgd hx
        obtain ⟨u2, hc, hx⟩ := bca hx
        refine Ev.call (args := [(2, v0), (0, v4)]) (S2 := [(1, v2)]) (r1 := (some (1, u2))) (h1 := h) (i := .invokevirtual 231) (by decide +kernel) rfl rfl (Nat.le_of_ble_eq_true rfl) (Or.inr (Or.inl ⟨rfl, hg, by decide +kernel⟩)) (x_R_props (by omega) hc) ?_
        refine Ev.blk (is := [.lor, .lstore_n 2, .iinc 4 (-1)]) (pc2 := 33) (L2 := [(2, v0), (9, 0), (1, orL v2 u2), (8, 0), (0, w32 (v4 + (-1)))]) (S2 := []) (h2 := h) (by decide +kernel) rfl trivial ?_
        refine Ev.jp (i := .goto (-26)) (len := 3) (pc2 := 7) (by decide +kernel) rfl ?_
        exact ih v0 (orL v2 u2) (w32 (v4 + (-1))) h _ hx
theorem x_R_restsOf {sc : AS} {d : Nat} (hd : 3 ≤ d) {v0 : Int} {v1 : Int} {h : AH} {r : Int} (hx : R_restsOf v0 v1 h = some r) : Runs sc d 229 [(2, v0), (0, v1)] h (some (1, r)) h := by
  obtain ⟨d, rfl⟩ : ∃ e, d = e + 1 := ⟨d - 1, by omega⟩
  have hd : 2 ≤ d := by omega
  unfold R_restsOf at hx
  refine ⟨⟨aM_229, rfl, Nat.le_of_ble_eq_true rfl⟩, ?_⟩
  show Ev sc d 229 0 [(2, v0), (0, v1), (9, 0), (9, 0), (9, 0)] [] h (some (1, r)) h
  refine Ev.blk (is := [.lconst 1, .iload_n 1, .lshl, .lstore_n 2, .iload_n 1, .istore 4]) (pc2 := 7) (L2 := [(2, v0), (0, v1), (1, shlL 1 v1), (8, 0), (0, v1)]) (S2 := []) (h2 := h) (by decide +kernel) rfl trivial ?_
  refine Ev.wk (L2 := [(2, v0), (9, 0), (1, shlL 1 v1), (8, 0), (0, v1)]) (wkL_of ⟨Or.inl rfl, ⟨Or.inr rfl, ⟨Or.inl rfl, ⟨Or.inl rfl, ⟨Or.inl rfl, trivial⟩⟩⟩⟩⟩) ?_
  exact y_R_restsOf_7 hd FU v0 (shlL 1 v1) v1 h _ hx
theorem y_R_prune_33 {sc : AS} {d : Nat} (hd : 6 ≤ d) : ∀ (fu : Nat) (v0 : Int) (v2 : Int) (v4 : Int) (v5 : Int) (h : AH) (r : (Int × AH)), R_prune_33 fu v0 v2 v4 v5 h = some r → Ev sc d 228 33 [(2, v0), (9, 0), (1, v2), (8, 0), (0, v4), (0, v5)] [] h (some (0, r.1)) r.2 := by
  intro fu
  induction fu with
  | zero => intro v0 v2 v4 v5 h r hx; unfold R_prune_33 at hx; cases hx
  | succ fu ih =>
    intro v0 v2 v4 v5 h r hx
    unfold R_prune_33 at hx
    obtain ⟨u1, hg, he, hx⟩ := bgd hx
    refine Ev.blk (is := [.iload 5, .aload_n 0, .getfield 9007]) (pc2 := 39) (L2 := [(2, v0), (9, 0), (1, v2), (8, 0), (0, v4), (0, v5)]) (S2 := [(0, u1), (0, v5)]) (h2 := h) (by decide +kernel) (by subst he; rfl) (by exact hg) ?_
    clear hg he
    obtain ⟨ha, hb⟩ := bite hx
    clear hx
    refine Ev.br (i := .if_icmp .ge 39) (len := 3) (a := 42) (b := 78) (by decide +kernel) rfl Iff.rfl (fun hc => ?_) (fun hc => ?_)
    · have hx := ha hc
      clear ha hb hc
      refine Ev.blk (is := [.lload_n 2, .iload 5]) (pc2 := 45) (L2 := [(2, v0), (9, 0), (1, v2), (8, 0), (0, v4), (0, v5)]) (S2 := [(0, v5), (1, v2)]) (h2 := h) (by decide +kernel) rfl trivial ?_
      obtain ⟨u2, hc, hx⟩ := bca hx
      refine Ev.call (args := [(1, v2), (0, v5)]) (S2 := []) (r1 := (some (0, u2))) (h1 := h) (i := .invokestatic 230) (by decide +kernel) rfl rfl (Nat.le_of_ble_eq_true rfl) (Or.inl rfl) (x_R_has (by omega) hc) ?_
      obtain ⟨ha, hb⟩ := bite hx
      clear hx
      refine Ev.br (i := .ifCond .ne 6) (len := 3) (a := 51) (b := 54) (by decide +kernel) rfl Iff.rfl (fun hc => ?_) (fun hc => ?_)
      · have hx := ha hc
        clear ha hb hc
        refine Ev.jp (i := .goto 21) (len := 3) (pc2 := 72) (by decide +kernel) rfl ?_
        refine Ev.blk (is := [.iinc 5 1]) (pc2 := 75) (L2 := [(2, v0), (9, 0), (1, v2), (8, 0), (0, v4), (0, w32 (v5 + 1))]) (S2 := []) (h2 := h) (by decide +kernel) rfl trivial ?_
        refine Ev.jp (i := .goto (-42)) (len := 3) (pc2 := 33) (by decide +kernel) rfl ?_
        exact ih v0 v2 v4 (w32 (v5 + 1)) h _ hx
      · have hx := hb hc
        clear ha hb hc
        refine Ev.blk (is := [.iload 4, .iload 5]) (pc2 := 58) (L2 := [(2, v0), (9, 0), (1, v2), (8, 0), (0, v4), (0, v5)]) (S2 := [(0, v5), (0, v4)]) (h2 := h) (by decide +kernel) rfl trivial ?_
        obtain ⟨ha, hb⟩ := bite hx
        clear hx
        refine Ev.br (i := .if_icmp .eq 11) (len := 3) (a := 69) (b := 61) (by decide +kernel) rfl Iff.rfl (fun hc => ?_) (fun hc => ?_)
        · have hx := ha hc
          clear ha hb hc
          refine Ev.blk (is := [.iinc 4 1, .iinc 5 1]) (pc2 := 75) (L2 := [(2, v0), (9, 0), (1, v2), (8, 0), (0, w32 (v4 + 1)), (0, w32 (v5 + 1))]) (S2 := []) (h2 := h) (by decide +kernel) rfl trivial ?_
          refine Ev.jp (i := .goto (-42)) (len := 3) (pc2 := 33) (by decide +kernel) rfl ?_
          exact ih v0 v2 (w32 (v4 + 1)) (w32 (v5 + 1)) h _ hx
        · have hx := hb hc
          clear ha hb hc
          refine Ev.blk (is := [.aload_n 0, .iload 4, .iload 5]) (pc2 := 66) (L2 := [(2, v0), (9, 0), (1, v2), (8, 0), (0, v4), (0, v5)]) (S2 := [(0, v5), (0, v4), (2, v0)]) (h2 := h) (by decide +kernel) rfl trivial ?_
          obtain ⟨_, hg, -, hx⟩ := bgd hx
          obtain ⟨h4, hc, hx⟩ := bca hx
          refine Ev.call (args := [(2, v0), (0, v4), (0, v5)]) (S2 := []) (r1 := none) (h1 := h4) (i := .invokevirtual 196) (by decide +kernel) rfl rfl (Nat.le_of_ble_eq_true rfl) (Or.inr (Or.inl ⟨rfl, hg, by decide +kernel⟩)) (x_R_becomes (by omega) hc) ?_
          refine Ev.blk (is := [.iinc 4 1, .iinc 5 1]) (pc2 := 75) (L2 := [(2, v0), (9, 0), (1, v2), (8, 0), (0, w32 (v4 + 1)), (0, w32 (v5 + 1))]) (S2 := []) (h2 := h4) (by decide +kernel) rfl trivial ?_
          refine Ev.jp (i := .goto (-42)) (len := 3) (pc2 := 33) (by decide +kernel) rfl ?_
          exact ih v0 v2 (w32 (v4 + 1)) (w32 (v5 + 1)) h4 _ hx
    · have hx := hb hc
      clear ha hb hc
      obtain ⟨h5, hg, he, hx⟩ := bgd hx
      refine Ev.blk (is := [.aload_n 0, .iload 4, .putfield 9007]) (pc2 := 84) (L2 := [(2, v0), (9, 0), (1, v2), (8, 0), (0, v4), (0, v5)]) (S2 := []) (h2 := h5) (by decide +kernel) (by subst he; rfl) (by exact hg) ?_
      clear hg he
      obtain ⟨u6, hg, he, hx⟩ := bgd hx
      refine Ev.blk (is := [.aload_n 0, .getfield 9007]) (pc2 := 88) (L2 := [(2, v0), (9, 0), (1, v2), (8, 0), (0, v4), (0, v5)]) (S2 := [(0, u6)]) (h2 := h5) (by decide +kernel) (by subst he; rfl) (by exact hg) ?_
      clear hg he
      cases hx
      exact Ev.ret (i := .ireturn) (len := 1) (by decide +kernel) rfl (finOf (t := some .int) rfl (trivial))
theorem x_R_prune {sc : AS} {d : Nat} (hd : 7 ≤ d) {v0 : Int} {v1 : Int} {h : AH} {r : (Int × AH)} (hx : R_prune v0 v1 h = some r) : Runs sc d 228 [(2, v0), (0, v1)] h (some (0, r.1)) r.2 := by
  obtain ⟨d, rfl⟩ : ∃ e, d = e + 1 := ⟨d - 1, by omega⟩
  have hd : 6 ≤ d := by omega
  unfold R_prune at hx
  refine ⟨⟨aM_228, rfl, Nat.le_of_ble_eq_true rfl⟩, ?_⟩
  show Ev sc d 228 0 [(2, v0), (0, v1), (9, 0), (9, 0), (9, 0), (9, 0)] [] h (some (0, r.1)) r.2
  refine Ev.blk (is := [.aload_n 0, .iload_n 1]) (pc2 := 2) (L2 := [(2, v0), (0, v1), (9, 0), (9, 0), (9, 0), (9, 0)]) (S2 := [(0, v1), (2, v0)]) (h2 := h) (by decide +kernel) rfl trivial ?_
  obtain ⟨_, hg, -, hx⟩ := bgd hx
  obtain ⟨u1, hc, hx⟩ := bca hx
  refine Ev.call (args := [(2, v0), (0, v1)]) (S2 := []) (r1 := (some (0, u1))) (h1 := h) (i := .invokevirtual 198) (by decide +kernel) rfl rfl (Nat.le_of_ble_eq_true rfl) (Or.inr (Or.inl ⟨rfl, hg, by decide +kernel⟩)) (x_R_isLine (by omega) hc) ?_
  obtain ⟨ha, hb⟩ := bite hx
  clear hx
  refine Ev.br (i := .ifCond .ne 5) (len := 3) (a := 8) (b := 10) (by decide +kernel) rfl Iff.rfl (fun hc => ?_) (fun hc => ?_)
  · have hx := ha hc
    clear ha hb hc
    refine Ev.blk (is := [.iconst (-1)]) (pc2 := 9) (L2 := [(2, v0), (0, v1), (9, 0), (9, 0), (9, 0), (9, 0)]) (S2 := [(0, (-1))]) (h2 := h) (by decide +kernel) rfl trivial ?_
    cases hx
    exact Ev.ret (i := .ireturn) (len := 1) (by decide +kernel) rfl (finOf (t := some .int) rfl (trivial))
  · have hx := hb hc
    clear ha hb hc
    refine Ev.blk (is := [.aload_n 0, .iload_n 1]) (pc2 := 12) (L2 := [(2, v0), (0, v1), (9, 0), (9, 0), (9, 0), (9, 0)]) (S2 := [(0, v1), (2, v0)]) (h2 := h) (by decide +kernel) rfl trivial ?_
    obtain ⟨_, hg, -, hx⟩ := bgd hx
    obtain ⟨u2, hc, hx⟩ := bca hx
    refine Ev.call (args := [(2, v0), (0, v1)]) (S2 := []) (r1 := (some (0, u2.1))) (h1 := u2.2) (i := .invokevirtual 227) (by decide +kernel) rfl rfl (Nat.le_of_ble_eq_true rfl) (Or.inr (Or.inl ⟨rfl, hg, by decide +kernel⟩)) (x_R_isRightLine (by omega) hc) ?_
    obtain ⟨ha, hb⟩ := bite hx
    clear hx
    refine Ev.br (i := .ifCond .ne 6) (len := 3) (a := 18) (b := 21) (by decide +kernel) rfl Iff.rfl (fun hc => ?_) (fun hc => ?_)
    · have hx := ha hc
      clear ha hb hc
      refine Ev.blk (is := [.sipush (-2)]) (pc2 := 20) (L2 := [(2, v0), (0, v1), (9, 0), (9, 0), (9, 0), (9, 0)]) (S2 := [(0, (-2))]) (h2 := u2.2) (by decide +kernel) rfl trivial ?_
      cases hx
      exact Ev.ret (i := .ireturn) (len := 1) (by decide +kernel) rfl (finOf (t := some .int) rfl (trivial))
    · have hx := hb hc
      clear ha hb hc
      refine Ev.blk (is := [.aload_n 0, .iload_n 1]) (pc2 := 23) (L2 := [(2, v0), (0, v1), (9, 0), (9, 0), (9, 0), (9, 0)]) (S2 := [(0, v1), (2, v0)]) (h2 := u2.2) (by decide +kernel) rfl trivial ?_
      obtain ⟨_, hg, -, hx⟩ := bgd hx
      obtain ⟨u3, hc, hx⟩ := bca hx
      refine Ev.call (args := [(2, v0), (0, v1)]) (S2 := []) (r1 := (some (1, u3))) (h1 := u2.2) (i := .invokevirtual 229) (by decide +kernel) rfl rfl (Nat.le_of_ble_eq_true rfl) (Or.inr (Or.inl ⟨rfl, hg, by decide +kernel⟩)) (x_R_restsOf (by omega) hc) ?_
      refine Ev.blk (is := [.lstore_n 2, .iconst 0, .istore 4, .iconst 0, .istore 5]) (pc2 := 33) (L2 := [(2, v0), (0, v1), (1, u3), (8, 0), (0, 0), (0, 0)]) (S2 := []) (h2 := u2.2) (by decide +kernel) rfl trivial ?_
      refine Ev.wk (L2 := [(2, v0), (9, 0), (1, u3), (8, 0), (0, 0), (0, 0)]) (wkL_of ⟨Or.inl rfl, ⟨Or.inr rfl, ⟨Or.inl rfl, ⟨Or.inl rfl, ⟨Or.inl rfl, ⟨Or.inl rfl, trivial⟩⟩⟩⟩⟩⟩) ?_
      exact y_R_prune_33 hd FU v0 u3 0 0 u2.2 _ hx
theorem x_R_drop {sc : AS} {d : Nat} (hd : 1 ≤ d) {v0 : Int} {h : AH} {r : (Int × AH)} (hx : R_drop v0 h = some r) : Runs sc d 232 [(2, v0)] h (some (0, r.1)) r.2 := by
  obtain ⟨d, rfl⟩ : ∃ e, d = e + 1 := ⟨d - 1, by omega⟩
  have hd : 0 ≤ d := by omega
  unfold R_drop at hx
  refine ⟨⟨aM_232, rfl, Nat.le_of_ble_eq_true rfl⟩, ?_⟩
  show Ev sc d 232 0 [(2, v0)] [] h (some (0, r.1)) r.2
  obtain ⟨u1, hg, he, hx⟩ := bgd hx
  refine Ev.blk (is := [.aload_n 0, .getfield 9007]) (pc2 := 4) (L2 := [(2, v0)]) (S2 := [(0, u1)]) (h2 := h) (by decide +kernel) (by subst he; rfl) (by exact hg) ?_
  clear hg he
  obtain ⟨ha, hb⟩ := bite hx
  clear hx
  refine Ev.br (i := .ifCond .ne 5) (len := 3) (a := 7) (b := 9) (by decide +kernel) rfl Iff.rfl (fun hc => ?_) (fun hc => ?_)
  · have hx := ha hc
    clear ha hb hc
    refine Ev.blk (is := [.iconst (-1)]) (pc2 := 8) (L2 := [(2, v0)]) (S2 := [(0, (-1))]) (h2 := h) (by decide +kernel) rfl trivial ?_
    cases hx
    exact Ev.ret (i := .ireturn) (len := 1) (by decide +kernel) rfl (finOf (t := some .int) rfl (trivial))
  · have hx := hb hc
    clear ha hb hc
    obtain ⟨u2, hg, he, hx⟩ := bgd hx
    refine Ev.blk (is := [.aload_n 0, .dup, .getfield 9007]) (pc2 := 14) (L2 := [(2, v0)]) (S2 := [(0, u2), (2, v0)]) (h2 := h) (by decide +kernel) (by subst he; rfl) (by exact hg) ?_
    clear hg he
    obtain ⟨h3, hg, he, hx⟩ := bgd hx
    refine Ev.blk (is := [.iconst 1, .isub, .putfield 9007]) (pc2 := 19) (L2 := [(2, v0)]) (S2 := []) (h2 := h3) (by decide +kernel) (by subst he; rfl) (by exact hg) ?_
    clear hg he
    obtain ⟨u4, hg, he, hx⟩ := bgd hx
    refine Ev.blk (is := [.aload_n 0, .getfield 9007]) (pc2 := 23) (L2 := [(2, v0)]) (S2 := [(0, u4)]) (h2 := h3) (by decide +kernel) (by subst he; rfl) (by exact hg) ?_
    clear hg he
    cases hx
    exact Ev.ret (i := .ireturn) (len := 1) (by decide +kernel) rfl (finOf (t := some .int) rfl (trivial))
theorem x_R_clear {sc : AS} {d : Nat} (hd : 1 ≤ d) {v0 : Int} {h : AH} {r : (Int × AH)} (hx : R_clear v0 h = some r) : Runs sc d 233 [(2, v0)] h (some (0, r.1)) r.2 := by
  obtain ⟨d, rfl⟩ : ∃ e, d = e + 1 := ⟨d - 1, by omega⟩
  have hd : 0 ≤ d := by omega
  unfold R_clear at hx
  refine ⟨⟨aM_233, rfl, Nat.le_of_ble_eq_true rfl⟩, ?_⟩
  show Ev sc d 233 0 [(2, v0), (9, 0)] [] h (some (0, r.1)) r.2
  obtain ⟨u1, hg, he, hx⟩ := bgd hx
  refine Ev.blk (is := [.aload_n 0, .getfield 9007]) (pc2 := 4) (L2 := [(2, v0), (9, 0)]) (S2 := [(0, u1)]) (h2 := h) (by decide +kernel) (by subst he; rfl) (by exact hg) ?_
  clear hg he
  obtain ⟨h2, hg, he, hx⟩ := bgd hx
  refine Ev.blk (is := [.istore_n 1, .aload_n 0, .iconst 0, .putfield 9007]) (pc2 := 10) (L2 := [(2, v0), (0, u1)]) (S2 := []) (h2 := h2) (by decide +kernel) (by subst he; rfl) (by exact hg) ?_
  clear hg he
  refine Ev.blk (is := [.iload_n 1]) (pc2 := 11) (L2 := [(2, v0), (0, u1)]) (S2 := [(0, u1)]) (h2 := h2) (by decide +kernel) rfl trivial ?_
  cases hx
  exact Ev.ret (i := .ireturn) (len := 1) (by decide +kernel) rfl (finOf (t := some .int) rfl (trivial))
theorem x_R_line {sc : AS} {d : Nat} (hd : 6 ≤ d) {v0 : Int} {v1 : Int} {v2 : Int} {h : AH} {r : (Int × AH)} (hx : R_line v0 v1 v2 h = some r) : Runs sc d 234 [(2, v0), (0, v1), (0, v2)] h (some (0, r.1)) r.2 := by
  obtain ⟨d, rfl⟩ : ∃ e, d = e + 1 := ⟨d - 1, by omega⟩
  have hd : 5 ≤ d := by omega
  unfold R_line at hx
  refine ⟨⟨aM_234, rfl, Nat.le_of_ble_eq_true rfl⟩, ?_⟩
  show Ev sc d 234 0 [(2, v0), (0, v1), (0, v2)] [] h (some (0, r.1)) r.2
  refine Ev.blk (is := [.aload_n 0, .iload_n 1]) (pc2 := 2) (L2 := [(2, v0), (0, v1), (0, v2)]) (S2 := [(0, v1), (2, v0)]) (h2 := h) (by decide +kernel) rfl trivial ?_
  obtain ⟨_, hg, -, hx⟩ := bgd hx
  obtain ⟨u1, hc, hx⟩ := bca hx
  refine Ev.call (args := [(2, v0), (0, v1)]) (S2 := []) (r1 := (some (0, u1))) (h1 := h) (i := .invokevirtual 198) (by decide +kernel) rfl rfl (Nat.le_of_ble_eq_true rfl) (Or.inr (Or.inl ⟨rfl, hg, by decide +kernel⟩)) (x_R_isLine (by omega) hc) ?_
  obtain ⟨ha, hb⟩ := bite hx
  clear hx
  refine Ev.br (i := .ifCond .ne 5) (len := 3) (a := 8) (b := 10) (by decide +kernel) rfl Iff.rfl (fun hc => ?_) (fun hc => ?_)
  · have hx := ha hc
    clear ha hb hc
    refine Ev.blk (is := [.iconst (-1)]) (pc2 := 9) (L2 := [(2, v0), (0, v1), (0, v2)]) (S2 := [(0, (-1))]) (h2 := h) (by decide +kernel) rfl trivial ?_
    cases hx
    exact Ev.ret (i := .ireturn) (len := 1) (by decide +kernel) rfl (finOf (t := some .int) rfl (trivial))
  · have hx := hb hc
    clear ha hb hc
    refine Ev.blk (is := [.iload_n 2]) (pc2 := 11) (L2 := [(2, v0), (0, v1), (0, v2)]) (S2 := [(0, v2)]) (h2 := h) (by decide +kernel) rfl trivial ?_
    obtain ⟨ha, hb⟩ := bite hx
    clear hx
    by_cases hc0 : v2 = 0
    · have hx := ha hc0
      clear ha hb
      refine Ev.jp (i := .tableswitch 94 0 6 #[41, 48, 55, 62, 69, 76, 83]) (len := 41) (pc2 := 52) (by decide +kernel) (by rw [hc0]; rfl) ?_
      clear hc0
      obtain ⟨u2, hg, he, hx⟩ := bgd hx
      refine Ev.blk (is := [.aload_n 0, .getfield 9208]) (pc2 := 56) (L2 := [(2, v0), (0, v1), (0, v2)]) (S2 := [(2, u2)]) (h2 := h) (by decide +kernel) (by subst he; rfl) (by exact hg) ?_
      clear hg he
      obtain ⟨u3, hg, he, hx⟩ := bgd hx
      refine Ev.blk (is := [.iload_n 1, .iaload]) (pc2 := 58) (L2 := [(2, v0), (0, v1), (0, v2)]) (S2 := [(0, u3)]) (h2 := h) (by decide +kernel) (by subst he; rfl) (by exact hg) ?_
      clear hg he
      cases hx
      exact Ev.ret (i := .ireturn) (len := 1) (by decide +kernel) rfl (finOf (t := some .int) rfl (trivial))
    have hx := hb hc0
    clear ha hb
    obtain ⟨ha, hb⟩ := bite hx
    clear hx
    by_cases hc1 : v2 = 1
    · have hx := ha hc1
      clear ha hb
      refine Ev.jp (i := .tableswitch 94 0 6 #[41, 48, 55, 62, 69, 76, 83]) (len := 41) (pc2 := 59) (by decide +kernel) (by rw [hc1]; rfl) ?_
      clear hc1
      obtain ⟨u4, hg, he, hx⟩ := bgd hx
      refine Ev.blk (is := [.aload_n 0, .getfield 9209]) (pc2 := 63) (L2 := [(2, v0), (0, v1), (0, v2)]) (S2 := [(2, u4)]) (h2 := h) (by decide +kernel) (by subst he; rfl) (by exact hg) ?_
      clear hg he
      obtain ⟨u5, hg, he, hx⟩ := bgd hx
      refine Ev.blk (is := [.iload_n 1, .iaload]) (pc2 := 65) (L2 := [(2, v0), (0, v1), (0, v2)]) (S2 := [(0, u5)]) (h2 := h) (by decide +kernel) (by subst he; rfl) (by exact hg) ?_
      clear hg he
      cases hx
      exact Ev.ret (i := .ireturn) (len := 1) (by decide +kernel) rfl (finOf (t := some .int) rfl (trivial))
    have hx := hb hc1
    clear ha hb
    obtain ⟨ha, hb⟩ := bite hx
    clear hx
    by_cases hc2 : v2 = 2
    · have hx := ha hc2
      clear ha hb
      refine Ev.jp (i := .tableswitch 94 0 6 #[41, 48, 55, 62, 69, 76, 83]) (len := 41) (pc2 := 66) (by decide +kernel) (by rw [hc2]; rfl) ?_
      clear hc2
      obtain ⟨u6, hg, he, hx⟩ := bgd hx
      refine Ev.blk (is := [.aload_n 0, .getfield 9210]) (pc2 := 70) (L2 := [(2, v0), (0, v1), (0, v2)]) (S2 := [(2, u6)]) (h2 := h) (by decide +kernel) (by subst he; rfl) (by exact hg) ?_
      clear hg he
      obtain ⟨u7, hg, he, hx⟩ := bgd hx
      refine Ev.blk (is := [.iload_n 1, .iaload]) (pc2 := 72) (L2 := [(2, v0), (0, v1), (0, v2)]) (S2 := [(0, u7)]) (h2 := h) (by decide +kernel) (by subst he; rfl) (by exact hg) ?_
      clear hg he
      cases hx
      exact Ev.ret (i := .ireturn) (len := 1) (by decide +kernel) rfl (finOf (t := some .int) rfl (trivial))
    have hx := hb hc2
    clear ha hb
    obtain ⟨ha, hb⟩ := bite hx
    clear hx
    by_cases hc3 : v2 = 3
    · have hx := ha hc3
      clear ha hb
      refine Ev.jp (i := .tableswitch 94 0 6 #[41, 48, 55, 62, 69, 76, 83]) (len := 41) (pc2 := 73) (by decide +kernel) (by rw [hc3]; rfl) ?_
      clear hc3
      obtain ⟨u8, hg, he, hx⟩ := bgd hx
      refine Ev.blk (is := [.aload_n 0, .getfield 9211]) (pc2 := 77) (L2 := [(2, v0), (0, v1), (0, v2)]) (S2 := [(2, u8)]) (h2 := h) (by decide +kernel) (by subst he; rfl) (by exact hg) ?_
      clear hg he
      obtain ⟨u9, hg, he, hx⟩ := bgd hx
      refine Ev.blk (is := [.iload_n 1, .iaload]) (pc2 := 79) (L2 := [(2, v0), (0, v1), (0, v2)]) (S2 := [(0, u9)]) (h2 := h) (by decide +kernel) (by subst he; rfl) (by exact hg) ?_
      clear hg he
      cases hx
      exact Ev.ret (i := .ireturn) (len := 1) (by decide +kernel) rfl (finOf (t := some .int) rfl (trivial))
    have hx := hb hc3
    clear ha hb
    obtain ⟨ha, hb⟩ := bite hx
    clear hx
    by_cases hc4 : v2 = 4
    · have hx := ha hc4
      clear ha hb
      refine Ev.jp (i := .tableswitch 94 0 6 #[41, 48, 55, 62, 69, 76, 83]) (len := 41) (pc2 := 80) (by decide +kernel) (by rw [hc4]; rfl) ?_
      clear hc4
      obtain ⟨u10, hg, he, hx⟩ := bgd hx
      refine Ev.blk (is := [.aload_n 0, .getfield 9212]) (pc2 := 84) (L2 := [(2, v0), (0, v1), (0, v2)]) (S2 := [(2, u10)]) (h2 := h) (by decide +kernel) (by subst he; rfl) (by exact hg) ?_
      clear hg he
      obtain ⟨u11, hg, he, hx⟩ := bgd hx
      refine Ev.blk (is := [.iload_n 1, .iaload]) (pc2 := 86) (L2 := [(2, v0), (0, v1), (0, v2)]) (S2 := [(0, u11)]) (h2 := h) (by decide +kernel) (by subst he; rfl) (by exact hg) ?_
      clear hg he
      cases hx
      exact Ev.ret (i := .ireturn) (len := 1) (by decide +kernel) rfl (finOf (t := some .int) rfl (trivial))
    have hx := hb hc4
    clear ha hb
    obtain ⟨ha, hb⟩ := bite hx
    clear hx
    by_cases hc5 : v2 = 5
    · have hx := ha hc5
      clear ha hb
      refine Ev.jp (i := .tableswitch 94 0 6 #[41, 48, 55, 62, 69, 76, 83]) (len := 41) (pc2 := 87) (by decide +kernel) (by rw [hc5]; rfl) ?_
      clear hc5
      obtain ⟨u12, hg, he, hx⟩ := bgd hx
      refine Ev.blk (is := [.aload_n 0, .getfield 9213]) (pc2 := 91) (L2 := [(2, v0), (0, v1), (0, v2)]) (S2 := [(2, u12)]) (h2 := h) (by decide +kernel) (by subst he; rfl) (by exact hg) ?_
      clear hg he
      obtain ⟨u13, hg, he, hx⟩ := bgd hx
      refine Ev.blk (is := [.iload_n 1, .iaload]) (pc2 := 93) (L2 := [(2, v0), (0, v1), (0, v2)]) (S2 := [(0, u13)]) (h2 := h) (by decide +kernel) (by subst he; rfl) (by exact hg) ?_
      clear hg he
      cases hx
      exact Ev.ret (i := .ireturn) (len := 1) (by decide +kernel) rfl (finOf (t := some .int) rfl (trivial))
    have hx := hb hc5
    clear ha hb
    obtain ⟨ha, hb⟩ := bite hx
    clear hx
    by_cases hc6 : v2 = 6
    · have hx := ha hc6
      clear ha hb
      refine Ev.jp (i := .tableswitch 94 0 6 #[41, 48, 55, 62, 69, 76, 83]) (len := 41) (pc2 := 94) (by decide +kernel) (by rw [hc6]; rfl) ?_
      clear hc6
      refine Ev.blk (is := [.aload_n 0]) (pc2 := 95) (L2 := [(2, v0), (0, v1), (0, v2)]) (S2 := [(2, v0)]) (h2 := h) (by decide +kernel) rfl trivial ?_
      obtain ⟨_, hg, -, hx⟩ := bgd hx
      obtain ⟨h15, hc, hx⟩ := bca hx
      refine Ev.call (args := [(2, v0)]) (S2 := []) (r1 := none) (h1 := h15) (i := .invokevirtual 164) (by decide +kernel) rfl rfl (Nat.le_of_ble_eq_true rfl) (Or.inr (Or.inl ⟨rfl, hg, by decide +kernel⟩)) (x_R_laysRight (by omega) hc) ?_
      obtain ⟨u16, hg, he, hx⟩ := bgd hx
      refine Ev.blk (is := [.aload_n 0, .getfield 9220]) (pc2 := 102) (L2 := [(2, v0), (0, v1), (0, v2)]) (S2 := [(2, u16)]) (h2 := h15) (by decide +kernel) (by subst he; rfl) (by exact hg) ?_
      clear hg he
      obtain ⟨u17, hg, he, hx⟩ := bgd hx
      refine Ev.blk (is := [.iload_n 1, .iaload]) (pc2 := 104) (L2 := [(2, v0), (0, v1), (0, v2)]) (S2 := [(0, u17)]) (h2 := h15) (by decide +kernel) (by subst he; rfl) (by exact hg) ?_
      clear hg he
      cases hx
      exact Ev.ret (i := .ireturn) (len := 1) (by decide +kernel) rfl (finOf (t := some .int) rfl (trivial))
    have hx := hb hc6
    clear ha hb
    refine Ev.jp (i := .tableswitch 94 0 6 #[41, 48, 55, 62, 69, 76, 83]) (len := 41) (pc2 := 105) (by decide +kernel) (jsw (by omega)) ?_
    clear hc0 hc1 hc2 hc3 hc4 hc5 hc6
    refine Ev.blk (is := [.iconst (-1)]) (pc2 := 106) (L2 := [(2, v0), (0, v1), (0, v2)]) (S2 := [(0, (-1))]) (h2 := h) (by decide +kernel) rfl trivial ?_
    cases hx
    exact Ev.ret (i := .ireturn) (len := 1) (by decide +kernel) rfl (finOf (t := some .int) rfl (trivial))
theorem y_R_row_138 {sc : AS} {d : Nat} (hd : 5 ≤ d) : ∀ (v1 : Int) (s0 : Int) (s1 : Int) (h : AH) (r : (Int × AH)), R_row_138 v1 s0 s1 h = some r → Ev sc d 235 138 [(9, 0), (0, v1), (9, 0), (9, 0), (9, 0), (9, 0), (9, 0)] [(0, s0), (2, s1)] h (some (0, r.1)) r.2 := by
  intro v1 s0 s1 h r hx
  unfold R_row_138 at hx
  refine Ev.blk (is := [.iload_n 1]) (pc2 := 139) (L2 := [(9, 0), (0, v1), (9, 0), (9, 0), (9, 0), (9, 0), (9, 0)]) (S2 := [(0, v1), (0, s0), (2, s1)]) (h2 := h) (by decide +kernel) rfl trivial ?_
  obtain ⟨_, hg, -, hx⟩ := bgd hx
  obtain ⟨u1, hc, hx⟩ := bca hx
  refine Ev.call (args := [(2, s1), (0, s0), (0, v1)]) (S2 := []) (r1 := (some (0, u1))) (h1 := h) (i := .invokevirtual 169) (by decide +kernel) rfl rfl (Nat.le_of_ble_eq_true rfl) (Or.inr (Or.inl ⟨rfl, hg, by decide +kernel⟩)) (x_R_lineFor (by omega) hc) ?_
  refine Ev.blk (is := [.istore 6, .iload 6, .iconst (-1)]) (pc2 := 147) (L2 := [(9, 0), (0, v1), (9, 0), (9, 0), (9, 0), (9, 0), (0, u1)]) (S2 := [(0, (-1)), (0, u1)]) (h2 := h) (by decide +kernel) rfl trivial ?_
  obtain ⟨ha, hb⟩ := bite hx
  clear hx
  refine Ev.br (i := .if_icmp .ne 8) (len := 3) (a := 150) (b := 155) (by decide +kernel) rfl Iff.rfl (fun hc => ?_) (fun hc => ?_)
  · have hx := ha hc
    clear ha hb hc
    refine Ev.blk (is := [.sipush (-2)]) (pc2 := 152) (L2 := [(9, 0), (0, v1), (9, 0), (9, 0), (9, 0), (9, 0), (0, u1)]) (S2 := [(0, (-2))]) (h2 := h) (by decide +kernel) rfl trivial ?_
    refine Ev.jp (i := .goto 5) (len := 3) (pc2 := 157) (by decide +kernel) rfl ?_
    cases hx
    exact Ev.ret (i := .ireturn) (len := 1) (by decide +kernel) rfl (finOf (t := some .int) rfl (trivial))
  · have hx := hb hc
    clear ha hb hc
    refine Ev.blk (is := [.iload 6]) (pc2 := 157) (L2 := [(9, 0), (0, v1), (9, 0), (9, 0), (9, 0), (9, 0), (0, u1)]) (S2 := [(0, u1)]) (h2 := h) (by decide +kernel) rfl trivial ?_
    cases hx
    exact Ev.ret (i := .ireturn) (len := 1) (by decide +kernel) rfl (finOf (t := some .int) rfl (trivial))
theorem x_R_row {sc : AS} {d : Nat} (hd : 6 ≤ d) {v0 : Int} {v1 : Int} {v2 : Int} {v3 : Int} {v4 : Int} {h : AH} {r : (Int × AH)} (hx : R_row v0 v1 v2 v3 v4 h = some r) : Runs sc d 235 [(2, v0), (0, v1), (0, v2), (0, v3), (0, v4)] h (some (0, r.1)) r.2 := by
  obtain ⟨d, rfl⟩ : ∃ e, d = e + 1 := ⟨d - 1, by omega⟩
  have hd : 5 ≤ d := by omega
  unfold R_row at hx
  refine ⟨⟨aM_235, rfl, Nat.le_of_ble_eq_true rfl⟩, ?_⟩
  show Ev sc d 235 0 [(2, v0), (0, v1), (0, v2), (0, v3), (0, v4), (9, 0), (9, 0)] [] h (some (0, r.1)) r.2
  refine Ev.blk (is := [.aload_n 0, .iload_n 1, .iload_n 2, .iload_n 3]) (pc2 := 4) (L2 := [(2, v0), (0, v1), (0, v2), (0, v3), (0, v4), (9, 0), (9, 0)]) (S2 := [(0, v3), (0, v2), (0, v1), (2, v0)]) (h2 := h) (by decide +kernel) rfl trivial ?_
  obtain ⟨_, hg, -, hx⟩ := bgd hx
  obtain ⟨u1, hc, hx⟩ := bca hx
  refine Ev.call (args := [(2, v0), (0, v1), (0, v2), (0, v3)]) (S2 := []) (r1 := (some (0, u1))) (h1 := h) (i := .invokevirtual 223) (by decide +kernel) rfl rfl (Nat.le_of_ble_eq_true rfl) (Or.inr (Or.inl ⟨rfl, hg, by decide +kernel⟩)) (x_R_isRow (by omega) hc) ?_
  obtain ⟨ha, hb⟩ := bite hx
  clear hx
  refine Ev.br (i := .ifCond .ne 5) (len := 3) (a := 10) (b := 12) (by decide +kernel) rfl Iff.rfl (fun hc => ?_) (fun hc => ?_)
  · have hx := ha hc
    clear ha hb hc
    refine Ev.blk (is := [.iconst (-1)]) (pc2 := 11) (L2 := [(2, v0), (0, v1), (0, v2), (0, v3), (0, v4), (9, 0), (9, 0)]) (S2 := [(0, (-1))]) (h2 := h) (by decide +kernel) rfl trivial ?_
    cases hx
    exact Ev.ret (i := .ireturn) (len := 1) (by decide +kernel) rfl (finOf (t := some .int) rfl (trivial))
  · have hx := hb hc
    clear ha hb hc
    refine Ev.blk (is := [.sipush 9, .iload_n 1, .imul, .iload_n 3, .iadd, .istore 5, .iload 4]) (pc2 := 22) (L2 := [(2, v0), (0, v1), (0, v2), (0, v3), (0, v4), (0, w32 ((w32 (9 * v1)) + v3)), (9, 0)]) (S2 := [(0, v4)]) (h2 := h) (by decide +kernel) rfl trivial ?_
    obtain ⟨ha, hb⟩ := bite hx
    clear hx
    by_cases hc0 : v4 = 0
    · have hx := ha hc0
      clear ha hb
      refine Ev.jp (i := .tableswitch 136 0 3 #[30, 52, 74, 90]) (len := 30) (pc2 := 52) (by decide +kernel) (by rw [hc0]; rfl) ?_
      clear hc0
      refine Ev.blk (is := [.iload_n 2]) (pc2 := 53) (L2 := [(2, v0), (0, v1), (0, v2), (0, v3), (0, v4), (0, w32 ((w32 (9 * v1)) + v3)), (9, 0)]) (S2 := [(0, v2)]) (h2 := h) (by decide +kernel) rfl trivial ?_
      obtain ⟨ha, hb⟩ := bite hx
      clear hx
      refine Ev.br (i := .ifCond .eq 13) (len := 3) (a := 66) (b := 56) (by decide +kernel) rfl Iff.rfl (fun hc => ?_) (fun hc => ?_)
      · have hx := ha hc
        clear ha hb hc
        obtain ⟨u2, hg, he, hx⟩ := bgd hx
        refine Ev.blk (is := [.aload_n 0, .getfield 9214]) (pc2 := 70) (L2 := [(2, v0), (0, v1), (0, v2), (0, v3), (0, v4), (0, w32 ((w32 (9 * v1)) + v3)), (9, 0)]) (S2 := [(2, u2)]) (h2 := h) (by decide +kernel) (by subst he; rfl) (by exact hg) ?_
        clear hg he
        obtain ⟨u3, hg, he, hx⟩ := bgd hx
        refine Ev.blk (is := [.iload 5, .iaload]) (pc2 := 73) (L2 := [(2, v0), (0, v1), (0, v2), (0, v3), (0, v4), (0, w32 ((w32 (9 * v1)) + v3)), (9, 0)]) (S2 := [(0, u3)]) (h2 := h) (by decide +kernel) (by subst he; rfl) (by exact hg) ?_
        clear hg he
        cases hx
        exact Ev.ret (i := .ireturn) (len := 1) (by decide +kernel) rfl (finOf (t := some .int) rfl (trivial))
      · have hx := hb hc
        clear ha hb hc
        obtain ⟨u4, hg, he, hx⟩ := bgd hx
        refine Ev.blk (is := [.aload_n 0, .getfield 9217]) (pc2 := 60) (L2 := [(2, v0), (0, v1), (0, v2), (0, v3), (0, v4), (0, w32 ((w32 (9 * v1)) + v3)), (9, 0)]) (S2 := [(2, u4)]) (h2 := h) (by decide +kernel) (by subst he; rfl) (by exact hg) ?_
        clear hg he
        obtain ⟨u5, hg, he, hx⟩ := bgd hx
        refine Ev.blk (is := [.iload 5, .iaload]) (pc2 := 63) (L2 := [(2, v0), (0, v1), (0, v2), (0, v3), (0, v4), (0, w32 ((w32 (9 * v1)) + v3)), (9, 0)]) (S2 := [(0, u5)]) (h2 := h) (by decide +kernel) (by subst he; rfl) (by exact hg) ?_
        clear hg he
        refine Ev.jp (i := .goto 10) (len := 3) (pc2 := 73) (by decide +kernel) rfl ?_
        cases hx
        exact Ev.ret (i := .ireturn) (len := 1) (by decide +kernel) rfl (finOf (t := some .int) rfl (trivial))
    have hx := hb hc0
    clear ha hb
    obtain ⟨ha, hb⟩ := bite hx
    clear hx
    by_cases hc1 : v4 = 1
    · have hx := ha hc1
      clear ha hb
      refine Ev.jp (i := .tableswitch 136 0 3 #[30, 52, 74, 90]) (len := 30) (pc2 := 74) (by decide +kernel) (by rw [hc1]; rfl) ?_
      clear hc1
      refine Ev.blk (is := [.iload_n 2]) (pc2 := 75) (L2 := [(2, v0), (0, v1), (0, v2), (0, v3), (0, v4), (0, w32 ((w32 (9 * v1)) + v3)), (9, 0)]) (S2 := [(0, v2)]) (h2 := h) (by decide +kernel) rfl trivial ?_
      obtain ⟨ha, hb⟩ := bite hx
      clear hx
      refine Ev.br (i := .ifCond .eq 13) (len := 3) (a := 88) (b := 78) (by decide +kernel) rfl Iff.rfl (fun hc => ?_) (fun hc => ?_)
      · have hx := ha hc
        clear ha hb hc
        obtain ⟨u6, hg, he, hx⟩ := bgd hx
        refine Ev.blk (is := [.aload_n 0, .getfield 9215]) (pc2 := 92) (L2 := [(2, v0), (0, v1), (0, v2), (0, v3), (0, v4), (0, w32 ((w32 (9 * v1)) + v3)), (9, 0)]) (S2 := [(2, u6)]) (h2 := h) (by decide +kernel) (by subst he; rfl) (by exact hg) ?_
        clear hg he
        obtain ⟨u7, hg, he, hx⟩ := bgd hx
        refine Ev.blk (is := [.iload 5, .iaload]) (pc2 := 95) (L2 := [(2, v0), (0, v1), (0, v2), (0, v3), (0, v4), (0, w32 ((w32 (9 * v1)) + v3)), (9, 0)]) (S2 := [(0, u7)]) (h2 := h) (by decide +kernel) (by subst he; rfl) (by exact hg) ?_
        clear hg he
        cases hx
        exact Ev.ret (i := .ireturn) (len := 1) (by decide +kernel) rfl (finOf (t := some .int) rfl (trivial))
      · have hx := hb hc
        clear ha hb hc
        obtain ⟨u8, hg, he, hx⟩ := bgd hx
        refine Ev.blk (is := [.aload_n 0, .getfield 9218]) (pc2 := 82) (L2 := [(2, v0), (0, v1), (0, v2), (0, v3), (0, v4), (0, w32 ((w32 (9 * v1)) + v3)), (9, 0)]) (S2 := [(2, u8)]) (h2 := h) (by decide +kernel) (by subst he; rfl) (by exact hg) ?_
        clear hg he
        obtain ⟨u9, hg, he, hx⟩ := bgd hx
        refine Ev.blk (is := [.iload 5, .iaload]) (pc2 := 85) (L2 := [(2, v0), (0, v1), (0, v2), (0, v3), (0, v4), (0, w32 ((w32 (9 * v1)) + v3)), (9, 0)]) (S2 := [(0, u9)]) (h2 := h) (by decide +kernel) (by subst he; rfl) (by exact hg) ?_
        clear hg he
        refine Ev.jp (i := .goto 10) (len := 3) (pc2 := 95) (by decide +kernel) rfl ?_
        cases hx
        exact Ev.ret (i := .ireturn) (len := 1) (by decide +kernel) rfl (finOf (t := some .int) rfl (trivial))
    have hx := hb hc1
    clear ha hb
    obtain ⟨ha, hb⟩ := bite hx
    clear hx
    by_cases hc2 : v4 = 2
    · have hx := ha hc2
      clear ha hb
      refine Ev.jp (i := .tableswitch 136 0 3 #[30, 52, 74, 90]) (len := 30) (pc2 := 96) (by decide +kernel) (by rw [hc2]; rfl) ?_
      clear hc2
      refine Ev.blk (is := [.iload_n 2]) (pc2 := 97) (L2 := [(2, v0), (0, v1), (0, v2), (0, v3), (0, v4), (0, w32 ((w32 (9 * v1)) + v3)), (9, 0)]) (S2 := [(0, v2)]) (h2 := h) (by decide +kernel) rfl trivial ?_
      obtain ⟨ha, hb⟩ := bite hx
      clear hx
      refine Ev.br (i := .ifCond .eq 7) (len := 3) (a := 104) (b := 100) (by decide +kernel) rfl Iff.rfl (fun hc => ?_) (fun hc => ?_)
      · have hx := ha hc
        clear ha hb hc
        obtain ⟨u10, hg, he, hx⟩ := bgd hx
        refine Ev.blk (is := [.aload_n 0, .getfield 9216]) (pc2 := 108) (L2 := [(2, v0), (0, v1), (0, v2), (0, v3), (0, v4), (0, w32 ((w32 (9 * v1)) + v3)), (9, 0)]) (S2 := [(2, u10)]) (h2 := h) (by decide +kernel) (by subst he; rfl) (by exact hg) ?_
        clear hg he
        obtain ⟨u11, hg, he, hx⟩ := bgd hx
        refine Ev.blk (is := [.iload 5, .iaload]) (pc2 := 111) (L2 := [(2, v0), (0, v1), (0, v2), (0, v3), (0, v4), (0, w32 ((w32 (9 * v1)) + v3)), (9, 0)]) (S2 := [(0, u11)]) (h2 := h) (by decide +kernel) (by subst he; rfl) (by exact hg) ?_
        clear hg he
        cases hx
        exact Ev.ret (i := .ireturn) (len := 1) (by decide +kernel) rfl (finOf (t := some .int) rfl (trivial))
      · have hx := hb hc
        clear ha hb hc
        refine Ev.blk (is := [.iconst 0]) (pc2 := 101) (L2 := [(2, v0), (0, v1), (0, v2), (0, v3), (0, v4), (0, w32 ((w32 (9 * v1)) + v3)), (9, 0)]) (S2 := [(0, 0)]) (h2 := h) (by decide +kernel) rfl trivial ?_
        refine Ev.jp (i := .goto 10) (len := 3) (pc2 := 111) (by decide +kernel) rfl ?_
        cases hx
        exact Ev.ret (i := .ireturn) (len := 1) (by decide +kernel) rfl (finOf (t := some .int) rfl (trivial))
    have hx := hb hc2
    clear ha hb
    obtain ⟨ha, hb⟩ := bite hx
    clear hx
    by_cases hc3 : v4 = 3
    · have hx := ha hc3
      clear ha hb
      refine Ev.jp (i := .tableswitch 136 0 3 #[30, 52, 74, 90]) (len := 30) (pc2 := 112) (by decide +kernel) (by rw [hc3]; rfl) ?_
      clear hc3
      refine Ev.blk (is := [.aload_n 0]) (pc2 := 113) (L2 := [(2, v0), (0, v1), (0, v2), (0, v3), (0, v4), (0, w32 ((w32 (9 * v1)) + v3)), (9, 0)]) (S2 := [(2, v0)]) (h2 := h) (by decide +kernel) rfl trivial ?_
      obtain ⟨_, hg, -, hx⟩ := bgd hx
      obtain ⟨h13, hc, hx⟩ := bca hx
      refine Ev.call (args := [(2, v0)]) (S2 := []) (r1 := none) (h1 := h13) (i := .invokevirtual 164) (by decide +kernel) rfl rfl (Nat.le_of_ble_eq_true rfl) (Or.inr (Or.inl ⟨rfl, hg, by decide +kernel⟩)) (x_R_laysRight (by omega) hc) ?_
      refine Ev.blk (is := [.aload_n 0, .iload_n 2]) (pc2 := 118) (L2 := [(2, v0), (0, v1), (0, v2), (0, v3), (0, v4), (0, w32 ((w32 (9 * v1)) + v3)), (9, 0)]) (S2 := [(0, v2), (2, v0)]) (h2 := h13) (by decide +kernel) rfl trivial ?_
      obtain ⟨ha, hb⟩ := bite hx
      clear hx
      refine Ev.br (i := .ifCond .eq 13) (len := 3) (a := 131) (b := 121) (by decide +kernel) rfl Iff.rfl (fun hc => ?_) (fun hc => ?_)
      · have hx := ha hc
        clear ha hb hc
        obtain ⟨u14, hg, he, hx⟩ := bgd hx
        refine Ev.blk (is := [.aload_n 0, .getfield 9214]) (pc2 := 135) (L2 := [(2, v0), (0, v1), (0, v2), (0, v3), (0, v4), (0, w32 ((w32 (9 * v1)) + v3)), (9, 0)]) (S2 := [(2, u14), (2, v0)]) (h2 := h13) (by decide +kernel) (by subst he; rfl) (by exact hg) ?_
        clear hg he
        obtain ⟨u15, hg, he, hx⟩ := bgd hx
        refine Ev.blk (is := [.iload 5, .iaload]) (pc2 := 138) (L2 := [(2, v0), (0, v1), (0, v2), (0, v3), (0, v4), (0, w32 ((w32 (9 * v1)) + v3)), (9, 0)]) (S2 := [(0, u15), (2, v0)]) (h2 := h13) (by decide +kernel) (by subst he; rfl) (by exact hg) ?_
        clear hg he
        refine Ev.wk (L2 := [(9, 0), (0, v1), (9, 0), (9, 0), (9, 0), (9, 0), (9, 0)]) (wkL_of ⟨Or.inr rfl, ⟨Or.inl rfl, ⟨Or.inr rfl, ⟨Or.inr rfl, ⟨Or.inr rfl, ⟨Or.inr rfl, ⟨Or.inl rfl, trivial⟩⟩⟩⟩⟩⟩⟩) ?_
        exact y_R_row_138 hd v1 u15 v0 h13 _ hx
      · have hx := hb hc
        clear ha hb hc
        obtain ⟨u16, hg, he, hx⟩ := bgd hx
        refine Ev.blk (is := [.aload_n 0, .getfield 9217]) (pc2 := 125) (L2 := [(2, v0), (0, v1), (0, v2), (0, v3), (0, v4), (0, w32 ((w32 (9 * v1)) + v3)), (9, 0)]) (S2 := [(2, u16), (2, v0)]) (h2 := h13) (by decide +kernel) (by subst he; rfl) (by exact hg) ?_
        clear hg he
        obtain ⟨u17, hg, he, hx⟩ := bgd hx
        refine Ev.blk (is := [.iload 5, .iaload]) (pc2 := 128) (L2 := [(2, v0), (0, v1), (0, v2), (0, v3), (0, v4), (0, w32 ((w32 (9 * v1)) + v3)), (9, 0)]) (S2 := [(0, u17), (2, v0)]) (h2 := h13) (by decide +kernel) (by subst he; rfl) (by exact hg) ?_
        clear hg he
        refine Ev.jp (i := .goto 10) (len := 3) (pc2 := 138) (by decide +kernel) rfl ?_
        refine Ev.wk (L2 := [(9, 0), (0, v1), (9, 0), (9, 0), (9, 0), (9, 0), (9, 0)]) (wkL_of ⟨Or.inr rfl, ⟨Or.inl rfl, ⟨Or.inr rfl, ⟨Or.inr rfl, ⟨Or.inr rfl, ⟨Or.inr rfl, ⟨Or.inl rfl, trivial⟩⟩⟩⟩⟩⟩⟩) ?_
        exact y_R_row_138 hd v1 u17 v0 h13 _ hx
    have hx := hb hc3
    clear ha hb
    refine Ev.jp (i := .tableswitch 136 0 3 #[30, 52, 74, 90]) (len := 30) (pc2 := 158) (by decide +kernel) (jsw (by omega)) ?_
    clear hc0 hc1 hc2 hc3
    refine Ev.blk (is := [.iconst (-1)]) (pc2 := 159) (L2 := [(2, v0), (0, v1), (0, v2), (0, v3), (0, v4), (0, w32 ((w32 (9 * v1)) + v3)), (9, 0)]) (S2 := [(0, (-1))]) (h2 := h) (by decide +kernel) rfl trivial ?_
    cases hx
    exact Ev.ret (i := .ireturn) (len := 1) (by decide +kernel) rfl (finOf (t := some .int) rfl (trivial))
theorem y_R_right_8 {sc : AS} {d : Nat} (hd : 5 ≤ d) : ∀ (fu : Nat) (v0 : Int) (v1 : Int) (v3 : Int) (h : AH) (r : (Int × AH)), R_right_8 fu v0 v1 v3 h = some r → Ev sc d 236 8 [(2, v0), (1, v1), (8, 0), (0, v3)] [] h (some (1, r.1)) r.2 := by
  intro fu
  induction fu with
  | zero => intro v0 v1 v3 h r hx; unfold R_right_8 at hx; cases hx
  | succ fu ih =>
    intro v0 v1 v3 h r hx
    unfold R_right_8 at hx
    obtain ⟨u1, hg, he, hx⟩ := bgd hx
    refine Ev.blk (is := [.iload_n 3, .aload_n 0, .getfield 9007]) (pc2 := 13) (L2 := [(2, v0), (1, v1), (8, 0), (0, v3)]) (S2 := [(0, u1), (0, v3)]) (h2 := h) (by decide +kernel) (by subst he; rfl) (by exact hg) ?_
    clear hg he
    obtain ⟨ha, hb⟩ := bite hx
    clear hx
    refine Ev.br (i := .if_icmp .ge 24) (len := 3) (a := 16) (b := 37) (by decide +kernel) rfl Iff.rfl (fun hc => ?_) (fun hc => ?_)
    · have hx := ha hc
      clear ha hb hc
      obtain ⟨u2, hg, he, hx⟩ := bgd hx
      refine Ev.blk (is := [.aload_n 0, .getfield 9219]) (pc2 := 20) (L2 := [(2, v0), (1, v1), (8, 0), (0, v3)]) (S2 := [(2, u2)]) (h2 := h) (by decide +kernel) (by subst he; rfl) (by exact hg) ?_
      clear hg he
      obtain ⟨u3, hg, he, hx⟩ := bgd hx
      refine Ev.blk (is := [.iload_n 3, .baload]) (pc2 := 22) (L2 := [(2, v0), (1, v1), (8, 0), (0, v3)]) (S2 := [(0, u3)]) (h2 := h) (by decide +kernel) (by subst he; rfl) (by exact hg) ?_
      clear hg he
      obtain ⟨ha, hb⟩ := bite hx
      clear hx
      refine Ev.br (i := .ifCond .eq 9) (len := 3) (a := 31) (b := 25) (by decide +kernel) rfl Iff.rfl (fun hc => ?_) (fun hc => ?_)
      · have hx := ha hc
        clear ha hb hc
        refine Ev.blk (is := [.iinc 3 1]) (pc2 := 34) (L2 := [(2, v0), (1, v1), (8, 0), (0, w32 (v3 + 1))]) (S2 := []) (h2 := h) (by decide +kernel) rfl trivial ?_
        refine Ev.jp (i := .goto (-26)) (len := 3) (pc2 := 8) (by decide +kernel) rfl ?_
        exact ih v0 v1 (w32 (v3 + 1)) h _ hx
      · have hx := hb hc
        clear ha hb hc
        refine Ev.blk (is := [.lload_n 1, .lconst 1, .iload_n 3, .lshl, .lor, .lstore_n 1, .iinc 3 1]) (pc2 := 34) (L2 := [(2, v0), (1, orL v1 (shlL 1 v3)), (8, 0), (0, w32 (v3 + 1))]) (S2 := []) (h2 := h) (by decide +kernel) rfl trivial ?_
        refine Ev.jp (i := .goto (-26)) (len := 3) (pc2 := 8) (by decide +kernel) rfl ?_
        exact ih v0 (orL v1 (shlL 1 v3)) (w32 (v3 + 1)) h _ hx
    · have hx := hb hc
      clear ha hb hc
      refine Ev.blk (is := [.lload_n 1]) (pc2 := 38) (L2 := [(2, v0), (1, v1), (8, 0), (0, v3)]) (S2 := [(1, v1)]) (h2 := h) (by decide +kernel) rfl trivial ?_
      cases hx
      exact Ev.ret (i := .lreturn) (len := 1) (by decide +kernel) rfl (finOf (t := some .long) rfl (trivial))
theorem x_R_right {sc : AS} {d : Nat} (hd : 6 ≤ d) {v0 : Int} {h : AH} {r : (Int × AH)} (hx : R_right v0 h = some r) : Runs sc d 236 [(2, v0)] h (some (1, r.1)) r.2 := by
  obtain ⟨d, rfl⟩ : ∃ e, d = e + 1 := ⟨d - 1, by omega⟩
  have hd : 5 ≤ d := by omega
  unfold R_right at hx
  refine ⟨⟨aM_236, rfl, Nat.le_of_ble_eq_true rfl⟩, ?_⟩
  show Ev sc d 236 0 [(2, v0), (9, 0), (9, 0), (9, 0)] [] h (some (1, r.1)) r.2
  refine Ev.blk (is := [.aload_n 0]) (pc2 := 1) (L2 := [(2, v0), (9, 0), (9, 0), (9, 0)]) (S2 := [(2, v0)]) (h2 := h) (by decide +kernel) rfl trivial ?_
  obtain ⟨_, hg, -, hx⟩ := bgd hx
  obtain ⟨h2, hc, hx⟩ := bca hx
  refine Ev.call (args := [(2, v0)]) (S2 := []) (r1 := none) (h1 := h2) (i := .invokevirtual 164) (by decide +kernel) rfl rfl (Nat.le_of_ble_eq_true rfl) (Or.inr (Or.inl ⟨rfl, hg, by decide +kernel⟩)) (x_R_laysRight (by omega) hc) ?_
  refine Ev.blk (is := [.lconst 0, .lstore_n 1, .iconst 0, .istore_n 3]) (pc2 := 8) (L2 := [(2, v0), (1, 0), (8, 0), (0, 0)]) (S2 := []) (h2 := h2) (by decide +kernel) rfl trivial ?_
  exact y_R_right_8 hd FU v0 0 0 h2 _ hx
theorem x_R_rests {sc : AS} {d : Nat} (hd : 7 ≤ d) {v0 : Int} {v1 : Int} {h : AH} {r : (Int × AH)} (hx : R_rests v0 v1 h = some r) : Runs sc d 237 [(2, v0), (0, v1)] h (some (1, r.1)) r.2 := by
  obtain ⟨d, rfl⟩ : ∃ e, d = e + 1 := ⟨d - 1, by omega⟩
  have hd : 6 ≤ d := by omega
  unfold R_rests at hx
  refine ⟨⟨aM_237, rfl, Nat.le_of_ble_eq_true rfl⟩, ?_⟩
  show Ev sc d 237 0 [(2, v0), (0, v1)] [] h (some (1, r.1)) r.2
  refine Ev.blk (is := [.aload_n 0, .iload_n 1]) (pc2 := 2) (L2 := [(2, v0), (0, v1)]) (S2 := [(0, v1), (2, v0)]) (h2 := h) (by decide +kernel) rfl trivial ?_
  obtain ⟨_, hg, -, hx⟩ := bgd hx
  obtain ⟨u1, hc, hx⟩ := bca hx
  refine Ev.call (args := [(2, v0), (0, v1)]) (S2 := []) (r1 := (some (0, u1))) (h1 := h) (i := .invokevirtual 198) (by decide +kernel) rfl rfl (Nat.le_of_ble_eq_true rfl) (Or.inr (Or.inl ⟨rfl, hg, by decide +kernel⟩)) (x_R_isLine (by omega) hc) ?_
  obtain ⟨ha, hb⟩ := bite hx
  clear hx
  refine Ev.br (i := .ifCond .ne 7) (len := 3) (a := 8) (b := 12) (by decide +kernel) rfl Iff.rfl (fun hc => ?_) (fun hc => ?_)
  · have hx := ha hc
    clear ha hb hc
    refine Ev.blk (is := [.jsr_w (-1)]) (pc2 := 11) (L2 := [(2, v0), (0, v1)]) (S2 := [(1, (-1))]) (h2 := h) (by decide +kernel) rfl trivial ?_
    cases hx
    exact Ev.ret (i := .lreturn) (len := 1) (by decide +kernel) rfl (finOf (t := some .long) rfl (trivial))
  · have hx := hb hc
    clear ha hb hc
    refine Ev.blk (is := [.aload_n 0, .iload_n 1]) (pc2 := 14) (L2 := [(2, v0), (0, v1)]) (S2 := [(0, v1), (2, v0)]) (h2 := h) (by decide +kernel) rfl trivial ?_
    obtain ⟨_, hg, -, hx⟩ := bgd hx
    obtain ⟨u2, hc, hx⟩ := bca hx
    refine Ev.call (args := [(2, v0), (0, v1)]) (S2 := []) (r1 := (some (0, u2.1))) (h1 := u2.2) (i := .invokevirtual 227) (by decide +kernel) rfl rfl (Nat.le_of_ble_eq_true rfl) (Or.inr (Or.inl ⟨rfl, hg, by decide +kernel⟩)) (x_R_isRightLine (by omega) hc) ?_
    obtain ⟨ha, hb⟩ := bite hx
    clear hx
    refine Ev.br (i := .ifCond .eq 11) (len := 3) (a := 28) (b := 20) (by decide +kernel) rfl Iff.rfl (fun hc => ?_) (fun hc => ?_)
    · have hx := ha hc
      clear ha hb hc
      refine Ev.blk (is := [.jsr_w (-2)]) (pc2 := 31) (L2 := [(2, v0), (0, v1)]) (S2 := [(1, (-2))]) (h2 := u2.2) (by decide +kernel) rfl trivial ?_
      cases hx
      exact Ev.ret (i := .lreturn) (len := 1) (by decide +kernel) rfl (finOf (t := some .long) rfl (trivial))
    · have hx := hb hc
      clear ha hb hc
      refine Ev.blk (is := [.aload_n 0, .iload_n 1]) (pc2 := 22) (L2 := [(2, v0), (0, v1)]) (S2 := [(0, v1), (2, v0)]) (h2 := u2.2) (by decide +kernel) rfl trivial ?_
      obtain ⟨_, hg, -, hx⟩ := bgd hx
      obtain ⟨u3, hc, hx⟩ := bca hx
      refine Ev.call (args := [(2, v0), (0, v1)]) (S2 := []) (r1 := (some (1, u3))) (h1 := u2.2) (i := .invokevirtual 229) (by decide +kernel) rfl rfl (Nat.le_of_ble_eq_true rfl) (Or.inr (Or.inl ⟨rfl, hg, by decide +kernel⟩)) (x_R_restsOf (by omega) hc) ?_
      refine Ev.jp (i := .goto 6) (len := 3) (pc2 := 31) (by decide +kernel) rfl ?_
      cases hx
      exact Ev.ret (i := .lreturn) (len := 1) (by decide +kernel) rfl (finOf (t := some .long) rfl (trivial))
theorem y_R_deepOf_46 {sc : AS} {d : Nat} (hd : 3 ≤ d) {k9 : Int → Int → Int → Int → AH → Option (Int × AH)} (hk9 : ∀ (v0 : Int) (v1 : Int) (v2 : Int) (v4 : Int) (h : AH) (r : (Int × AH)), k9 v0 v1 v2 v4 h = some r → Ev sc d 239 9 [(2, v0), (0, v1), (1, v2), (8, 0), (0, v4), (9, 0), (9, 0), (9, 0)] [] h (some (0, r.1)) r.2) : ∀ (fu : Nat) (v0 : Int) (v1 : Int) (v2 : Int) (v4 : Int) (v5 : Int) (v7 : Int) (h : AH) (r : (Int × AH)), R_deepOf_46 k9 fu v0 v1 v2 v4 v5 v7 h = some r → Ev sc d 239 46 [(2, v0), (0, v1), (1, v2), (8, 0), (0, v4), (1, v5), (8, 0), (0, v7)] [] h (some (0, r.1)) r.2 := by
  intro fu
  induction fu with
  | zero => intro v0 v1 v2 v4 v5 v7 h r hx; unfold R_deepOf_46 at hx; cases hx
  | succ fu ih =>
    intro v0 v1 v2 v4 v5 v7 h r hx
    unfold R_deepOf_46 at hx
    refine Ev.blk (is := [.iload 7, .iload 4]) (pc2 := 50) (L2 := [(2, v0), (0, v1), (1, v2), (8, 0), (0, v4), (1, v5), (8, 0), (0, v7)]) (S2 := [(0, v4), (0, v7)]) (h2 := h) (by decide +kernel) rfl trivial ?_
    obtain ⟨ha, hb⟩ := bite hx
    clear hx
    refine Ev.br (i := .if_icmp .ge 54) (len := 3) (a := 53) (b := 104) (by decide +kernel) rfl Iff.rfl (fun hc => ?_) (fun hc => ?_)
    · have hx := ha hc
      clear ha hb hc
      refine Ev.blk (is := [.lload 5, .iload 7]) (pc2 := 57) (L2 := [(2, v0), (0, v1), (1, v2), (8, 0), (0, v4), (1, v5), (8, 0), (0, v7)]) (S2 := [(0, v7), (1, v5)]) (h2 := h) (by decide +kernel) rfl trivial ?_
      obtain ⟨u1, hc, hx⟩ := bca hx
      refine Ev.call (args := [(1, v5), (0, v7)]) (S2 := []) (r1 := (some (0, u1))) (h1 := h) (i := .invokestatic 230) (by decide +kernel) rfl rfl (Nat.le_of_ble_eq_true rfl) (Or.inl rfl) (x_R_has (by omega) hc) ?_
      obtain ⟨ha, hb⟩ := bite hx
      clear hx
      refine Ev.br (i := .ifCond .eq 38) (len := 3) (a := 98) (b := 63) (by decide +kernel) rfl Iff.rfl (fun hc => ?_) (fun hc => ?_)
      · have hx := ha hc
        clear ha hb hc
        refine Ev.blk (is := [.iinc 7 1]) (pc2 := 101) (L2 := [(2, v0), (0, v1), (1, v2), (8, 0), (0, v4), (1, v5), (8, 0), (0, w32 (v7 + 1))]) (S2 := []) (h2 := h) (by decide +kernel) rfl trivial ?_
        refine Ev.jp (i := .goto (-55)) (len := 3) (pc2 := 46) (by decide +kernel) rfl ?_
        exact ih v0 v1 v2 v4 v5 (w32 (v7 + 1)) h _ hx
      · have hx := hb hc
        clear ha hb hc
        obtain ⟨u2, hg, he, hx⟩ := bgd hx
        refine Ev.blk (is := [.aload_n 0, .getfield 9234]) (pc2 := 67) (L2 := [(2, v0), (0, v1), (1, v2), (8, 0), (0, v4), (1, v5), (8, 0), (0, v7)]) (S2 := [(2, u2)]) (h2 := h) (by decide +kernel) (by subst he; rfl) (by exact hg) ?_
        clear hg he
        obtain ⟨u3, hg, he, hx⟩ := bgd hx
        refine Ev.blk (is := [.iload 7, .iaload]) (pc2 := 70) (L2 := [(2, v0), (0, v1), (1, v2), (8, 0), (0, v4), (1, v5), (8, 0), (0, v7)]) (S2 := [(0, u3)]) (h2 := h) (by decide +kernel) (by subst he; rfl) (by exact hg) ?_
        clear hg he
        obtain ⟨u4, hg, he, hx⟩ := bgd hx
        refine Ev.blk (is := [.iconst 1, .iadd, .aload_n 0, .getfield 9234]) (pc2 := 76) (L2 := [(2, v0), (0, v1), (1, v2), (8, 0), (0, v4), (1, v5), (8, 0), (0, v7)]) (S2 := [(2, u4), (0, w32 (u3 + 1))]) (h2 := h) (by decide +kernel) (by subst he; rfl) (by exact hg) ?_
        clear hg he
        obtain ⟨u5, hg, he, hx⟩ := bgd hx
        refine Ev.blk (is := [.iload 4, .iaload]) (pc2 := 79) (L2 := [(2, v0), (0, v1), (1, v2), (8, 0), (0, v4), (1, v5), (8, 0), (0, v7)]) (S2 := [(0, u5), (0, w32 (u3 + 1))]) (h2 := h) (by decide +kernel) (by subst he; rfl) (by exact hg) ?_
        clear hg he
        obtain ⟨ha, hb⟩ := bite hx
        clear hx
        refine Ev.br (i := .if_icmp .le 19) (len := 3) (a := 82) (b := 98) (by decide +kernel) rfl Iff.rfl (fun hc => ?_) (fun hc => ?_)
        · have hx := ha hc
          clear ha hb hc
          obtain ⟨u6, hg, he, hx⟩ := bgd hx
          refine Ev.blk (is := [.aload_n 0, .getfield 9234]) (pc2 := 86) (L2 := [(2, v0), (0, v1), (1, v2), (8, 0), (0, v4), (1, v5), (8, 0), (0, v7)]) (S2 := [(2, u6)]) (h2 := h) (by decide +kernel) (by subst he; rfl) (by exact hg) ?_
          clear hg he
          obtain ⟨u7, hg, he, hx⟩ := bgd hx
          refine Ev.blk (is := [.iload 4, .aload_n 0, .getfield 9234]) (pc2 := 92) (L2 := [(2, v0), (0, v1), (1, v2), (8, 0), (0, v4), (1, v5), (8, 0), (0, v7)]) (S2 := [(2, u7), (0, v4), (2, u6)]) (h2 := h) (by decide +kernel) (by subst he; rfl) (by exact hg) ?_
          clear hg he
          obtain ⟨u8, hg, he, hx⟩ := bgd hx
          refine Ev.blk (is := [.iload 7, .iaload]) (pc2 := 95) (L2 := [(2, v0), (0, v1), (1, v2), (8, 0), (0, v4), (1, v5), (8, 0), (0, v7)]) (S2 := [(0, u8), (0, v4), (2, u6)]) (h2 := h) (by decide +kernel) (by subst he; rfl) (by exact hg) ?_
          clear hg he
          obtain ⟨h9, hg, he, hx⟩ := bgd hx
          refine Ev.blk (is := [.iconst 1, .iadd, .iastore]) (pc2 := 98) (L2 := [(2, v0), (0, v1), (1, v2), (8, 0), (0, v4), (1, v5), (8, 0), (0, v7)]) (S2 := []) (h2 := h9) (by decide +kernel) (by subst he; rfl) (by exact hg) ?_
          clear hg he
          refine Ev.blk (is := [.iinc 7 1]) (pc2 := 101) (L2 := [(2, v0), (0, v1), (1, v2), (8, 0), (0, v4), (1, v5), (8, 0), (0, w32 (v7 + 1))]) (S2 := []) (h2 := h9) (by decide +kernel) rfl trivial ?_
          refine Ev.jp (i := .goto (-55)) (len := 3) (pc2 := 46) (by decide +kernel) rfl ?_
          exact ih v0 v1 v2 v4 v5 (w32 (v7 + 1)) h9 _ hx
        · have hx := hb hc
          clear ha hb hc
          refine Ev.blk (is := [.iinc 7 1]) (pc2 := 101) (L2 := [(2, v0), (0, v1), (1, v2), (8, 0), (0, v4), (1, v5), (8, 0), (0, w32 (v7 + 1))]) (S2 := []) (h2 := h) (by decide +kernel) rfl trivial ?_
          refine Ev.jp (i := .goto (-55)) (len := 3) (pc2 := 46) (by decide +kernel) rfl ?_
          exact ih v0 v1 v2 v4 v5 (w32 (v7 + 1)) h _ hx
    · have hx := hb hc
      clear ha hb hc
      refine Ev.blk (is := [.iinc 4 1]) (pc2 := 107) (L2 := [(2, v0), (0, v1), (1, v2), (8, 0), (0, w32 (v4 + 1)), (1, v5), (8, 0), (0, v7)]) (S2 := []) (h2 := h) (by decide +kernel) rfl trivial ?_
      refine Ev.jp (i := .goto (-98)) (len := 3) (pc2 := 9) (by decide +kernel) rfl ?_
      refine Ev.wk (L2 := [(2, v0), (0, v1), (1, v2), (8, 0), (0, w32 (v4 + 1)), (9, 0), (9, 0), (9, 0)]) (wkL_of ⟨Or.inl rfl, ⟨Or.inl rfl, ⟨Or.inl rfl, ⟨Or.inl rfl, ⟨Or.inl rfl, ⟨Or.inr rfl, ⟨Or.inr rfl, ⟨Or.inr rfl, trivial⟩⟩⟩⟩⟩⟩⟩⟩) ?_
      exact hk9 v0 v1 v2 (w32 (v4 + 1)) h _ hx
theorem y_R_deepOf_9 {sc : AS} {d : Nat} (hd : 3 ≤ d) : ∀ (fu : Nat) (v0 : Int) (v1 : Int) (v2 : Int) (v4 : Int) (h : AH) (r : (Int × AH)), R_deepOf_9 fu v0 v1 v2 v4 h = some r → Ev sc d 239 9 [(2, v0), (0, v1), (1, v2), (8, 0), (0, v4), (9, 0), (9, 0), (9, 0)] [] h (some (0, r.1)) r.2 := by
  intro fu
  induction fu with
  | zero => intro v0 v1 v2 v4 h r hx; unfold R_deepOf_9 at hx; cases hx
  | succ fu ih =>
    intro v0 v1 v2 v4 h r hx
    unfold R_deepOf_9 at hx
    refine Ev.blk (is := [.iload 4, .iload_n 1]) (pc2 := 12) (L2 := [(2, v0), (0, v1), (1, v2), (8, 0), (0, v4), (9, 0), (9, 0), (9, 0)]) (S2 := [(0, v1), (0, v4)]) (h2 := h) (by decide +kernel) rfl trivial ?_
    obtain ⟨ha, hb⟩ := bite hx
    clear hx
    refine Ev.br (i := .if_icmp .gt 98) (len := 3) (a := 110) (b := 15) (by decide +kernel) rfl Iff.rfl (fun hc => ?_) (fun hc => ?_)
    · have hx := ha hc
      clear ha hb hc
      obtain ⟨u1, hg, he, hx⟩ := bgd hx
      refine Ev.blk (is := [.aload_n 0, .getfield 9234]) (pc2 := 114) (L2 := [(2, v0), (0, v1), (1, v2), (8, 0), (0, v4), (9, 0), (9, 0), (9, 0)]) (S2 := [(2, u1)]) (h2 := h) (by decide +kernel) (by subst he; rfl) (by exact hg) ?_
      clear hg he
      obtain ⟨u2, hg, he, hx⟩ := bgd hx
      refine Ev.blk (is := [.iload_n 1, .iaload]) (pc2 := 116) (L2 := [(2, v0), (0, v1), (1, v2), (8, 0), (0, v4), (9, 0), (9, 0), (9, 0)]) (S2 := [(0, u2)]) (h2 := h) (by decide +kernel) (by subst he; rfl) (by exact hg) ?_
      clear hg he
      cases hx
      exact Ev.ret (i := .ireturn) (len := 1) (by decide +kernel) rfl (finOf (t := some .int) rfl (trivial))
    · have hx := hb hc
      clear ha hb hc
      refine Ev.blk (is := [.lload_n 2, .iload 4]) (pc2 := 18) (L2 := [(2, v0), (0, v1), (1, v2), (8, 0), (0, v4), (9, 0), (9, 0), (9, 0)]) (S2 := [(0, v4), (1, v2)]) (h2 := h) (by decide +kernel) rfl trivial ?_
      obtain ⟨u3, hc, hx⟩ := bca hx
      refine Ev.call (args := [(1, v2), (0, v4)]) (S2 := []) (r1 := (some (0, u3))) (h1 := h) (i := .invokestatic 230) (by decide +kernel) rfl rfl (Nat.le_of_ble_eq_true rfl) (Or.inl rfl) (x_R_has (by omega) hc) ?_
      obtain ⟨ha, hb⟩ := bite hx
      clear hx
      refine Ev.br (i := .ifCond .ne 6) (len := 3) (a := 24) (b := 27) (by decide +kernel) rfl Iff.rfl (fun hc => ?_) (fun hc => ?_)
      · have hx := ha hc
        clear ha hb hc
        refine Ev.jp (i := .goto 80) (len := 3) (pc2 := 104) (by decide +kernel) rfl ?_
        refine Ev.blk (is := [.iinc 4 1]) (pc2 := 107) (L2 := [(2, v0), (0, v1), (1, v2), (8, 0), (0, w32 (v4 + 1)), (9, 0), (9, 0), (9, 0)]) (S2 := []) (h2 := h) (by decide +kernel) rfl trivial ?_
        refine Ev.jp (i := .goto (-98)) (len := 3) (pc2 := 9) (by decide +kernel) rfl ?_
        exact ih v0 v1 v2 (w32 (v4 + 1)) h _ hx
      · have hx := hb hc
        clear ha hb hc
        refine Ev.blk (is := [.aload_n 0, .iload 4]) (pc2 := 30) (L2 := [(2, v0), (0, v1), (1, v2), (8, 0), (0, v4), (9, 0), (9, 0), (9, 0)]) (S2 := [(0, v4), (2, v0)]) (h2 := h) (by decide +kernel) rfl trivial ?_
        obtain ⟨_, hg, -, hx⟩ := bgd hx
        obtain ⟨u4, hc, hx⟩ := bca hx
        refine Ev.call (args := [(2, v0), (0, v4)]) (S2 := []) (r1 := (some (1, u4))) (h1 := h) (i := .invokevirtual 231) (by decide +kernel) rfl rfl (Nat.le_of_ble_eq_true rfl) (Or.inr (Or.inl ⟨rfl, hg, by decide +kernel⟩)) (x_R_props (by omega) hc) ?_
        obtain ⟨u5, hg, he, hx⟩ := bgd hx
        refine Ev.blk (is := [.lstore 5, .aload_n 0, .getfield 9234]) (pc2 := 39) (L2 := [(2, v0), (0, v1), (1, v2), (8, 0), (0, v4), (1, u4), (8, 0), (9, 0)]) (S2 := [(2, u5)]) (h2 := h) (by decide +kernel) (by subst he; rfl) (by exact hg) ?_
        clear hg he
        obtain ⟨h6, hg, he, hx⟩ := bgd hx
        refine Ev.blk (is := [.iload 4, .iconst 0, .iastore]) (pc2 := 43) (L2 := [(2, v0), (0, v1), (1, v2), (8, 0), (0, v4), (1, u4), (8, 0), (9, 0)]) (S2 := []) (h2 := h6) (by decide +kernel) (by subst he; rfl) (by exact hg) ?_
        clear hg he
        refine Ev.blk (is := [.iconst 0, .istore 7]) (pc2 := 46) (L2 := [(2, v0), (0, v1), (1, v2), (8, 0), (0, v4), (1, u4), (8, 0), (0, 0)]) (S2 := []) (h2 := h6) (by decide +kernel) rfl trivial ?_
        exact y_R_deepOf_46 hd ih FU v0 v1 v2 v4 u4 0 h6 _ hx
theorem x_R_deepOf {sc : AS} {d : Nat} (hd : 4 ≤ d) {v0 : Int} {v1 : Int} {h : AH} {r : (Int × AH)} (hx : R_deepOf v0 v1 h = some r) : Runs sc d 239 [(2, v0), (0, v1)] h (some (0, r.1)) r.2 := by
  obtain ⟨d, rfl⟩ : ∃ e, d = e + 1 := ⟨d - 1, by omega⟩
  have hd : 3 ≤ d := by omega
  unfold R_deepOf at hx
  refine ⟨⟨aM_239, rfl, Nat.le_of_ble_eq_true rfl⟩, ?_⟩
  show Ev sc d 239 0 [(2, v0), (0, v1), (9, 0), (9, 0), (9, 0), (9, 0), (9, 0), (9, 0)] [] h (some (0, r.1)) r.2
  refine Ev.blk (is := [.aload_n 0, .iload_n 1]) (pc2 := 2) (L2 := [(2, v0), (0, v1), (9, 0), (9, 0), (9, 0), (9, 0), (9, 0), (9, 0)]) (S2 := [(0, v1), (2, v0)]) (h2 := h) (by decide +kernel) rfl trivial ?_
  obtain ⟨_, hg, -, hx⟩ := bgd hx
  obtain ⟨u1, hc, hx⟩ := bca hx
  refine Ev.call (args := [(2, v0), (0, v1)]) (S2 := []) (r1 := (some (1, u1))) (h1 := h) (i := .invokevirtual 229) (by decide +kernel) rfl rfl (Nat.le_of_ble_eq_true rfl) (Or.inr (Or.inl ⟨rfl, hg, by decide +kernel⟩)) (x_R_restsOf (by omega) hc) ?_
  refine Ev.blk (is := [.lstore_n 2, .iconst 0, .istore 4]) (pc2 := 9) (L2 := [(2, v0), (0, v1), (1, u1), (8, 0), (0, 0), (9, 0), (9, 0), (9, 0)]) (S2 := []) (h2 := h) (by decide +kernel) rfl trivial ?_
  exact y_R_deepOf_9 hd FU v0 v1 u1 0 h _ hx
theorem x_R_deep {sc : AS} {d : Nat} (hd : 7 ≤ d) {v0 : Int} {v1 : Int} {h : AH} {r : (Int × AH)} (hx : R_deep v0 v1 h = some r) : Runs sc d 238 [(2, v0), (0, v1)] h (some (0, r.1)) r.2 := by
  obtain ⟨d, rfl⟩ : ∃ e, d = e + 1 := ⟨d - 1, by omega⟩
  have hd : 6 ≤ d := by omega
  unfold R_deep at hx
  refine ⟨⟨aM_238, rfl, Nat.le_of_ble_eq_true rfl⟩, ?_⟩
  show Ev sc d 238 0 [(2, v0), (0, v1)] [] h (some (0, r.1)) r.2
  refine Ev.blk (is := [.aload_n 0, .iload_n 1]) (pc2 := 2) (L2 := [(2, v0), (0, v1)]) (S2 := [(0, v1), (2, v0)]) (h2 := h) (by decide +kernel) rfl trivial ?_
  obtain ⟨_, hg, -, hx⟩ := bgd hx
  obtain ⟨u1, hc, hx⟩ := bca hx
  refine Ev.call (args := [(2, v0), (0, v1)]) (S2 := []) (r1 := (some (0, u1))) (h1 := h) (i := .invokevirtual 198) (by decide +kernel) rfl rfl (Nat.le_of_ble_eq_true rfl) (Or.inr (Or.inl ⟨rfl, hg, by decide +kernel⟩)) (x_R_isLine (by omega) hc) ?_
  obtain ⟨ha, hb⟩ := bite hx
  clear hx
  refine Ev.br (i := .ifCond .ne 5) (len := 3) (a := 8) (b := 10) (by decide +kernel) rfl Iff.rfl (fun hc => ?_) (fun hc => ?_)
  · have hx := ha hc
    clear ha hb hc
    refine Ev.blk (is := [.iconst (-1)]) (pc2 := 9) (L2 := [(2, v0), (0, v1)]) (S2 := [(0, (-1))]) (h2 := h) (by decide +kernel) rfl trivial ?_
    cases hx
    exact Ev.ret (i := .ireturn) (len := 1) (by decide +kernel) rfl (finOf (t := some .int) rfl (trivial))
  · have hx := hb hc
    clear ha hb hc
    refine Ev.blk (is := [.aload_n 0, .iload_n 1]) (pc2 := 12) (L2 := [(2, v0), (0, v1)]) (S2 := [(0, v1), (2, v0)]) (h2 := h) (by decide +kernel) rfl trivial ?_
    obtain ⟨_, hg, -, hx⟩ := bgd hx
    obtain ⟨u2, hc, hx⟩ := bca hx
    refine Ev.call (args := [(2, v0), (0, v1)]) (S2 := []) (r1 := (some (0, u2.1))) (h1 := u2.2) (i := .invokevirtual 227) (by decide +kernel) rfl rfl (Nat.le_of_ble_eq_true rfl) (Or.inr (Or.inl ⟨rfl, hg, by decide +kernel⟩)) (x_R_isRightLine (by omega) hc) ?_
    obtain ⟨ha, hb⟩ := bite hx
    clear hx
    refine Ev.br (i := .ifCond .eq 11) (len := 3) (a := 26) (b := 18) (by decide +kernel) rfl Iff.rfl (fun hc => ?_) (fun hc => ?_)
    · have hx := ha hc
      clear ha hb hc
      refine Ev.blk (is := [.sipush (-2)]) (pc2 := 28) (L2 := [(2, v0), (0, v1)]) (S2 := [(0, (-2))]) (h2 := u2.2) (by decide +kernel) rfl trivial ?_
      cases hx
      exact Ev.ret (i := .ireturn) (len := 1) (by decide +kernel) rfl (finOf (t := some .int) rfl (trivial))
    · have hx := hb hc
      clear ha hb hc
      refine Ev.blk (is := [.aload_n 0, .iload_n 1]) (pc2 := 20) (L2 := [(2, v0), (0, v1)]) (S2 := [(0, v1), (2, v0)]) (h2 := u2.2) (by decide +kernel) rfl trivial ?_
      obtain ⟨_, hg, -, hx⟩ := bgd hx
      obtain ⟨u3, hc, hx⟩ := bca hx
      refine Ev.call (args := [(2, v0), (0, v1)]) (S2 := []) (r1 := (some (0, u3.1))) (h1 := u3.2) (i := .invokevirtual 239) (by decide +kernel) rfl rfl (Nat.le_of_ble_eq_true rfl) (Or.inr (Or.inl ⟨rfl, hg, by decide +kernel⟩)) (x_R_deepOf (by omega) hc) ?_
      refine Ev.jp (i := .goto 5) (len := 3) (pc2 := 28) (by decide +kernel) rfl ?_
      cases hx
      exact Ev.ret (i := .ireturn) (len := 1) (by decide +kernel) rfl (finOf (t := some .int) rfl (trivial))
theorem y_R_falls_123 {sc : AS} {d : Nat} (hd : 6 ≤ d) {k40 : Int → Int → Int → AH → Option (Int × AH)} (hk40 : ∀ (v0 : Int) (v2 : Int) (v4 : Int) (h : AH) (r : (Int × AH)), k40 v0 v2 v4 h = some r → Ev sc d 240 40 [(2, v0), (9, 0), (1, v2), (8, 0), (0, v4)] [] h (some (1, r.1)) r.2) : ∀ (v0 : Int) (v2 : Int) (v4 : Int) (s0 : Int) (s1 : Int) (s2 : Int) (h : AH) (r : (Int × AH)), R_falls_123 k40 v0 v2 v4 s0 s1 s2 h = some r → Ev sc d 240 123 [(2, v0), (9, 0), (1, v2), (8, 0), (0, v4)] [(0, s0), (0, s1), (2, s2)] h (some (1, r.1)) r.2 := by
  intro v0 v2 v4 s0 s1 s2 h r hx
  unfold R_falls_123 at hx
  obtain ⟨h1, hg, he, hx⟩ := bgd hx
  refine Ev.blk (is := [.bastore]) (pc2 := 124) (L2 := [(2, v0), (9, 0), (1, v2), (8, 0), (0, v4)]) (S2 := []) (h2 := h1) (by decide +kernel) (by subst he; rfl) (by exact hg) ?_
  clear hg he
  obtain ⟨u2, hg, he, hx⟩ := bgd hx
  refine Ev.blk (is := [.aload_n 0, .getfield 9219]) (pc2 := 128) (L2 := [(2, v0), (9, 0), (1, v2), (8, 0), (0, v4)]) (S2 := [(2, u2)]) (h2 := h1) (by decide +kernel) (by subst he; rfl) (by exact hg) ?_
  clear hg he
  obtain ⟨u3, hg, he, hx⟩ := bgd hx
  refine Ev.blk (is := [.iload 4, .baload]) (pc2 := 131) (L2 := [(2, v0), (9, 0), (1, v2), (8, 0), (0, v4)]) (S2 := [(0, u3)]) (h2 := h1) (by decide +kernel) (by subst he; rfl) (by exact hg) ?_
  clear hg he
  obtain ⟨ha, hb⟩ := bite hx
  clear hx
  refine Ev.br (i := .ifCond .ne 10) (len := 3) (a := 134) (b := 141) (by decide +kernel) rfl Iff.rfl (fun hc => ?_) (fun hc => ?_)
  · have hx := ha hc
    clear ha hb hc
    refine Ev.blk (is := [.lload_n 2, .lconst 1, .iload 4, .lshl, .lor, .lstore_n 2, .iinc 4 1]) (pc2 := 144) (L2 := [(2, v0), (9, 0), (1, orL v2 (shlL 1 v4)), (8, 0), (0, w32 (v4 + 1))]) (S2 := []) (h2 := h1) (by decide +kernel) rfl trivial ?_
    refine Ev.jp (i := .goto (-104)) (len := 3) (pc2 := 40) (by decide +kernel) rfl ?_
    exact hk40 v0 (orL v2 (shlL 1 v4)) (w32 (v4 + 1)) h1 _ hx
  · have hx := hb hc
    clear ha hb hc
    refine Ev.blk (is := [.iinc 4 1]) (pc2 := 144) (L2 := [(2, v0), (9, 0), (1, v2), (8, 0), (0, w32 (v4 + 1))]) (S2 := []) (h2 := h1) (by decide +kernel) rfl trivial ?_
    refine Ev.jp (i := .goto (-104)) (len := 3) (pc2 := 40) (by decide +kernel) rfl ?_
    exact hk40 v0 v2 (w32 (v4 + 1)) h1 _ hx
theorem y_R_falls_40 {sc : AS} {d : Nat} (hd : 6 ≤ d) : ∀ (fu : Nat) (v0 : Int) (v2 : Int) (v4 : Int) (h : AH) (r : (Int × AH)), R_falls_40 fu v0 v2 v4 h = some r → Ev sc d 240 40 [(2, v0), (9, 0), (1, v2), (8, 0), (0, v4)] [] h (some (1, r.1)) r.2 := by
  intro fu
  induction fu with
  | zero => intro v0 v2 v4 h r hx; unfold R_falls_40 at hx; cases hx
  | succ fu ih =>
    intro v0 v2 v4 h r hx
    unfold R_falls_40 at hx
    obtain ⟨u1, hg, he, hx⟩ := bgd hx
    refine Ev.blk (is := [.iload 4, .aload_n 0, .getfield 9007]) (pc2 := 46) (L2 := [(2, v0), (9, 0), (1, v2), (8, 0), (0, v4)]) (S2 := [(0, u1), (0, v4)]) (h2 := h) (by decide +kernel) (by subst he; rfl) (by exact hg) ?_
    clear hg he
    obtain ⟨ha, hb⟩ := bite hx
    clear hx
    refine Ev.br (i := .if_icmp .ge 101) (len := 3) (a := 49) (b := 147) (by decide +kernel) rfl Iff.rfl (fun hc => ?_) (fun hc => ?_)
    · have hx := ha hc
      clear ha hb hc
      obtain ⟨u2, hg, he, hx⟩ := bgd hx
      refine Ev.blk (is := [.aload_n 0, .getfield 9219]) (pc2 := 53) (L2 := [(2, v0), (9, 0), (1, v2), (8, 0), (0, v4)]) (S2 := [(2, u2)]) (h2 := h) (by decide +kernel) (by subst he; rfl) (by exact hg) ?_
      clear hg he
      obtain ⟨u3, hg, he, hx⟩ := bgd hx
      refine Ev.blk (is := [.iload 4, .baload]) (pc2 := 56) (L2 := [(2, v0), (9, 0), (1, v2), (8, 0), (0, v4)]) (S2 := [(0, u3)]) (h2 := h) (by decide +kernel) (by subst he; rfl) (by exact hg) ?_
      clear hg he
      obtain ⟨ha, hb⟩ := bite hx
      clear hx
      refine Ev.br (i := .ifCond .ne 6) (len := 3) (a := 59) (b := 62) (by decide +kernel) rfl Iff.rfl (fun hc => ?_) (fun hc => ?_)
      · have hx := ha hc
        clear ha hb hc
        refine Ev.jp (i := .goto 82) (len := 3) (pc2 := 141) (by decide +kernel) rfl ?_
        refine Ev.blk (is := [.iinc 4 1]) (pc2 := 144) (L2 := [(2, v0), (9, 0), (1, v2), (8, 0), (0, w32 (v4 + 1))]) (S2 := []) (h2 := h) (by decide +kernel) rfl trivial ?_
        refine Ev.jp (i := .goto (-104)) (len := 3) (pc2 := 40) (by decide +kernel) rfl ?_
        exact ih v0 v2 (w32 (v4 + 1)) h _ hx
      · have hx := hb hc
        clear ha hb hc
        obtain ⟨u4, hg, he, hx⟩ := bgd hx
        refine Ev.blk (is := [.aload_n 0, .getfield 9219]) (pc2 := 66) (L2 := [(2, v0), (9, 0), (1, v2), (8, 0), (0, v4)]) (S2 := [(2, u4)]) (h2 := h) (by decide +kernel) (by subst he; rfl) (by exact hg) ?_
        clear hg he
        obtain ⟨u5, hg, he, hx⟩ := bgd hx
        refine Ev.blk (is := [.iload 4, .aload_n 0, .aload_n 0, .getfield 9214]) (pc2 := 73) (L2 := [(2, v0), (9, 0), (1, v2), (8, 0), (0, v4)]) (S2 := [(2, u5), (2, v0), (0, v4), (2, u4)]) (h2 := h) (by decide +kernel) (by subst he; rfl) (by exact hg) ?_
        clear hg he
        obtain ⟨u6, hg, he, hx⟩ := bgd hx
        refine Ev.blk (is := [.sipush 9, .iload 4, .imul, .aload_n 0, .getfield 9212]) (pc2 := 82) (L2 := [(2, v0), (9, 0), (1, v2), (8, 0), (0, v4)]) (S2 := [(2, u6), (0, w32 (9 * v4)), (2, u5), (2, v0), (0, v4), (2, u4)]) (h2 := h) (by decide +kernel) (by subst he; rfl) (by exact hg) ?_
        clear hg he
        obtain ⟨u7, hg, he, hx⟩ := bgd hx
        refine Ev.blk (is := [.iload 4, .iaload]) (pc2 := 85) (L2 := [(2, v0), (9, 0), (1, v2), (8, 0), (0, v4)]) (S2 := [(0, u7), (0, w32 (9 * v4)), (2, u5), (2, v0), (0, v4), (2, u4)]) (h2 := h) (by decide +kernel) (by subst he; rfl) (by exact hg) ?_
        clear hg he
        refine Ev.blk (is := [.iload 4]) (pc2 := 87) (L2 := [(2, v0), (9, 0), (1, v2), (8, 0), (0, v4)]) (S2 := [(0, v4), (0, u7), (0, w32 (9 * v4)), (2, u5), (2, v0), (0, v4), (2, u4)]) (h2 := h) (by decide +kernel) rfl trivial ?_
        obtain ⟨_, hg, -, hx⟩ := bgd hx
        obtain ⟨u8, hc, hx⟩ := bca hx
        refine Ev.call (args := [(2, v0), (2, u5), (0, w32 (9 * v4)), (0, u7), (0, v4)]) (S2 := [(0, v4), (2, u4)]) (r1 := (some (0, u8))) (h1 := h) (i := .invokevirtual 168) (by decide +kernel) rfl rfl (Nat.le_of_ble_eq_true rfl) (Or.inr (Or.inl ⟨rfl, hg, by decide +kernel⟩)) (x_R_hasAll (by omega) hc) ?_
        obtain ⟨ha, hb⟩ := bite hx
        clear hx
        refine Ev.br (i := .ifCond .eq 32) (len := 3) (a := 122) (b := 93) (by decide +kernel) rfl Iff.rfl (fun hc => ?_) (fun hc => ?_)
        · have hx := ha hc
          clear ha hb hc
          refine Ev.blk (is := [.iconst 0]) (pc2 := 123) (L2 := [(2, v0), (9, 0), (1, v2), (8, 0), (0, v4)]) (S2 := [(0, 0), (0, v4), (2, u4)]) (h2 := h) (by decide +kernel) rfl trivial ?_
          exact y_R_falls_123 hd ih v0 v2 v4 0 v4 u4 h _ hx
        · have hx := hb hc
          clear ha hb hc
          obtain ⟨u9, hg, he, hx⟩ := bgd hx
          refine Ev.blk (is := [.aload_n 0, .aload_n 0, .getfield 9217]) (pc2 := 98) (L2 := [(2, v0), (9, 0), (1, v2), (8, 0), (0, v4)]) (S2 := [(2, u9), (2, v0), (0, v4), (2, u4)]) (h2 := h) (by decide +kernel) (by subst he; rfl) (by exact hg) ?_
          clear hg he
          obtain ⟨u10, hg, he, hx⟩ := bgd hx
          refine Ev.blk (is := [.sipush 9, .iload 4, .imul, .aload_n 0, .getfield 9213]) (pc2 := 107) (L2 := [(2, v0), (9, 0), (1, v2), (8, 0), (0, v4)]) (S2 := [(2, u10), (0, w32 (9 * v4)), (2, u9), (2, v0), (0, v4), (2, u4)]) (h2 := h) (by decide +kernel) (by subst he; rfl) (by exact hg) ?_
          clear hg he
          obtain ⟨u11, hg, he, hx⟩ := bgd hx
          refine Ev.blk (is := [.iload 4, .iaload]) (pc2 := 110) (L2 := [(2, v0), (9, 0), (1, v2), (8, 0), (0, v4)]) (S2 := [(0, u11), (0, w32 (9 * v4)), (2, u9), (2, v0), (0, v4), (2, u4)]) (h2 := h) (by decide +kernel) (by subst he; rfl) (by exact hg) ?_
          clear hg he
          refine Ev.blk (is := [.iload 4]) (pc2 := 112) (L2 := [(2, v0), (9, 0), (1, v2), (8, 0), (0, v4)]) (S2 := [(0, v4), (0, u11), (0, w32 (9 * v4)), (2, u9), (2, v0), (0, v4), (2, u4)]) (h2 := h) (by decide +kernel) rfl trivial ?_
          obtain ⟨_, hg, -, hx⟩ := bgd hx
          obtain ⟨u12, hc, hx⟩ := bca hx
          refine Ev.call (args := [(2, v0), (2, u9), (0, w32 (9 * v4)), (0, u11), (0, v4)]) (S2 := [(0, v4), (2, u4)]) (r1 := (some (0, u12))) (h1 := h) (i := .invokevirtual 168) (by decide +kernel) rfl rfl (Nat.le_of_ble_eq_true rfl) (Or.inr (Or.inl ⟨rfl, hg, by decide +kernel⟩)) (x_R_hasAll (by omega) hc) ?_
          obtain ⟨ha, hb⟩ := bite hx
          clear hx
          refine Ev.br (i := .ifCond .eq 7) (len := 3) (a := 122) (b := 118) (by decide +kernel) rfl Iff.rfl (fun hc => ?_) (fun hc => ?_)
          · have hx := ha hc
            clear ha hb hc
            refine Ev.blk (is := [.iconst 0]) (pc2 := 123) (L2 := [(2, v0), (9, 0), (1, v2), (8, 0), (0, v4)]) (S2 := [(0, 0), (0, v4), (2, u4)]) (h2 := h) (by decide +kernel) rfl trivial ?_
            exact y_R_falls_123 hd ih v0 v2 v4 0 v4 u4 h _ hx
          · have hx := hb hc
            clear ha hb hc
            refine Ev.blk (is := [.iconst 1]) (pc2 := 119) (L2 := [(2, v0), (9, 0), (1, v2), (8, 0), (0, v4)]) (S2 := [(0, 1), (0, v4), (2, u4)]) (h2 := h) (by decide +kernel) rfl trivial ?_
            refine Ev.jp (i := .goto 4) (len := 3) (pc2 := 123) (by decide +kernel) rfl ?_
            exact y_R_falls_123 hd ih v0 v2 v4 1 v4 u4 h _ hx
    · have hx := hb hc
      clear ha hb hc
      refine Ev.blk (is := [.lload_n 2]) (pc2 := 148) (L2 := [(2, v0), (9, 0), (1, v2), (8, 0), (0, v4)]) (S2 := [(1, v2)]) (h2 := h) (by decide +kernel) rfl trivial ?_
      cases hx
      exact Ev.ret (i := .lreturn) (len := 1) (by decide +kernel) rfl (finOf (t := some .long) rfl (trivial))
theorem x_R_falls {sc : AS} {d : Nat} (hd : 7 ≤ d) {v0 : Int} {v1 : Int} {h : AH} {r : (Int × AH)} (hx : R_falls v0 v1 h = some r) : Runs sc d 240 [(2, v0), (0, v1)] h (some (1, r.1)) r.2 := by
  obtain ⟨d, rfl⟩ : ∃ e, d = e + 1 := ⟨d - 1, by omega⟩
  have hd : 6 ≤ d := by omega
  unfold R_falls at hx
  refine ⟨⟨aM_240, rfl, Nat.le_of_ble_eq_true rfl⟩, ?_⟩
  show Ev sc d 240 0 [(2, v0), (0, v1), (9, 0), (9, 0), (9, 0)] [] h (some (1, r.1)) r.2
  refine Ev.blk (is := [.aload_n 0, .iload_n 1]) (pc2 := 2) (L2 := [(2, v0), (0, v1), (9, 0), (9, 0), (9, 0)]) (S2 := [(0, v1), (2, v0)]) (h2 := h) (by decide +kernel) rfl trivial ?_
  obtain ⟨_, hg, -, hx⟩ := bgd hx
  obtain ⟨u1, hc, hx⟩ := bca hx
  refine Ev.call (args := [(2, v0), (0, v1)]) (S2 := []) (r1 := (some (0, u1))) (h1 := h) (i := .invokevirtual 198) (by decide +kernel) rfl rfl (Nat.le_of_ble_eq_true rfl) (Or.inr (Or.inl ⟨rfl, hg, by decide +kernel⟩)) (x_R_isLine (by omega) hc) ?_
  obtain ⟨ha, hb⟩ := bite hx
  clear hx
  refine Ev.br (i := .ifCond .ne 7) (len := 3) (a := 8) (b := 12) (by decide +kernel) rfl Iff.rfl (fun hc => ?_) (fun hc => ?_)
  · have hx := ha hc
    clear ha hb hc
    refine Ev.blk (is := [.jsr_w (-1)]) (pc2 := 11) (L2 := [(2, v0), (0, v1), (9, 0), (9, 0), (9, 0)]) (S2 := [(1, (-1))]) (h2 := h) (by decide +kernel) rfl trivial ?_
    cases hx
    exact Ev.ret (i := .lreturn) (len := 1) (by decide +kernel) rfl (finOf (t := some .long) rfl (trivial))
  · have hx := hb hc
    clear ha hb hc
    refine Ev.blk (is := [.aload_n 0, .iload_n 1]) (pc2 := 14) (L2 := [(2, v0), (0, v1), (9, 0), (9, 0), (9, 0)]) (S2 := [(0, v1), (2, v0)]) (h2 := h) (by decide +kernel) rfl trivial ?_
    obtain ⟨_, hg, -, hx⟩ := bgd hx
    obtain ⟨u2, hc, hx⟩ := bca hx
    refine Ev.call (args := [(2, v0), (0, v1)]) (S2 := []) (r1 := (some (0, u2.1))) (h1 := u2.2) (i := .invokevirtual 227) (by decide +kernel) rfl rfl (Nat.le_of_ble_eq_true rfl) (Or.inr (Or.inl ⟨rfl, hg, by decide +kernel⟩)) (x_R_isRightLine (by omega) hc) ?_
    obtain ⟨ha, hb⟩ := bite hx
    clear hx
    refine Ev.br (i := .ifCond .ne 7) (len := 3) (a := 20) (b := 24) (by decide +kernel) rfl Iff.rfl (fun hc => ?_) (fun hc => ?_)
    · have hx := ha hc
      clear ha hb hc
      refine Ev.blk (is := [.jsr_w (-2)]) (pc2 := 23) (L2 := [(2, v0), (0, v1), (9, 0), (9, 0), (9, 0)]) (S2 := [(1, (-2))]) (h2 := u2.2) (by decide +kernel) rfl trivial ?_
      cases hx
      exact Ev.ret (i := .lreturn) (len := 1) (by decide +kernel) rfl (finOf (t := some .long) rfl (trivial))
    · have hx := hb hc
      clear ha hb hc
      obtain ⟨u3, hg, he, hx⟩ := bgd hx
      refine Ev.blk (is := [.lconst 1, .iload_n 1, .lshl, .lstore_n 2, .aload_n 0, .getfield 9219]) (pc2 := 32) (L2 := [(2, v0), (0, v1), (1, shlL 1 v1), (8, 0), (9, 0)]) (S2 := [(2, u3)]) (h2 := u2.2) (by decide +kernel) (by subst he; rfl) (by exact hg) ?_
      clear hg he
      obtain ⟨h4, hg, he, hx⟩ := bgd hx
      refine Ev.blk (is := [.iload_n 1, .iconst 0, .bastore]) (pc2 := 35) (L2 := [(2, v0), (0, v1), (1, shlL 1 v1), (8, 0), (9, 0)]) (S2 := []) (h2 := h4) (by decide +kernel) (by subst he; rfl) (by exact hg) ?_
      clear hg he
      refine Ev.blk (is := [.iload_n 1, .iconst 1, .iadd, .istore 4]) (pc2 := 40) (L2 := [(2, v0), (0, v1), (1, shlL 1 v1), (8, 0), (0, w32 (v1 + 1))]) (S2 := []) (h2 := h4) (by decide +kernel) rfl trivial ?_
      refine Ev.wk (L2 := [(2, v0), (9, 0), (1, shlL 1 v1), (8, 0), (0, w32 (v1 + 1))]) (wkL_of ⟨Or.inl rfl, ⟨Or.inr rfl, ⟨Or.inl rfl, ⟨Or.inl rfl, ⟨Or.inl rfl, trivial⟩⟩⟩⟩⟩) ?_
      exact y_R_falls_40 hd FU v0 (shlL 1 v1) (w32 (v1 + 1)) h4 _ hx
theorem y_R_costOf_5 {sc : AS} {d : Nat} (hd : 0 ≤ d) : ∀ (fu : Nat) (v1 : Int) (v2 : Int) (h : AH) (r : Int), R_costOf_5 fu v1 v2 = some r → Ev sc d 243 5 [(9, 0), (0, v1), (0, v2)] [] h (some (0, r)) h := by
  intro fu
  induction fu with
  | zero => intro v1 v2 h r hx; unfold R_costOf_5 at hx; cases hx
  | succ fu ih =>
    intro v1 v2 h r hx
    unfold R_costOf_5 at hx
    refine Ev.blk (is := [.iload_n 2]) (pc2 := 6) (L2 := [(9, 0), (0, v1), (0, v2)]) (S2 := [(0, v2)]) (h2 := h) (by decide +kernel) rfl trivial ?_
    obtain ⟨ha, hb⟩ := bite hx
    clear hx
    refine Ev.br (i := .ifCond .le 18) (len := 3) (a := 9) (b := 24) (by decide +kernel) rfl Iff.rfl (fun hc => ?_) (fun hc => ?_)
    · have hx := ha hc
      clear ha hb hc
      obtain ⟨u1, hg, he, hx⟩ := bgd hx
      refine Ev.blk (is := [.iload_n 1, .iconst 1, .iload_n 2, .iconst 2, .irem]) (pc2 := 14) (L2 := [(9, 0), (0, v1), (0, v2)]) (S2 := [(0, u1), (0, 1), (0, v1)]) (h2 := h) (by decide +kernel) (by subst he; rfl) (by exact hg) ?_
      clear hg he
      obtain ⟨u2, hg, he, hx⟩ := bgd hx
      refine Ev.blk (is := [.iadd, .iadd, .istore_n 1, .iload_n 2, .iconst 2, .idiv]) (pc2 := 20) (L2 := [(9, 0), (0, w32 (v1 + (w32 (1 + u1)))), (0, v2)]) (S2 := [(0, u2)]) (h2 := h) (by decide +kernel) (by subst he; rfl) (by exact hg) ?_
      clear hg he
      refine Ev.blk (is := [.istore_n 2]) (pc2 := 21) (L2 := [(9, 0), (0, w32 (v1 + (w32 (1 + u1)))), (0, u2)]) (S2 := []) (h2 := h) (by decide +kernel) rfl trivial ?_
      refine Ev.jp (i := .goto (-16)) (len := 3) (pc2 := 5) (by decide +kernel) rfl ?_
      exact ih (w32 (v1 + (w32 (1 + u1)))) u2 h _ hx
    · have hx := hb hc
      clear ha hb hc
      refine Ev.blk (is := [.iload_n 1]) (pc2 := 25) (L2 := [(9, 0), (0, v1), (0, v2)]) (S2 := [(0, v1)]) (h2 := h) (by decide +kernel) rfl trivial ?_
      cases hx
      exact Ev.ret (i := .ireturn) (len := 1) (by decide +kernel) rfl (finOf (t := some .int) rfl (trivial))
theorem x_R_costOf {sc : AS} {d : Nat} (hd : 1 ≤ d) {v0 : Int} {h : AH} {r : Int} (hx : R_costOf v0 = some r) : Runs sc d 243 [(0, v0)] h (some (0, r)) h := by
  obtain ⟨d, rfl⟩ : ∃ e, d = e + 1 := ⟨d - 1, by omega⟩
  have hd : 0 ≤ d := by omega
  unfold R_costOf at hx
  refine ⟨⟨aM_243, rfl, Nat.le_of_ble_eq_true rfl⟩, ?_⟩
  show Ev sc d 243 0 [(0, v0), (9, 0), (9, 0)] [] h (some (0, r)) h
  refine Ev.blk (is := [.sipush (-2), .istore_n 1, .iload_n 0, .istore_n 2]) (pc2 := 5) (L2 := [(0, v0), (0, (-2)), (0, v0)]) (S2 := []) (h2 := h) (by decide +kernel) rfl trivial ?_
  refine Ev.wk (L2 := [(9, 0), (0, (-2)), (0, v0)]) (wkL_of ⟨Or.inr rfl, ⟨Or.inl rfl, ⟨Or.inl rfl, trivial⟩⟩⟩) ?_
  exact y_R_costOf_5 hd FU (-2) v0 h _ hx
theorem y_R_costsOf_7 {sc : AS} {d : Nat} (hd : 1 ≤ d) : ∀ (fu : Nat) (v0 : Int) (v1 : Int) (v2 : Int) (v3 : Int) (h : AH) (r : Int), R_costsOf_7 fu v0 v1 v2 v3 h = some r → Ev sc d 242 7 [(2, v0), (0, v1), (0, v2), (0, v3)] [] h (some (0, r)) h := by
  intro fu
  induction fu with
  | zero => intro v0 v1 v2 v3 h r hx; unfold R_costsOf_7 at hx; cases hx
  | succ fu ih =>
    intro v0 v1 v2 v3 h r hx
    unfold R_costsOf_7 at hx
    obtain ⟨u1, hg, he, hx⟩ := bgd hx
    refine Ev.blk (is := [.iload_n 3, .sipush 9, .iload_n 1, .imul, .aload_n 0, .getfield 9212]) (pc2 := 16) (L2 := [(2, v0), (0, v1), (0, v2), (0, v3)]) (S2 := [(2, u1), (0, w32 (9 * v1)), (0, v3)]) (h2 := h) (by decide +kernel) (by subst he; rfl) (by exact hg) ?_
    clear hg he
    obtain ⟨u2, hg, he, hx⟩ := bgd hx
    refine Ev.blk (is := [.iload_n 1, .iaload]) (pc2 := 18) (L2 := [(2, v0), (0, v1), (0, v2), (0, v3)]) (S2 := [(0, u2), (0, w32 (9 * v1)), (0, v3)]) (h2 := h) (by decide +kernel) (by subst he; rfl) (by exact hg) ?_
    clear hg he
    refine Ev.blk (is := [.iadd]) (pc2 := 19) (L2 := [(2, v0), (0, v1), (0, v2), (0, v3)]) (S2 := [(0, w32 ((w32 (9 * v1)) + u2)), (0, v3)]) (h2 := h) (by decide +kernel) rfl trivial ?_
    obtain ⟨ha, hb⟩ := bite hx
    clear hx
    refine Ev.br (i := .if_icmp .ge 42) (len := 3) (a := 22) (b := 61) (by decide +kernel) rfl Iff.rfl (fun hc => ?_) (fun hc => ?_)
    · have hx := ha hc
      clear ha hb hc
      obtain ⟨u3, hg, he, hx⟩ := bgd hx
      refine Ev.blk (is := [.iload_n 2, .aload_n 0, .getfield 9208]) (pc2 := 27) (L2 := [(2, v0), (0, v1), (0, v2), (0, v3)]) (S2 := [(2, u3), (0, v2)]) (h2 := h) (by decide +kernel) (by subst he; rfl) (by exact hg) ?_
      clear hg he
      obtain ⟨u4, hg, he, hx⟩ := bgd hx
      refine Ev.blk (is := [.iload_n 1, .iaload]) (pc2 := 29) (L2 := [(2, v0), (0, v1), (0, v2), (0, v3)]) (S2 := [(0, u4), (0, v2)]) (h2 := h) (by decide +kernel) (by subst he; rfl) (by exact hg) ?_
      clear hg he
      refine Ev.blk (is := [.iconst 1, .isub]) (pc2 := 31) (L2 := [(2, v0), (0, v1), (0, v2), (0, v3)]) (S2 := [(0, w32 (u4 - 1)), (0, v2)]) (h2 := h) (by decide +kernel) rfl trivial ?_
      obtain ⟨u5, hc, hx⟩ := bca hx
      refine Ev.call (args := [(0, w32 (u4 - 1))]) (S2 := [(0, v2)]) (r1 := (some (0, u5))) (h1 := h) (i := .invokestatic 243) (by decide +kernel) rfl rfl (Nat.le_of_ble_eq_true rfl) (Or.inl rfl) (x_R_costOf (by omega) hc) ?_
      obtain ⟨u6, hg, he, hx⟩ := bgd hx
      refine Ev.blk (is := [.aload_n 0, .getfield 9208]) (pc2 := 38) (L2 := [(2, v0), (0, v1), (0, v2), (0, v3)]) (S2 := [(2, u6), (0, u5), (0, v2)]) (h2 := h) (by decide +kernel) (by subst he; rfl) (by exact hg) ?_
      clear hg he
      obtain ⟨u7, hg, he, hx⟩ := bgd hx
      refine Ev.blk (is := [.iload_n 1, .iaload]) (pc2 := 40) (L2 := [(2, v0), (0, v1), (0, v2), (0, v3)]) (S2 := [(0, u7), (0, u5), (0, v2)]) (h2 := h) (by decide +kernel) (by subst he; rfl) (by exact hg) ?_
      clear hg he
      obtain ⟨u8, hg, he, hx⟩ := bgd hx
      refine Ev.blk (is := [.iconst 1, .isub, .aload_n 0, .getfield 9214]) (pc2 := 46) (L2 := [(2, v0), (0, v1), (0, v2), (0, v3)]) (S2 := [(2, u8), (0, w32 (u7 - 1)), (0, u5), (0, v2)]) (h2 := h) (by decide +kernel) (by subst he; rfl) (by exact hg) ?_
      clear hg he
      obtain ⟨u9, hg, he, hx⟩ := bgd hx
      refine Ev.blk (is := [.iload_n 3, .iaload]) (pc2 := 48) (L2 := [(2, v0), (0, v1), (0, v2), (0, v3)]) (S2 := [(0, u9), (0, w32 (u7 - 1)), (0, u5), (0, v2)]) (h2 := h) (by decide +kernel) (by subst he; rfl) (by exact hg) ?_
      clear hg he
      obtain ⟨u10, hg, he, hx⟩ := bgd hx
      refine Ev.blk (is := [.idiv]) (pc2 := 49) (L2 := [(2, v0), (0, v1), (0, v2), (0, v3)]) (S2 := [(0, u10), (0, u5), (0, v2)]) (h2 := h) (by decide +kernel) (by subst he; rfl) (by exact hg) ?_
      clear hg he
      obtain ⟨u11, hc, hx⟩ := bca hx
      refine Ev.call (args := [(0, u10)]) (S2 := [(0, u5), (0, v2)]) (r1 := (some (0, u11))) (h1 := h) (i := .invokestatic 243) (by decide +kernel) rfl rfl (Nat.le_of_ble_eq_true rfl) (Or.inl rfl) (x_R_costOf (by omega) hc) ?_
      refine Ev.blk (is := [.iadd, .iadd, .istore_n 2, .iinc 3 1]) (pc2 := 58) (L2 := [(2, v0), (0, v1), (0, w32 (v2 + (w32 (u5 + u11)))), (0, w32 (v3 + 1))]) (S2 := []) (h2 := h) (by decide +kernel) rfl trivial ?_
      refine Ev.jp (i := .goto (-51)) (len := 3) (pc2 := 7) (by decide +kernel) rfl ?_
      exact ih v0 v1 (w32 (v2 + (w32 (u5 + u11)))) (w32 (v3 + 1)) h _ hx
    · have hx := hb hc
      clear ha hb hc
      refine Ev.blk (is := [.iload_n 2]) (pc2 := 62) (L2 := [(2, v0), (0, v1), (0, v2), (0, v3)]) (S2 := [(0, v2)]) (h2 := h) (by decide +kernel) rfl trivial ?_
      cases hx
      exact Ev.ret (i := .ireturn) (len := 1) (by decide +kernel) rfl (finOf (t := some .int) rfl (trivial))
theorem x_R_costsOf {sc : AS} {d : Nat} (hd : 2 ≤ d) {v0 : Int} {v1 : Int} {h : AH} {r : Int} (hx : R_costsOf v0 v1 h = some r) : Runs sc d 242 [(2, v0), (0, v1)] h (some (0, r)) h := by
  obtain ⟨d, rfl⟩ : ∃ e, d = e + 1 := ⟨d - 1, by omega⟩
  have hd : 1 ≤ d := by omega
  unfold R_costsOf at hx
  refine ⟨⟨aM_242, rfl, Nat.le_of_ble_eq_true rfl⟩, ?_⟩
  show Ev sc d 242 0 [(2, v0), (0, v1), (9, 0), (9, 0)] [] h (some (0, r)) h
  refine Ev.blk (is := [.iconst 0, .istore_n 2, .sipush 9, .iload_n 1, .imul, .istore_n 3]) (pc2 := 7) (L2 := [(2, v0), (0, v1), (0, 0), (0, w32 (9 * v1))]) (S2 := []) (h2 := h) (by decide +kernel) rfl trivial ?_
  exact y_R_costsOf_7 hd FU v0 v1 0 (w32 (9 * v1)) h _ hx
theorem x_R_cost {sc : AS} {d : Nat} (hd : 7 ≤ d) {v0 : Int} {v1 : Int} {h : AH} {r : (Int × AH)} (hx : R_cost v0 v1 h = some r) : Runs sc d 241 [(2, v0), (0, v1)] h (some (0, r.1)) r.2 := by
  obtain ⟨d, rfl⟩ : ∃ e, d = e + 1 := ⟨d - 1, by omega⟩
  have hd : 6 ≤ d := by omega
  unfold R_cost at hx
  refine ⟨⟨aM_241, rfl, Nat.le_of_ble_eq_true rfl⟩, ?_⟩
  show Ev sc d 241 0 [(2, v0), (0, v1)] [] h (some (0, r.1)) r.2
  refine Ev.blk (is := [.aload_n 0, .iload_n 1]) (pc2 := 2) (L2 := [(2, v0), (0, v1)]) (S2 := [(0, v1), (2, v0)]) (h2 := h) (by decide +kernel) rfl trivial ?_
  obtain ⟨_, hg, -, hx⟩ := bgd hx
  obtain ⟨u1, hc, hx⟩ := bca hx
  refine Ev.call (args := [(2, v0), (0, v1)]) (S2 := []) (r1 := (some (0, u1))) (h1 := h) (i := .invokevirtual 198) (by decide +kernel) rfl rfl (Nat.le_of_ble_eq_true rfl) (Or.inr (Or.inl ⟨rfl, hg, by decide +kernel⟩)) (x_R_isLine (by omega) hc) ?_
  obtain ⟨ha, hb⟩ := bite hx
  clear hx
  refine Ev.br (i := .ifCond .ne 5) (len := 3) (a := 8) (b := 10) (by decide +kernel) rfl Iff.rfl (fun hc => ?_) (fun hc => ?_)
  · have hx := ha hc
    clear ha hb hc
    refine Ev.blk (is := [.iconst (-1)]) (pc2 := 9) (L2 := [(2, v0), (0, v1)]) (S2 := [(0, (-1))]) (h2 := h) (by decide +kernel) rfl trivial ?_
    cases hx
    exact Ev.ret (i := .ireturn) (len := 1) (by decide +kernel) rfl (finOf (t := some .int) rfl (trivial))
  · have hx := hb hc
    clear ha hb hc
    refine Ev.blk (is := [.aload_n 0, .iload_n 1]) (pc2 := 12) (L2 := [(2, v0), (0, v1)]) (S2 := [(0, v1), (2, v0)]) (h2 := h) (by decide +kernel) rfl trivial ?_
    obtain ⟨_, hg, -, hx⟩ := bgd hx
    obtain ⟨u2, hc, hx⟩ := bca hx
    refine Ev.call (args := [(2, v0), (0, v1)]) (S2 := []) (r1 := (some (0, u2.1))) (h1 := u2.2) (i := .invokevirtual 227) (by decide +kernel) rfl rfl (Nat.le_of_ble_eq_true rfl) (Or.inr (Or.inl ⟨rfl, hg, by decide +kernel⟩)) (x_R_isRightLine (by omega) hc) ?_
    obtain ⟨ha, hb⟩ := bite hx
    clear hx
    refine Ev.br (i := .ifCond .eq 11) (len := 3) (a := 26) (b := 18) (by decide +kernel) rfl Iff.rfl (fun hc => ?_) (fun hc => ?_)
    · have hx := ha hc
      clear ha hb hc
      refine Ev.blk (is := [.sipush (-2)]) (pc2 := 28) (L2 := [(2, v0), (0, v1)]) (S2 := [(0, (-2))]) (h2 := u2.2) (by decide +kernel) rfl trivial ?_
      cases hx
      exact Ev.ret (i := .ireturn) (len := 1) (by decide +kernel) rfl (finOf (t := some .int) rfl (trivial))
    · have hx := hb hc
      clear ha hb hc
      refine Ev.blk (is := [.aload_n 0, .iload_n 1]) (pc2 := 20) (L2 := [(2, v0), (0, v1)]) (S2 := [(0, v1), (2, v0)]) (h2 := u2.2) (by decide +kernel) rfl trivial ?_
      obtain ⟨_, hg, -, hx⟩ := bgd hx
      obtain ⟨u3, hc, hx⟩ := bca hx
      refine Ev.call (args := [(2, v0), (0, v1)]) (S2 := []) (r1 := (some (0, u3))) (h1 := u2.2) (i := .invokevirtual 242) (by decide +kernel) rfl rfl (Nat.le_of_ble_eq_true rfl) (Or.inr (Or.inl ⟨rfl, hg, by decide +kernel⟩)) (x_R_costsOf (by omega) hc) ?_
      refine Ev.jp (i := .goto 5) (len := 3) (pc2 := 28) (by decide +kernel) rfl ?_
      cases hx
      exact Ev.ret (i := .ireturn) (len := 1) (by decide +kernel) rfl (finOf (t := some .int) rfl (trivial))
theorem y_R_loose_28 {sc : AS} {d : Nat} (hd : 6 ≤ d) : ∀ (fu : Nat) (v0 : Int) (v1 : Int) (v2 : Int) (v3 : Int) (v4 : Int) (h : AH) (r : (Int × AH)), R_loose_28 fu v0 v1 v2 v3 v4 h = some r → Ev sc d 244 28 [(2, v0), (0, v1), (0, v2), (0, v3), (0, v4)] [] h (some (0, r.1)) r.2 := by
  intro fu
  induction fu with
  | zero => intro v0 v1 v2 v3 v4 h r hx; unfold R_loose_28 at hx; cases hx
  | succ fu ih =>
    intro v0 v1 v2 v3 v4 h r hx
    unfold R_loose_28 at hx
    refine Ev.blk (is := [.iload 4, .sipush 999]) (pc2 := 33) (L2 := [(2, v0), (0, v1), (0, v2), (0, v3), (0, v4)]) (S2 := [(0, 999), (0, v4)]) (h2 := h) (by decide +kernel) rfl trivial ?_
    obtain ⟨ha, hb⟩ := bite hx
    clear hx
    refine Ev.br (i := .if_icmp .gt 56) (len := 3) (a := 89) (b := 36) (by decide +kernel) rfl Iff.rfl (fun hc => ?_) (fun hc => ?_)
    · have hx := ha hc
      clear ha hb hc
      refine Ev.blk (is := [.iload_n 3]) (pc2 := 90) (L2 := [(2, v0), (0, v1), (0, v2), (0, v3), (0, v4)]) (S2 := [(0, v3)]) (h2 := h) (by decide +kernel) rfl trivial ?_
      cases hx
      exact Ev.ret (i := .ireturn) (len := 1) (by decide +kernel) rfl (finOf (t := some .int) rfl (trivial))
    · have hx := hb hc
      clear ha hb hc
      obtain ⟨u1, hg, he, hx⟩ := bgd hx
      refine Ev.blk (is := [.aload_n 0, .getfield 9208]) (pc2 := 40) (L2 := [(2, v0), (0, v1), (0, v2), (0, v3), (0, v4)]) (S2 := [(2, u1)]) (h2 := h) (by decide +kernel) (by subst he; rfl) (by exact hg) ?_
      clear hg he
      obtain ⟨u2, hg, he, hx⟩ := bgd hx
      refine Ev.blk (is := [.iload_n 1, .iaload]) (pc2 := 42) (L2 := [(2, v0), (0, v1), (0, v2), (0, v3), (0, v4)]) (S2 := [(0, u2)]) (h2 := h) (by decide +kernel) (by subst he; rfl) (by exact hg) ?_
      clear hg he
      refine Ev.blk (is := [.i2l, .iload 4, .i2l]) (pc2 := 46) (L2 := [(2, v0), (0, v1), (0, v2), (0, v3), (0, v4)]) (S2 := [(1, v4), (1, u2)]) (h2 := h) (by decide +kernel) rfl trivial ?_
      obtain ⟨u3, hc, hx⟩ := bca hx
      refine Ev.call (args := [(1, u2), (1, v4)]) (S2 := []) (r1 := (some (0, u3))) (h1 := h) (i := .invokestatic 177) (by decide +kernel) rfl rfl (Nat.le_of_ble_eq_true rfl) (Or.inl rfl) (x_R_isOneBy (by omega) hc) ?_
      obtain ⟨ha, hb⟩ := bite hx
      clear hx
      refine Ev.br (i := .ifCond .eq 34) (len := 3) (a := 83) (b := 52) (by decide +kernel) rfl Iff.rfl (fun hc => ?_) (fun hc => ?_)
      · have hx := ha hc
        clear ha hb hc
        refine Ev.blk (is := [.iinc 4 1]) (pc2 := 86) (L2 := [(2, v0), (0, v1), (0, v2), (0, v3), (0, w32 (v4 + 1))]) (S2 := []) (h2 := h) (by decide +kernel) rfl trivial ?_
        refine Ev.jp (i := .goto (-58)) (len := 3) (pc2 := 28) (by decide +kernel) rfl ?_
        exact ih v0 v1 v2 v3 (w32 (v4 + 1)) h _ hx
      · have hx := hb hc
        clear ha hb hc
        obtain ⟨u4, hg, he, hx⟩ := bgd hx
        refine Ev.blk (is := [.aload_n 0, .getfield 9208]) (pc2 := 56) (L2 := [(2, v0), (0, v1), (0, v2), (0, v3), (0, v4)]) (S2 := [(2, u4)]) (h2 := h) (by decide +kernel) (by subst he; rfl) (by exact hg) ?_
        clear hg he
        obtain ⟨u5, hg, he, hx⟩ := bgd hx
        refine Ev.blk (is := [.iload_n 1, .iaload]) (pc2 := 58) (L2 := [(2, v0), (0, v1), (0, v2), (0, v3), (0, v4)]) (S2 := [(0, u5)]) (h2 := h) (by decide +kernel) (by subst he; rfl) (by exact hg) ?_
        clear hg he
        obtain ⟨u6, hg, he, hx⟩ := bgd hx
        refine Ev.blk (is := [.i2l, .iload 4, .i2l, .aload_n 0, .getfield 9214]) (pc2 := 66) (L2 := [(2, v0), (0, v1), (0, v2), (0, v3), (0, v4)]) (S2 := [(2, u6), (1, v4), (1, u5)]) (h2 := h) (by decide +kernel) (by subst he; rfl) (by exact hg) ?_
        clear hg he
        obtain ⟨u7, hg, he, hx⟩ := bgd hx
        refine Ev.blk (is := [.sipush 9, .iload_n 1, .imul, .iload_n 2, .iadd, .iaload]) (pc2 := 73) (L2 := [(2, v0), (0, v1), (0, v2), (0, v3), (0, v4)]) (S2 := [(0, u7), (1, v4), (1, u5)]) (h2 := h) (by decide +kernel) (by subst he; rfl) (by exact hg) ?_
        clear hg he
        refine Ev.blk (is := [.i2l]) (pc2 := 74) (L2 := [(2, v0), (0, v1), (0, v2), (0, v3), (0, v4)]) (S2 := [(1, u7), (1, v4), (1, u5)]) (h2 := h) (by decide +kernel) rfl trivial ?_
        obtain ⟨u8, hc, hx⟩ := bca hx
        refine Ev.call (args := [(1, u5), (1, v4), (1, u7)]) (S2 := []) (r1 := (some (0, u8))) (h1 := h) (i := .invokestatic 179) (by decide +kernel) rfl rfl (Nat.le_of_ble_eq_true rfl) (Or.inl rfl) (x_R_isApartBy (by omega) hc) ?_
        obtain ⟨ha, hb⟩ := bite hx
        clear hx
        refine Ev.br (i := .ifCond .eq 6) (len := 3) (a := 83) (b := 80) (by decide +kernel) rfl Iff.rfl (fun hc => ?_) (fun hc => ?_)
        · have hx := ha hc
          clear ha hb hc
          refine Ev.blk (is := [.iinc 4 1]) (pc2 := 86) (L2 := [(2, v0), (0, v1), (0, v2), (0, v3), (0, w32 (v4 + 1))]) (S2 := []) (h2 := h) (by decide +kernel) rfl trivial ?_
          refine Ev.jp (i := .goto (-58)) (len := 3) (pc2 := 28) (by decide +kernel) rfl ?_
          exact ih v0 v1 v2 v3 (w32 (v4 + 1)) h _ hx
        · have hx := hb hc
          clear ha hb hc
          refine Ev.blk (is := [.iinc 3 1, .iinc 4 1]) (pc2 := 86) (L2 := [(2, v0), (0, v1), (0, v2), (0, w32 (v3 + 1)), (0, w32 (v4 + 1))]) (S2 := []) (h2 := h) (by decide +kernel) rfl trivial ?_
          refine Ev.jp (i := .goto (-58)) (len := 3) (pc2 := 28) (by decide +kernel) rfl ?_
          exact ih v0 v1 v2 (w32 (v3 + 1)) (w32 (v4 + 1)) h _ hx
theorem x_R_loose {sc : AS} {d : Nat} (hd : 7 ≤ d) {v0 : Int} {v1 : Int} {v2 : Int} {h : AH} {r : (Int × AH)} (hx : R_loose v0 v1 v2 h = some r) : Runs sc d 244 [(2, v0), (0, v1), (0, v2)] h (some (0, r.1)) r.2 := by
  obtain ⟨d, rfl⟩ : ∃ e, d = e + 1 := ⟨d - 1, by omega⟩
  have hd : 6 ≤ d := by omega
  unfold R_loose at hx
  refine ⟨⟨aM_244, rfl, Nat.le_of_ble_eq_true rfl⟩, ?_⟩
  show Ev sc d 244 0 [(2, v0), (0, v1), (0, v2), (9, 0), (9, 0)] [] h (some (0, r.1)) r.2
  refine Ev.blk (is := [.aload_n 0, .iload_n 1, .iconst 0, .iload_n 2]) (pc2 := 4) (L2 := [(2, v0), (0, v1), (0, v2), (9, 0), (9, 0)]) (S2 := [(0, v2), (0, 0), (0, v1), (2, v0)]) (h2 := h) (by decide +kernel) rfl trivial ?_
  obtain ⟨_, hg, -, hx⟩ := bgd hx
  obtain ⟨u1, hc, hx⟩ := bca hx
  refine Ev.call (args := [(2, v0), (0, v1), (0, 0), (0, v2)]) (S2 := []) (r1 := (some (0, u1))) (h1 := h) (i := .invokevirtual 223) (by decide +kernel) rfl rfl (Nat.le_of_ble_eq_true rfl) (Or.inr (Or.inl ⟨rfl, hg, by decide +kernel⟩)) (x_R_isRow (by omega) hc) ?_
  obtain ⟨ha, hb⟩ := bite hx
  clear hx
  refine Ev.br (i := .ifCond .ne 5) (len := 3) (a := 10) (b := 12) (by decide +kernel) rfl Iff.rfl (fun hc => ?_) (fun hc => ?_)
  · have hx := ha hc
    clear ha hb hc
    refine Ev.blk (is := [.iconst (-1)]) (pc2 := 11) (L2 := [(2, v0), (0, v1), (0, v2), (9, 0), (9, 0)]) (S2 := [(0, (-1))]) (h2 := h) (by decide +kernel) rfl trivial ?_
    cases hx
    exact Ev.ret (i := .ireturn) (len := 1) (by decide +kernel) rfl (finOf (t := some .int) rfl (trivial))
  · have hx := hb hc
    clear ha hb hc
    refine Ev.blk (is := [.aload_n 0, .iload_n 1]) (pc2 := 14) (L2 := [(2, v0), (0, v1), (0, v2), (9, 0), (9, 0)]) (S2 := [(0, v1), (2, v0)]) (h2 := h) (by decide +kernel) rfl trivial ?_
    obtain ⟨_, hg, -, hx⟩ := bgd hx
    obtain ⟨u2, hc, hx⟩ := bca hx
    refine Ev.call (args := [(2, v0), (0, v1)]) (S2 := []) (r1 := (some (0, u2.1))) (h1 := u2.2) (i := .invokevirtual 227) (by decide +kernel) rfl rfl (Nat.le_of_ble_eq_true rfl) (Or.inr (Or.inl ⟨rfl, hg, by decide +kernel⟩)) (x_R_isRightLine (by omega) hc) ?_
    obtain ⟨ha, hb⟩ := bite hx
    clear hx
    refine Ev.br (i := .ifCond .ne 6) (len := 3) (a := 20) (b := 23) (by decide +kernel) rfl Iff.rfl (fun hc => ?_) (fun hc => ?_)
    · have hx := ha hc
      clear ha hb hc
      refine Ev.blk (is := [.sipush (-2)]) (pc2 := 22) (L2 := [(2, v0), (0, v1), (0, v2), (9, 0), (9, 0)]) (S2 := [(0, (-2))]) (h2 := u2.2) (by decide +kernel) rfl trivial ?_
      cases hx
      exact Ev.ret (i := .ireturn) (len := 1) (by decide +kernel) rfl (finOf (t := some .int) rfl (trivial))
    · have hx := hb hc
      clear ha hb hc
      refine Ev.blk (is := [.iconst 0, .istore_n 3, .iconst 2, .istore 4]) (pc2 := 28) (L2 := [(2, v0), (0, v1), (0, v2), (0, 0), (0, 2)]) (S2 := []) (h2 := u2.2) (by decide +kernel) rfl trivial ?_
      exact y_R_loose_28 hd FU v0 v1 v2 0 2 u2.2 _ hx
theorem x_R_shared {sc : AS} {d : Nat} (hd : 6 ≤ d) {v0 : Int} {v1 : Int} {v2 : Int} {h : AH} {r : (Int × AH)} (hx : R_shared v0 v1 v2 h = some r) : Runs sc d 245 [(2, v0), (0, v1), (0, v2)] h (some (1, r.1)) r.2 := by
  obtain ⟨d, rfl⟩ : ∃ e, d = e + 1 := ⟨d - 1, by omega⟩
  have hd : 5 ≤ d := by omega
  unfold R_shared at hx
  refine ⟨⟨aM_245, rfl, Nat.le_of_ble_eq_true rfl⟩, ?_⟩
  show Ev sc d 245 0 [(2, v0), (0, v1), (0, v2)] [] h (some (1, r.1)) r.2
  refine Ev.blk (is := [.aload_n 0, .iload_n 1]) (pc2 := 2) (L2 := [(2, v0), (0, v1), (0, v2)]) (S2 := [(0, v1), (2, v0)]) (h2 := h) (by decide +kernel) rfl trivial ?_
  obtain ⟨_, hg, -, hx⟩ := bgd hx
  obtain ⟨u1, hc, hx⟩ := bca hx
  refine Ev.call (args := [(2, v0), (0, v1)]) (S2 := []) (r1 := (some (0, u1))) (h1 := h) (i := .invokevirtual 198) (by decide +kernel) rfl rfl (Nat.le_of_ble_eq_true rfl) (Or.inr (Or.inl ⟨rfl, hg, by decide +kernel⟩)) (x_R_isLine (by omega) hc) ?_
  obtain ⟨ha, hb⟩ := bite hx
  clear hx
  refine Ev.br (i := .ifCond .eq 11) (len := 3) (a := 16) (b := 8) (by decide +kernel) rfl Iff.rfl (fun hc => ?_) (fun hc => ?_)
  · have hx := ha hc
    clear ha hb hc
    refine Ev.blk (is := [.jsr_w (-1)]) (pc2 := 19) (L2 := [(2, v0), (0, v1), (0, v2)]) (S2 := [(1, (-1))]) (h2 := h) (by decide +kernel) rfl trivial ?_
    cases hx
    exact Ev.ret (i := .lreturn) (len := 1) (by decide +kernel) rfl (finOf (t := some .long) rfl (trivial))
  · have hx := hb hc
    clear ha hb hc
    refine Ev.blk (is := [.aload_n 0, .iload_n 2]) (pc2 := 10) (L2 := [(2, v0), (0, v1), (0, v2)]) (S2 := [(0, v2), (2, v0)]) (h2 := h) (by decide +kernel) rfl trivial ?_
    obtain ⟨_, hg, -, hx⟩ := bgd hx
    obtain ⟨u2, hc, hx⟩ := bca hx
    refine Ev.call (args := [(2, v0), (0, v2)]) (S2 := []) (r1 := (some (0, u2))) (h1 := h) (i := .invokevirtual 198) (by decide +kernel) rfl rfl (Nat.le_of_ble_eq_true rfl) (Or.inr (Or.inl ⟨rfl, hg, by decide +kernel⟩)) (x_R_isLine (by omega) hc) ?_
    obtain ⟨ha, hb⟩ := bite hx
    clear hx
    refine Ev.br (i := .ifCond .ne 7) (len := 3) (a := 16) (b := 20) (by decide +kernel) rfl Iff.rfl (fun hc => ?_) (fun hc => ?_)
    · have hx := ha hc
      clear ha hb hc
      refine Ev.blk (is := [.jsr_w (-1)]) (pc2 := 19) (L2 := [(2, v0), (0, v1), (0, v2)]) (S2 := [(1, (-1))]) (h2 := h) (by decide +kernel) rfl trivial ?_
      cases hx
      exact Ev.ret (i := .lreturn) (len := 1) (by decide +kernel) rfl (finOf (t := some .long) rfl (trivial))
    · have hx := hb hc
      clear ha hb hc
      refine Ev.blk (is := [.aload_n 0]) (pc2 := 21) (L2 := [(2, v0), (0, v1), (0, v2)]) (S2 := [(2, v0)]) (h2 := h) (by decide +kernel) rfl trivial ?_
      obtain ⟨_, hg, -, hx⟩ := bgd hx
      obtain ⟨h4, hc, hx⟩ := bca hx
      refine Ev.call (args := [(2, v0)]) (S2 := []) (r1 := none) (h1 := h4) (i := .invokevirtual 164) (by decide +kernel) rfl rfl (Nat.le_of_ble_eq_true rfl) (Or.inr (Or.inl ⟨rfl, hg, by decide +kernel⟩)) (x_R_laysRight (by omega) hc) ?_
      obtain ⟨u5, hg, he, hx⟩ := bgd hx
      refine Ev.blk (is := [.aload_n 0, .getfield 9219]) (pc2 := 28) (L2 := [(2, v0), (0, v1), (0, v2)]) (S2 := [(2, u5)]) (h2 := h4) (by decide +kernel) (by subst he; rfl) (by exact hg) ?_
      clear hg he
      obtain ⟨u6, hg, he, hx⟩ := bgd hx
      refine Ev.blk (is := [.iload_n 1, .baload]) (pc2 := 30) (L2 := [(2, v0), (0, v1), (0, v2)]) (S2 := [(0, u6)]) (h2 := h4) (by decide +kernel) (by subst he; rfl) (by exact hg) ?_
      clear hg he
      obtain ⟨ha, hb⟩ := bite hx
      clear hx
      refine Ev.br (i := .ifCond .eq 26) (len := 3) (a := 56) (b := 33) (by decide +kernel) rfl Iff.rfl (fun hc => ?_) (fun hc => ?_)
      · have hx := ha hc
        clear ha hb hc
        refine Ev.blk (is := [.jsr_w (-2)]) (pc2 := 59) (L2 := [(2, v0), (0, v1), (0, v2)]) (S2 := [(1, (-2))]) (h2 := h4) (by decide +kernel) rfl trivial ?_
        cases hx
        exact Ev.ret (i := .lreturn) (len := 1) (by decide +kernel) rfl (finOf (t := some .long) rfl (trivial))
      · have hx := hb hc
        clear ha hb hc
        obtain ⟨u7, hg, he, hx⟩ := bgd hx
        refine Ev.blk (is := [.aload_n 0, .getfield 9219]) (pc2 := 37) (L2 := [(2, v0), (0, v1), (0, v2)]) (S2 := [(2, u7)]) (h2 := h4) (by decide +kernel) (by subst he; rfl) (by exact hg) ?_
        clear hg he
        obtain ⟨u8, hg, he, hx⟩ := bgd hx
        refine Ev.blk (is := [.iload_n 2, .baload]) (pc2 := 39) (L2 := [(2, v0), (0, v1), (0, v2)]) (S2 := [(0, u8)]) (h2 := h4) (by decide +kernel) (by subst he; rfl) (by exact hg) ?_
        clear hg he
        obtain ⟨ha, hb⟩ := bite hx
        clear hx
        refine Ev.br (i := .ifCond .eq 17) (len := 3) (a := 56) (b := 42) (by decide +kernel) rfl Iff.rfl (fun hc => ?_) (fun hc => ?_)
        · have hx := ha hc
          clear ha hb hc
          refine Ev.blk (is := [.jsr_w (-2)]) (pc2 := 59) (L2 := [(2, v0), (0, v1), (0, v2)]) (S2 := [(1, (-2))]) (h2 := h4) (by decide +kernel) rfl trivial ?_
          cases hx
          exact Ev.ret (i := .lreturn) (len := 1) (by decide +kernel) rfl (finOf (t := some .long) rfl (trivial))
        · have hx := hb hc
          clear ha hb hc
          refine Ev.blk (is := [.aload_n 0, .iload_n 1]) (pc2 := 44) (L2 := [(2, v0), (0, v1), (0, v2)]) (S2 := [(0, v1), (2, v0)]) (h2 := h4) (by decide +kernel) rfl trivial ?_
          obtain ⟨_, hg, -, hx⟩ := bgd hx
          obtain ⟨u9, hc, hx⟩ := bca hx
          refine Ev.call (args := [(2, v0), (0, v1)]) (S2 := []) (r1 := (some (1, u9))) (h1 := h4) (i := .invokevirtual 229) (by decide +kernel) rfl rfl (Nat.le_of_ble_eq_true rfl) (Or.inr (Or.inl ⟨rfl, hg, by decide +kernel⟩)) (x_R_restsOf (by omega) hc) ?_
          refine Ev.blk (is := [.aload_n 0, .iload_n 2]) (pc2 := 49) (L2 := [(2, v0), (0, v1), (0, v2)]) (S2 := [(0, v2), (2, v0), (1, u9)]) (h2 := h4) (by decide +kernel) rfl trivial ?_
          obtain ⟨_, hg, -, hx⟩ := bgd hx
          obtain ⟨u10, hc, hx⟩ := bca hx
          refine Ev.call (args := [(2, v0), (0, v2)]) (S2 := [(1, u9)]) (r1 := (some (1, u10))) (h1 := h4) (i := .invokevirtual 229) (by decide +kernel) rfl rfl (Nat.le_of_ble_eq_true rfl) (Or.inr (Or.inl ⟨rfl, hg, by decide +kernel⟩)) (x_R_restsOf (by omega) hc) ?_
          refine Ev.blk (is := [.land]) (pc2 := 53) (L2 := [(2, v0), (0, v1), (0, v2)]) (S2 := [(1, andL u9 u10)]) (h2 := h4) (by decide +kernel) rfl trivial ?_
          refine Ev.jp (i := .goto 6) (len := 3) (pc2 := 59) (by decide +kernel) rfl ?_
          cases hx
          exact Ev.ret (i := .lreturn) (len := 1) (by decide +kernel) rfl (finOf (t := some .long) rfl (trivial))
