/-! the methods run as their shallow functions say -/
theorem y_R_common_6 {sc : AS} {d : Nat} (hd : 0 ≤ d) : ∀ (fu : Nat) (v4 : Int) (v6 : Int) (h : AH) (r : Int), R_common_6 fu v4 v6 = some r → Ev sc d 176 6 [(9, 0), (9, 0), (9, 0), (9, 0), (1, v4), (8, 0), (1, v6), (8, 0), (9, 0), (9, 0)] [] h (some (1, r)) h := by
  intro fu
  induction fu with
  | zero => intro v4 v6 h r hx; unfold R_common_6 at hx; cases hx
  | succ fu ih =>
    intro v4 v6 h r hx
    unfold R_common_6 at hx
    refine Ev.blk (is := [.lload 6, .lconst 0, .lcmp]) (pc2 := 10) (L2 := [(9, 0), (9, 0), (9, 0), (9, 0), (1, v4), (8, 0), (1, v6), (8, 0), (9, 0), (9, 0)]) (S2 := [(0, cmpL v6 0)]) (h2 := h) (by decide +kernel) rfl trivial ?_
    obtain ⟨ha, hb⟩ := bite hx
    clear hx
    refine Ev.br (i := .ifCond .eq 21) (len := 3) (a := 31) (b := 13) (by decide +kernel) rfl cmpL_eq (fun hc => ?_) (fun hc => ?_)
    · have hx := ha hc
      clear ha hb hc
      refine Ev.blk (is := [.lload 4]) (pc2 := 33) (L2 := [(9, 0), (9, 0), (9, 0), (9, 0), (1, v4), (8, 0), (1, v6), (8, 0), (9, 0), (9, 0)]) (S2 := [(1, v4)]) (h2 := h) (by decide +kernel) rfl trivial ?_
      cases hx
      exact Ev.ret (i := .lreturn) (len := 1) (by decide +kernel) rfl (finOf (t := some .long) rfl (trivial))
    · have hx := hb hc
      clear ha hb hc
      obtain ⟨u1, hg, he, hx⟩ := bgd hx
      refine Ev.blk (is := [.lload 4, .lload 6, .lrem]) (pc2 := 18) (L2 := [(9, 0), (9, 0), (9, 0), (9, 0), (1, v4), (8, 0), (1, v6), (8, 0), (9, 0), (9, 0)]) (S2 := [(1, u1)]) (h2 := h) (by decide +kernel) (by subst he; rfl) (by exact hg) ?_
      clear hg he
      refine Ev.blk (is := [.lstore 8, .lload 6, .lstore 4, .lload 8, .lstore 6]) (pc2 := 28) (L2 := [(9, 0), (9, 0), (9, 0), (9, 0), (1, v6), (8, 0), (1, u1), (8, 0), (1, u1), (8, 0)]) (S2 := []) (h2 := h) (by decide +kernel) rfl trivial ?_
      refine Ev.jp (i := .goto (-22)) (len := 3) (pc2 := 6) (by decide +kernel) rfl ?_
      refine Ev.wk (L2 := [(9, 0), (9, 0), (9, 0), (9, 0), (1, v6), (8, 0), (1, u1), (8, 0), (9, 0), (9, 0)]) (wkL_of ⟨Or.inl rfl, ⟨Or.inl rfl, ⟨Or.inl rfl, ⟨Or.inl rfl, ⟨Or.inl rfl, ⟨Or.inl rfl, ⟨Or.inl rfl, ⟨Or.inl rfl, ⟨Or.inr rfl, ⟨Or.inr rfl, trivial⟩⟩⟩⟩⟩⟩⟩⟩⟩⟩) ?_
      exact ih v6 u1 h _ hx
theorem x_R_common {sc : AS} {d : Nat} (hd : 1 ≤ d) {v0 : Int} {v2 : Int} {h : AH} {r : Int} (hx : R_common v0 v2 = some r) : Runs sc d 176 [(1, v0), (1, v2)] h (some (1, r)) h := by
  obtain ⟨d, rfl⟩ : ∃ e, d = e + 1 := ⟨d - 1, by omega⟩
  have hd : 0 ≤ d := by omega
  unfold R_common at hx
  refine ⟨⟨aM_176, rfl, Nat.le_of_ble_eq_true rfl⟩, ?_⟩
  show Ev sc d 176 0 [(1, v0), (8, 0), (1, v2), (8, 0), (9, 0), (9, 0), (9, 0), (9, 0), (9, 0), (9, 0)] [] h (some (1, r)) h
  refine Ev.blk (is := [.lload_n 0, .lstore 4, .lload_n 2, .lstore 6]) (pc2 := 6) (L2 := [(1, v0), (8, 0), (1, v2), (8, 0), (1, v0), (8, 0), (1, v2), (8, 0), (9, 0), (9, 0)]) (S2 := []) (h2 := h) (by decide +kernel) rfl trivial ?_
  refine Ev.wk (L2 := [(9, 0), (9, 0), (9, 0), (9, 0), (1, v0), (8, 0), (1, v2), (8, 0), (9, 0), (9, 0)]) (wkL_of ⟨Or.inr rfl, ⟨Or.inr rfl, ⟨Or.inr rfl, ⟨Or.inr rfl, ⟨Or.inl rfl, ⟨Or.inl rfl, ⟨Or.inl rfl, ⟨Or.inl rfl, ⟨Or.inl rfl, ⟨Or.inl rfl, trivial⟩⟩⟩⟩⟩⟩⟩⟩⟩⟩) ?_
  exact y_R_common_6 hd FU v0 v2 h _ hx
theorem y_R_isLittle_34 {sc : AS} {d : Nat} (hd : 1 ≤ d) : ∀ (v0 : Int) (v6 : Int) (h : AH) (r : Int), R_isLittle_34 v0 v6 = some r → Ev sc d 175 34 [(1, v0), (8, 0), (9, 0), (9, 0), (9, 0), (9, 0), (1, v6), (8, 0), (9, 0), (9, 0)] [] h (some (0, r)) h := by
  intro v0 v6 h r hx
  unfold R_isLittle_34 at hx
  obtain ⟨u1, hg, he, hx⟩ := bgd hx
  refine Ev.blk (is := [.lload_n 0, .lload 6, .lrem]) (pc2 := 38) (L2 := [(1, v0), (8, 0), (9, 0), (9, 0), (9, 0), (9, 0), (1, v6), (8, 0), (9, 0), (9, 0)]) (S2 := [(1, u1)]) (h2 := h) (by decide +kernel) (by subst he; rfl) (by exact hg) ?_
  clear hg he
  refine Ev.blk (is := [.lstore 8, .lload 8, .lconst 1, .lcmp]) (pc2 := 44) (L2 := [(1, v0), (8, 0), (9, 0), (9, 0), (9, 0), (9, 0), (1, v6), (8, 0), (1, u1), (8, 0)]) (S2 := [(0, cmpL u1 1)]) (h2 := h) (by decide +kernel) rfl trivial ?_
  obtain ⟨ha, hb⟩ := bite hx
  clear hx
  refine Ev.br (i := .ifCond .le 23) (len := 3) (a := 47) (b := 67) (by decide +kernel) rfl cmpL_gt (fun hc => ?_) (fun hc => ?_)
  · have hx := ha hc
    clear ha hb hc
    refine Ev.blk (is := [.lload 8, .lload_n 0, .lcmp]) (pc2 := 51) (L2 := [(1, v0), (8, 0), (9, 0), (9, 0), (9, 0), (9, 0), (1, v6), (8, 0), (1, u1), (8, 0)]) (S2 := [(0, cmpL u1 v0)]) (h2 := h) (by decide +kernel) rfl trivial ?_
    obtain ⟨ha, hb⟩ := bite hx
    clear hx
    refine Ev.br (i := .ifCond .ge 16) (len := 3) (a := 54) (b := 67) (by decide +kernel) rfl cmpL_lt (fun hc => ?_) (fun hc => ?_)
    · have hx := ha hc
      clear ha hb hc
      obtain ⟨u2, hg, he, hx⟩ := bgd hx
      refine Ev.blk (is := [.lload_n 0, .lload 8, .lrem]) (pc2 := 58) (L2 := [(1, v0), (8, 0), (9, 0), (9, 0), (9, 0), (9, 0), (1, v6), (8, 0), (1, u1), (8, 0)]) (S2 := [(1, u2)]) (h2 := h) (by decide +kernel) (by subst he; rfl) (by exact hg) ?_
      clear hg he
      refine Ev.blk (is := [.lconst 0, .lcmp]) (pc2 := 60) (L2 := [(1, v0), (8, 0), (9, 0), (9, 0), (9, 0), (9, 0), (1, v6), (8, 0), (1, u1), (8, 0)]) (S2 := [(0, cmpL u2 0)]) (h2 := h) (by decide +kernel) rfl trivial ?_
      obtain ⟨ha, hb⟩ := bite hx
      clear hx
      refine Ev.br (i := .ifCond .ne 7) (len := 3) (a := 63) (b := 67) (by decide +kernel) rfl cmpL_eq (fun hc => ?_) (fun hc => ?_)
      · have hx := ha hc
        clear ha hb hc
        refine Ev.blk (is := [.iconst 1]) (pc2 := 64) (L2 := [(1, v0), (8, 0), (9, 0), (9, 0), (9, 0), (9, 0), (1, v6), (8, 0), (1, u1), (8, 0)]) (S2 := [(0, 1)]) (h2 := h) (by decide +kernel) rfl trivial ?_
        refine Ev.jp (i := .goto 4) (len := 3) (pc2 := 68) (by decide +kernel) rfl ?_
        cases hx
        exact Ev.ret (i := .ireturn) (len := 1) (by decide +kernel) rfl (finOf (t := some .boolean) rfl (bz1))
      · have hx := hb hc
        clear ha hb hc
        refine Ev.blk (is := [.iconst 0]) (pc2 := 68) (L2 := [(1, v0), (8, 0), (9, 0), (9, 0), (9, 0), (9, 0), (1, v6), (8, 0), (1, u1), (8, 0)]) (S2 := [(0, 0)]) (h2 := h) (by decide +kernel) rfl trivial ?_
        cases hx
        exact Ev.ret (i := .ireturn) (len := 1) (by decide +kernel) rfl (finOf (t := some .boolean) rfl (bz0))
    · have hx := hb hc
      clear ha hb hc
      refine Ev.blk (is := [.iconst 0]) (pc2 := 68) (L2 := [(1, v0), (8, 0), (9, 0), (9, 0), (9, 0), (9, 0), (1, v6), (8, 0), (1, u1), (8, 0)]) (S2 := [(0, 0)]) (h2 := h) (by decide +kernel) rfl trivial ?_
      cases hx
      exact Ev.ret (i := .ireturn) (len := 1) (by decide +kernel) rfl (finOf (t := some .boolean) rfl (bz0))
  · have hx := hb hc
    clear ha hb hc
    refine Ev.blk (is := [.iconst 0]) (pc2 := 68) (L2 := [(1, v0), (8, 0), (9, 0), (9, 0), (9, 0), (9, 0), (1, v6), (8, 0), (1, u1), (8, 0)]) (S2 := [(0, 0)]) (h2 := h) (by decide +kernel) rfl trivial ?_
    cases hx
    exact Ev.ret (i := .ireturn) (len := 1) (by decide +kernel) rfl (finOf (t := some .boolean) rfl (bz0))
theorem x_R_isLittle {sc : AS} {d : Nat} (hd : 2 ≤ d) {v0 : Int} {v2 : Int} {v4 : Int} {h : AH} {r : Int} (hx : R_isLittle v0 v2 v4 = some r) : Runs sc d 175 [(1, v0), (1, v2), (1, v4)] h (some (0, r)) h := by
  obtain ⟨d, rfl⟩ : ∃ e, d = e + 1 := ⟨d - 1, by omega⟩
  have hd : 1 ≤ d := by omega
  unfold R_isLittle at hx
  refine ⟨⟨aM_175, rfl, Nat.le_of_ble_eq_true rfl⟩, ?_⟩
  show Ev sc d 175 0 [(1, v0), (8, 0), (1, v2), (8, 0), (1, v4), (8, 0), (9, 0), (9, 0), (9, 0), (9, 0)] [] h (some (0, r)) h
  refine Ev.blk (is := [.lload_n 2, .lload_n 2, .lload 4]) (pc2 := 4) (L2 := [(1, v0), (8, 0), (1, v2), (8, 0), (1, v4), (8, 0), (9, 0), (9, 0), (9, 0), (9, 0)]) (S2 := [(1, v4), (1, v2), (1, v2)]) (h2 := h) (by decide +kernel) rfl trivial ?_
  obtain ⟨u1, hc, hx⟩ := bca hx
  refine Ev.call (args := [(1, v2), (1, v4)]) (S2 := [(1, v2)]) (r1 := (some (1, u1))) (h1 := h) (i := .invokestatic 176) (by decide +kernel) rfl rfl (Nat.le_of_ble_eq_true rfl) (Or.inl rfl) (x_R_common (by omega) hc) ?_
  obtain ⟨u2, hg, he, hx⟩ := bgd hx
  refine Ev.blk (is := [.ldiv]) (pc2 := 8) (L2 := [(1, v0), (8, 0), (1, v2), (8, 0), (1, v4), (8, 0), (9, 0), (9, 0), (9, 0), (9, 0)]) (S2 := [(1, u2)]) (h2 := h) (by decide +kernel) (by subst he; rfl) (by exact hg) ?_
  clear hg he
  refine Ev.blk (is := [.lload 4, .lmul, .lstore 6, .lload 6, .jsr_w 40000, .lcmp]) (pc2 := 19) (L2 := [(1, v0), (8, 0), (1, v2), (8, 0), (1, v4), (8, 0), (1, w64 (u2 * v4)), (8, 0), (9, 0), (9, 0)]) (S2 := [(0, cmpL (w64 (u2 * v4)) 40000)]) (h2 := h) (by decide +kernel) rfl trivial ?_
  obtain ⟨ha, hb⟩ := bite hx
  clear hx
  refine Ev.br (i := .ifCond .gt 15) (len := 3) (a := 34) (b := 22) (by decide +kernel) rfl cmpL_gt (fun hc => ?_) (fun hc => ?_)
  · have hx := ha hc
    clear ha hb hc
    refine Ev.wk (L2 := [(1, v0), (8, 0), (9, 0), (9, 0), (9, 0), (9, 0), (1, w64 (u2 * v4)), (8, 0), (9, 0), (9, 0)]) (wkL_of ⟨Or.inl rfl, ⟨Or.inl rfl, ⟨Or.inr rfl, ⟨Or.inr rfl, ⟨Or.inr rfl, ⟨Or.inr rfl, ⟨Or.inl rfl, ⟨Or.inl rfl, ⟨Or.inl rfl, ⟨Or.inl rfl, trivial⟩⟩⟩⟩⟩⟩⟩⟩⟩⟩) ?_
    exact y_R_isLittle_34 hd v0 (w64 (u2 * v4)) h _ hx
  · have hx := hb hc
    clear ha hb hc
    refine Ev.blk (is := [.lload 6, .lload 6, .lmul, .lload_n 0, .lcmp]) (pc2 := 29) (L2 := [(1, v0), (8, 0), (1, v2), (8, 0), (1, v4), (8, 0), (1, w64 (u2 * v4)), (8, 0), (9, 0), (9, 0)]) (S2 := [(0, cmpL (w64 ((w64 (u2 * v4)) * (w64 (u2 * v4)))) v0)]) (h2 := h) (by decide +kernel) rfl trivial ?_
    obtain ⟨ha, hb⟩ := bite hx
    clear hx
    refine Ev.br (i := .ifCond .gt 5) (len := 3) (a := 34) (b := 32) (by decide +kernel) rfl cmpL_gt (fun hc => ?_) (fun hc => ?_)
    · have hx := ha hc
      clear ha hb hc
      refine Ev.wk (L2 := [(1, v0), (8, 0), (9, 0), (9, 0), (9, 0), (9, 0), (1, w64 (u2 * v4)), (8, 0), (9, 0), (9, 0)]) (wkL_of ⟨Or.inl rfl, ⟨Or.inl rfl, ⟨Or.inr rfl, ⟨Or.inr rfl, ⟨Or.inr rfl, ⟨Or.inr rfl, ⟨Or.inl rfl, ⟨Or.inl rfl, ⟨Or.inl rfl, ⟨Or.inl rfl, trivial⟩⟩⟩⟩⟩⟩⟩⟩⟩⟩) ?_
      exact y_R_isLittle_34 hd v0 (w64 (u2 * v4)) h _ hx
    · have hx := hb hc
      clear ha hb hc
      refine Ev.blk (is := [.iconst 1]) (pc2 := 33) (L2 := [(1, v0), (8, 0), (1, v2), (8, 0), (1, v4), (8, 0), (1, w64 (u2 * v4)), (8, 0), (9, 0), (9, 0)]) (S2 := [(0, 1)]) (h2 := h) (by decide +kernel) rfl trivial ?_
      cases hx
      exact Ev.ret (i := .ireturn) (len := 1) (by decide +kernel) rfl (finOf (t := some .boolean) rfl (bz1))
theorem x_R_isEnough {sc : AS} {d : Nat} (hd : 3 ≤ d) {v0 : Int} {v1 : Int} {h : AH} {r : Int} (hx : R_isEnough v0 v1 h = some r) : Runs sc d 174 [(2, v0), (0, v1)] h (some (0, r)) h := by
  obtain ⟨d, rfl⟩ : ∃ e, d = e + 1 := ⟨d - 1, by omega⟩
  have hd : 2 ≤ d := by omega
  unfold R_isEnough at hx
  refine ⟨⟨aM_174, rfl, Nat.le_of_ble_eq_true rfl⟩, ?_⟩
  show Ev sc d 174 0 [(2, v0), (0, v1), (9, 0), (9, 0)] [] h (some (0, r)) h
  refine Ev.blk (is := [.aload_n 0, .iload_n 1]) (pc2 := 2) (L2 := [(2, v0), (0, v1), (9, 0), (9, 0)]) (S2 := [(0, v1), (2, v0)]) (h2 := h) (by decide +kernel) rfl trivial ?_
  obtain ⟨_, hg, -, hx⟩ := bgd hx
  obtain ⟨u1, hc, hx⟩ := bca hx
  refine Ev.call (args := [(2, v0), (0, v1)]) (S2 := []) (r1 := (some (1, u1))) (h1 := h) (i := .invokevirtual 171) (by decide +kernel) rfl rfl (Nat.le_of_ble_eq_true rfl) (Or.inr (Or.inl ⟨rfl, hg, by decide +kernel⟩)) (x_R_below (by omega) hc) ?_
  obtain ⟨u2, hg, he, hx⟩ := bgd hx
  refine Ev.blk (is := [.lstore_n 2, .aload_n 0, .getfield 9209]) (pc2 := 10) (L2 := [(2, v0), (0, v1), (1, u1), (8, 0)]) (S2 := [(2, u2)]) (h2 := h) (by decide +kernel) (by subst he; rfl) (by exact hg) ?_
  clear hg he
  obtain ⟨u3, hg, he, hx⟩ := bgd hx
  refine Ev.blk (is := [.iload_n 1, .iaload]) (pc2 := 12) (L2 := [(2, v0), (0, v1), (1, u1), (8, 0)]) (S2 := [(0, u3)]) (h2 := h) (by decide +kernel) (by subst he; rfl) (by exact hg) ?_
  clear hg he
  refine Ev.blk (is := [.iconst 2]) (pc2 := 13) (L2 := [(2, v0), (0, v1), (1, u1), (8, 0)]) (S2 := [(0, 2), (0, u3)]) (h2 := h) (by decide +kernel) rfl trivial ?_
  obtain ⟨ha, hb⟩ := bite hx
  clear hx
  refine Ev.br (i := .if_icmp .ne 23) (len := 3) (a := 16) (b := 36) (by decide +kernel) rfl Iff.rfl (fun hc => ?_) (fun hc => ?_)
  · have hx := ha hc
    clear ha hb hc
    obtain ⟨u4, hg, he, hx⟩ := bgd hx
    refine Ev.blk (is := [.lload_n 2, .lload_n 2, .lmul, .aload_n 0, .getfield 9208]) (pc2 := 23) (L2 := [(2, v0), (0, v1), (1, u1), (8, 0)]) (S2 := [(2, u4), (1, w64 (u1 * u1))]) (h2 := h) (by decide +kernel) (by subst he; rfl) (by exact hg) ?_
    clear hg he
    obtain ⟨u5, hg, he, hx⟩ := bgd hx
    refine Ev.blk (is := [.iload_n 1, .iaload]) (pc2 := 25) (L2 := [(2, v0), (0, v1), (1, u1), (8, 0)]) (S2 := [(0, u5), (1, w64 (u1 * u1))]) (h2 := h) (by decide +kernel) (by subst he; rfl) (by exact hg) ?_
    clear hg he
    refine Ev.blk (is := [.i2l, .lcmp]) (pc2 := 27) (L2 := [(2, v0), (0, v1), (1, u1), (8, 0)]) (S2 := [(0, cmpL (w64 (u1 * u1)) u5)]) (h2 := h) (by decide +kernel) rfl trivial ?_
    obtain ⟨ha, hb⟩ := bite hx
    clear hx
    refine Ev.br (i := .ifCond .le 7) (len := 3) (a := 30) (b := 34) (by decide +kernel) rfl cmpL_gt (fun hc => ?_) (fun hc => ?_)
    · have hx := ha hc
      clear ha hb hc
      refine Ev.blk (is := [.iconst 1]) (pc2 := 31) (L2 := [(2, v0), (0, v1), (1, u1), (8, 0)]) (S2 := [(0, 1)]) (h2 := h) (by decide +kernel) rfl trivial ?_
      refine Ev.jp (i := .goto 4) (len := 3) (pc2 := 35) (by decide +kernel) rfl ?_
      cases hx
      exact Ev.ret (i := .ireturn) (len := 1) (by decide +kernel) rfl (finOf (t := some .boolean) rfl (bz1))
    · have hx := hb hc
      clear ha hb hc
      refine Ev.blk (is := [.iconst 0]) (pc2 := 35) (L2 := [(2, v0), (0, v1), (1, u1), (8, 0)]) (S2 := [(0, 0)]) (h2 := h) (by decide +kernel) rfl trivial ?_
      cases hx
      exact Ev.ret (i := .ireturn) (len := 1) (by decide +kernel) rfl (finOf (t := some .boolean) rfl (bz0))
  · have hx := hb hc
    clear ha hb hc
    obtain ⟨u6, hg, he, hx⟩ := bgd hx
    refine Ev.blk (is := [.aload_n 0, .getfield 9209]) (pc2 := 40) (L2 := [(2, v0), (0, v1), (1, u1), (8, 0)]) (S2 := [(2, u6)]) (h2 := h) (by decide +kernel) (by subst he; rfl) (by exact hg) ?_
    clear hg he
    obtain ⟨u7, hg, he, hx⟩ := bgd hx
    refine Ev.blk (is := [.iload_n 1, .iaload]) (pc2 := 42) (L2 := [(2, v0), (0, v1), (1, u1), (8, 0)]) (S2 := [(0, u7)]) (h2 := h) (by decide +kernel) (by subst he; rfl) (by exact hg) ?_
    clear hg he
    refine Ev.blk (is := [.iconst 4]) (pc2 := 43) (L2 := [(2, v0), (0, v1), (1, u1), (8, 0)]) (S2 := [(0, 4), (0, u7)]) (h2 := h) (by decide +kernel) rfl trivial ?_
    obtain ⟨ha, hb⟩ := bite hx
    clear hx
    refine Ev.br (i := .if_icmp .ne 22) (len := 3) (a := 46) (b := 65) (by decide +kernel) rfl Iff.rfl (fun hc => ?_) (fun hc => ?_)
    · have hx := ha hc
      clear ha hb hc
      obtain ⟨u8, hg, he, hx⟩ := bgd hx
      refine Ev.blk (is := [.aload_n 0, .getfield 9208]) (pc2 := 50) (L2 := [(2, v0), (0, v1), (1, u1), (8, 0)]) (S2 := [(2, u8)]) (h2 := h) (by decide +kernel) (by subst he; rfl) (by exact hg) ?_
      clear hg he
      obtain ⟨u9, hg, he, hx⟩ := bgd hx
      refine Ev.blk (is := [.iload_n 1, .iaload]) (pc2 := 52) (L2 := [(2, v0), (0, v1), (1, u1), (8, 0)]) (S2 := [(0, u9)]) (h2 := h) (by decide +kernel) (by subst he; rfl) (by exact hg) ?_
      clear hg he
      refine Ev.blk (is := [.i2l, .lload_n 2, .aload_n 0, .iload_n 1]) (pc2 := 56) (L2 := [(2, v0), (0, v1), (1, u1), (8, 0)]) (S2 := [(0, v1), (2, v0), (1, u1), (1, u9)]) (h2 := h) (by decide +kernel) rfl trivial ?_
      obtain ⟨_, hg, -, hx⟩ := bgd hx
      obtain ⟨u10, hc, hx⟩ := bca hx
      refine Ev.call (args := [(2, v0), (0, v1)]) (S2 := [(1, u1), (1, u9)]) (r1 := (some (1, u10))) (h1 := h) (i := .invokevirtual 173) (by decide +kernel) rfl rfl (Nat.le_of_ble_eq_true rfl) (Or.inr (Or.inl ⟨rfl, hg, by decide +kernel⟩)) (x_R_above (by omega) hc) ?_
      obtain ⟨u11, hc, hx⟩ := bca hx
      refine Ev.call (args := [(1, u9), (1, u1), (1, u10)]) (S2 := []) (r1 := (some (0, u11))) (h1 := h) (i := .invokestatic 175) (by decide +kernel) rfl rfl (Nat.le_of_ble_eq_true rfl) (Or.inl rfl) (x_R_isLittle (by omega) hc) ?_
      obtain ⟨ha, hb⟩ := bite hx
      clear hx
      refine Ev.br (i := .ifCond .ne 7) (len := 3) (a := 65) (b := 69) (by decide +kernel) rfl Iff.rfl (fun hc => ?_) (fun hc => ?_)
      · have hx := ha hc
        clear ha hb hc
        refine Ev.blk (is := [.iconst 1]) (pc2 := 66) (L2 := [(2, v0), (0, v1), (1, u1), (8, 0)]) (S2 := [(0, 1)]) (h2 := h) (by decide +kernel) rfl trivial ?_
        refine Ev.jp (i := .goto 4) (len := 3) (pc2 := 70) (by decide +kernel) rfl ?_
        cases hx
        exact Ev.ret (i := .ireturn) (len := 1) (by decide +kernel) rfl (finOf (t := some .boolean) rfl (bz1))
      · have hx := hb hc
        clear ha hb hc
        refine Ev.blk (is := [.iconst 0]) (pc2 := 70) (L2 := [(2, v0), (0, v1), (1, u1), (8, 0)]) (S2 := [(0, 0)]) (h2 := h) (by decide +kernel) rfl trivial ?_
        cases hx
        exact Ev.ret (i := .ireturn) (len := 1) (by decide +kernel) rfl (finOf (t := some .boolean) rfl (bz0))
    · have hx := hb hc
      clear ha hb hc
      refine Ev.blk (is := [.iconst 1]) (pc2 := 66) (L2 := [(2, v0), (0, v1), (1, u1), (8, 0)]) (S2 := [(0, 1)]) (h2 := h) (by decide +kernel) rfl trivial ?_
      refine Ev.jp (i := .goto 4) (len := 3) (pc2 := 70) (by decide +kernel) rfl ?_
      cases hx
      exact Ev.ret (i := .ireturn) (len := 1) (by decide +kernel) rfl (finOf (t := some .boolean) rfl (bz1))
theorem y_R_powerOf_15 {sc : AS} {d : Nat} (hd : 0 ≤ d) : ∀ (fu : Nat) (v4 : Int) (v6 : Int) (v8 : Int) (v10 : Int) (h : AH) (r : Int), R_powerOf_15 fu v4 v6 v8 v10 = some r → Ev sc d 178 15 [(9, 0), (9, 0), (9, 0), (9, 0), (1, v4), (8, 0), (1, v6), (8, 0), (1, v8), (8, 0), (1, v10), (8, 0)] [] h (some (1, r)) h := by
  intro fu
  induction fu with
  | zero => intro v4 v6 v8 v10 h r hx; unfold R_powerOf_15 at hx; cases hx
  | succ fu ih =>
    intro v4 v6 v8 v10 h r hx
    unfold R_powerOf_15 at hx
    refine Ev.blk (is := [.lload 10, .lconst 0, .lcmp]) (pc2 := 19) (L2 := [(9, 0), (9, 0), (9, 0), (9, 0), (1, v4), (8, 0), (1, v6), (8, 0), (1, v8), (8, 0), (1, v10), (8, 0)]) (S2 := [(0, cmpL v10 0)]) (h2 := h) (by decide +kernel) rfl trivial ?_
    obtain ⟨ha, hb⟩ := bite hx
    clear hx
    refine Ev.br (i := .ifCond .le 41) (len := 3) (a := 22) (b := 60) (by decide +kernel) rfl cmpL_gt (fun hc => ?_) (fun hc => ?_)
    · have hx := ha hc
      clear ha hb hc
      refine Ev.blk (is := [.lload 10, .lconst 1, .land, .lconst 1, .lcmp]) (pc2 := 28) (L2 := [(9, 0), (9, 0), (9, 0), (9, 0), (1, v4), (8, 0), (1, v6), (8, 0), (1, v8), (8, 0), (1, v10), (8, 0)]) (S2 := [(0, cmpL (andL v10 1) 1)]) (h2 := h) (by decide +kernel) rfl trivial ?_
      obtain ⟨ha, hb⟩ := bite hx
      clear hx
      refine Ev.br (i := .ifCond .ne 13) (len := 3) (a := 31) (b := 41) (by decide +kernel) rfl cmpL_eq (fun hc => ?_) (fun hc => ?_)
      · have hx := ha hc
        clear ha hb hc
        obtain ⟨u1, hg, he, hx⟩ := bgd hx
        refine Ev.blk (is := [.lload 8, .lload 6, .lmul, .lload 4, .lrem]) (pc2 := 39) (L2 := [(9, 0), (9, 0), (9, 0), (9, 0), (1, v4), (8, 0), (1, v6), (8, 0), (1, v8), (8, 0), (1, v10), (8, 0)]) (S2 := [(1, u1)]) (h2 := h) (by decide +kernel) (by subst he; rfl) (by exact hg) ?_
        clear hg he
        obtain ⟨u2, hg, he, hx⟩ := bgd hx
        refine Ev.blk (is := [.lstore 8, .lload 6, .lload 6, .lmul, .lload 4, .lrem]) (pc2 := 49) (L2 := [(9, 0), (9, 0), (9, 0), (9, 0), (1, v4), (8, 0), (1, v6), (8, 0), (1, u1), (8, 0), (1, v10), (8, 0)]) (S2 := [(1, u2)]) (h2 := h) (by decide +kernel) (by subst he; rfl) (by exact hg) ?_
        clear hg he
        refine Ev.blk (is := [.lstore 6, .lload 10, .iconst 1, .lshr, .lstore 10]) (pc2 := 57) (L2 := [(9, 0), (9, 0), (9, 0), (9, 0), (1, v4), (8, 0), (1, u2), (8, 0), (1, u1), (8, 0), (1, shrL v10 1), (8, 0)]) (S2 := []) (h2 := h) (by decide +kernel) rfl trivial ?_
        refine Ev.jp (i := .goto (-42)) (len := 3) (pc2 := 15) (by decide +kernel) rfl ?_
        exact ih v4 u2 u1 (shrL v10 1) h _ hx
      · have hx := hb hc
        clear ha hb hc
        obtain ⟨u3, hg, he, hx⟩ := bgd hx
        refine Ev.blk (is := [.lload 6, .lload 6, .lmul, .lload 4, .lrem]) (pc2 := 49) (L2 := [(9, 0), (9, 0), (9, 0), (9, 0), (1, v4), (8, 0), (1, v6), (8, 0), (1, v8), (8, 0), (1, v10), (8, 0)]) (S2 := [(1, u3)]) (h2 := h) (by decide +kernel) (by subst he; rfl) (by exact hg) ?_
        clear hg he
        refine Ev.blk (is := [.lstore 6, .lload 10, .iconst 1, .lshr, .lstore 10]) (pc2 := 57) (L2 := [(9, 0), (9, 0), (9, 0), (9, 0), (1, v4), (8, 0), (1, u3), (8, 0), (1, v8), (8, 0), (1, shrL v10 1), (8, 0)]) (S2 := []) (h2 := h) (by decide +kernel) rfl trivial ?_
        refine Ev.jp (i := .goto (-42)) (len := 3) (pc2 := 15) (by decide +kernel) rfl ?_
        exact ih v4 u3 v8 (shrL v10 1) h _ hx
    · have hx := hb hc
      clear ha hb hc
      refine Ev.blk (is := [.lload 8]) (pc2 := 62) (L2 := [(9, 0), (9, 0), (9, 0), (9, 0), (1, v4), (8, 0), (1, v6), (8, 0), (1, v8), (8, 0), (1, v10), (8, 0)]) (S2 := [(1, v8)]) (h2 := h) (by decide +kernel) rfl trivial ?_
      cases hx
      exact Ev.ret (i := .lreturn) (len := 1) (by decide +kernel) rfl (finOf (t := some .long) rfl (trivial))
theorem x_R_powerOf {sc : AS} {d : Nat} (hd : 1 ≤ d) {v0 : Int} {v2 : Int} {v4 : Int} {h : AH} {r : Int} (hx : R_powerOf v0 v2 v4 = some r) : Runs sc d 178 [(1, v0), (1, v2), (1, v4)] h (some (1, r)) h := by
  obtain ⟨d, rfl⟩ : ∃ e, d = e + 1 := ⟨d - 1, by omega⟩
  have hd : 0 ≤ d := by omega
  unfold R_powerOf at hx
  refine ⟨⟨aM_178, rfl, Nat.le_of_ble_eq_true rfl⟩, ?_⟩
  show Ev sc d 178 0 [(1, v0), (8, 0), (1, v2), (8, 0), (1, v4), (8, 0), (9, 0), (9, 0), (9, 0), (9, 0), (9, 0), (9, 0)] [] h (some (1, r)) h
  obtain ⟨u1, hg, he, hx⟩ := bgd hx
  refine Ev.blk (is := [.lload_n 0, .lload 4, .lrem]) (pc2 := 4) (L2 := [(1, v0), (8, 0), (1, v2), (8, 0), (1, v4), (8, 0), (9, 0), (9, 0), (9, 0), (9, 0), (9, 0), (9, 0)]) (S2 := [(1, u1)]) (h2 := h) (by decide +kernel) (by subst he; rfl) (by exact hg) ?_
  clear hg he
  obtain ⟨u2, hg, he, hx⟩ := bgd hx
  refine Ev.blk (is := [.lstore 6, .lconst 1, .lload 4, .lrem]) (pc2 := 10) (L2 := [(1, v0), (8, 0), (1, v2), (8, 0), (1, v4), (8, 0), (1, u1), (8, 0), (9, 0), (9, 0), (9, 0), (9, 0)]) (S2 := [(1, u2)]) (h2 := h) (by decide +kernel) (by subst he; rfl) (by exact hg) ?_
  clear hg he
  refine Ev.blk (is := [.lstore 8, .lload_n 2, .lstore 10]) (pc2 := 15) (L2 := [(1, v0), (8, 0), (1, v2), (8, 0), (1, v4), (8, 0), (1, u1), (8, 0), (1, u2), (8, 0), (1, v2), (8, 0)]) (S2 := []) (h2 := h) (by decide +kernel) rfl trivial ?_
  refine Ev.wk (L2 := [(9, 0), (9, 0), (9, 0), (9, 0), (1, v4), (8, 0), (1, u1), (8, 0), (1, u2), (8, 0), (1, v2), (8, 0)]) (wkL_of ⟨Or.inr rfl, ⟨Or.inr rfl, ⟨Or.inr rfl, ⟨Or.inr rfl, ⟨Or.inl rfl, ⟨Or.inl rfl, ⟨Or.inl rfl, ⟨Or.inl rfl, ⟨Or.inl rfl, ⟨Or.inl rfl, ⟨Or.inl rfl, ⟨Or.inl rfl, trivial⟩⟩⟩⟩⟩⟩⟩⟩⟩⟩⟩⟩) ?_
  exact y_R_powerOf_15 hd FU v4 u1 u2 v2 h _ hx
theorem x_R_isOneBy {sc : AS} {d : Nat} (hd : 2 ≤ d) {v0 : Int} {v2 : Int} {h : AH} {r : Int} (hx : R_isOneBy v0 v2 = some r) : Runs sc d 177 [(1, v0), (1, v2)] h (some (0, r)) h := by
  obtain ⟨d, rfl⟩ : ∃ e, d = e + 1 := ⟨d - 1, by omega⟩
  have hd : 1 ≤ d := by omega
  unfold R_isOneBy at hx
  refine ⟨⟨aM_177, rfl, Nat.le_of_ble_eq_true rfl⟩, ?_⟩
  show Ev sc d 177 0 [(1, v0), (8, 0), (1, v2), (8, 0)] [] h (some (0, r)) h
  refine Ev.blk (is := [.lload_n 2, .lload_n 0, .lconst 1, .lsub, .lload_n 0]) (pc2 := 5) (L2 := [(1, v0), (8, 0), (1, v2), (8, 0)]) (S2 := [(1, v0), (1, w64 (v0 - 1)), (1, v2)]) (h2 := h) (by decide +kernel) rfl trivial ?_
  obtain ⟨u1, hc, hx⟩ := bca hx
  refine Ev.call (args := [(1, v2), (1, w64 (v0 - 1)), (1, v0)]) (S2 := []) (r1 := (some (1, u1))) (h1 := h) (i := .invokestatic 178) (by decide +kernel) rfl rfl (Nat.le_of_ble_eq_true rfl) (Or.inl rfl) (x_R_powerOf (by omega) hc) ?_
  refine Ev.blk (is := [.lconst 1, .lcmp]) (pc2 := 10) (L2 := [(1, v0), (8, 0), (1, v2), (8, 0)]) (S2 := [(0, cmpL u1 1)]) (h2 := h) (by decide +kernel) rfl trivial ?_
  obtain ⟨ha, hb⟩ := bite hx
  clear hx
  refine Ev.br (i := .ifCond .ne 7) (len := 3) (a := 13) (b := 17) (by decide +kernel) rfl cmpL_eq (fun hc => ?_) (fun hc => ?_)
  · have hx := ha hc
    clear ha hb hc
    refine Ev.blk (is := [.iconst 1]) (pc2 := 14) (L2 := [(1, v0), (8, 0), (1, v2), (8, 0)]) (S2 := [(0, 1)]) (h2 := h) (by decide +kernel) rfl trivial ?_
    refine Ev.jp (i := .goto 4) (len := 3) (pc2 := 18) (by decide +kernel) rfl ?_
    cases hx
    exact Ev.ret (i := .ireturn) (len := 1) (by decide +kernel) rfl (finOf (t := some .boolean) rfl (bz1))
  · have hx := hb hc
    clear ha hb hc
    refine Ev.blk (is := [.iconst 0]) (pc2 := 18) (L2 := [(1, v0), (8, 0), (1, v2), (8, 0)]) (S2 := [(0, 0)]) (h2 := h) (by decide +kernel) rfl trivial ?_
    cases hx
    exact Ev.ret (i := .ireturn) (len := 1) (by decide +kernel) rfl (finOf (t := some .boolean) rfl (bz0))
theorem y_R_isApartBy_31 {sc : AS} {d : Nat} (hd : 1 ≤ d) : ∀ (v0 : Int) (s0 : Int) (h : AH) (r : Int), R_isApartBy_31 v0 s0 = some r → Ev sc d 179 31 [(1, v0), (8, 0), (9, 0), (9, 0), (9, 0), (9, 0), (9, 0), (9, 0)] [(1, s0)] h (some (0, r)) h := by
  intro v0 s0 h r hx
  unfold R_isApartBy_31 at hx
  refine Ev.blk (is := [.lload_n 0]) (pc2 := 32) (L2 := [(1, v0), (8, 0), (9, 0), (9, 0), (9, 0), (9, 0), (9, 0), (9, 0)]) (S2 := [(1, v0), (1, s0)]) (h2 := h) (by decide +kernel) rfl trivial ?_
  obtain ⟨u1, hc, hx⟩ := bca hx
  refine Ev.call (args := [(1, s0), (1, v0)]) (S2 := []) (r1 := (some (1, u1))) (h1 := h) (i := .invokestatic 176) (by decide +kernel) rfl rfl (Nat.le_of_ble_eq_true rfl) (Or.inl rfl) (x_R_common (by omega) hc) ?_
  refine Ev.blk (is := [.lconst 1, .lcmp]) (pc2 := 37) (L2 := [(1, v0), (8, 0), (9, 0), (9, 0), (9, 0), (9, 0), (9, 0), (9, 0)]) (S2 := [(0, cmpL u1 1)]) (h2 := h) (by decide +kernel) rfl trivial ?_
  obtain ⟨ha, hb⟩ := bite hx
  clear hx
  refine Ev.br (i := .ifCond .ne 7) (len := 3) (a := 40) (b := 44) (by decide +kernel) rfl cmpL_eq (fun hc => ?_) (fun hc => ?_)
  · have hx := ha hc
    clear ha hb hc
    refine Ev.blk (is := [.iconst 1]) (pc2 := 41) (L2 := [(1, v0), (8, 0), (9, 0), (9, 0), (9, 0), (9, 0), (9, 0), (9, 0)]) (S2 := [(0, 1)]) (h2 := h) (by decide +kernel) rfl trivial ?_
    refine Ev.jp (i := .goto 4) (len := 3) (pc2 := 45) (by decide +kernel) rfl ?_
    cases hx
    exact Ev.ret (i := .ireturn) (len := 1) (by decide +kernel) rfl (finOf (t := some .boolean) rfl (bz1))
  · have hx := hb hc
    clear ha hb hc
    refine Ev.blk (is := [.iconst 0]) (pc2 := 45) (L2 := [(1, v0), (8, 0), (9, 0), (9, 0), (9, 0), (9, 0), (9, 0), (9, 0)]) (S2 := [(0, 0)]) (h2 := h) (by decide +kernel) rfl trivial ?_
    cases hx
    exact Ev.ret (i := .ireturn) (len := 1) (by decide +kernel) rfl (finOf (t := some .boolean) rfl (bz0))
theorem x_R_isApartBy {sc : AS} {d : Nat} (hd : 2 ≤ d) {v0 : Int} {v2 : Int} {v4 : Int} {h : AH} {r : Int} (hx : R_isApartBy v0 v2 v4 = some r) : Runs sc d 179 [(1, v0), (1, v2), (1, v4)] h (some (0, r)) h := by
  obtain ⟨d, rfl⟩ : ∃ e, d = e + 1 := ⟨d - 1, by omega⟩
  have hd : 1 ≤ d := by omega
  unfold R_isApartBy at hx
  refine ⟨⟨aM_179, rfl, Nat.le_of_ble_eq_true rfl⟩, ?_⟩
  show Ev sc d 179 0 [(1, v0), (8, 0), (1, v2), (8, 0), (1, v4), (8, 0), (9, 0), (9, 0)] [] h (some (0, r)) h
  obtain ⟨u1, hg, he, hx⟩ := bgd hx
  refine Ev.blk (is := [.lload_n 2, .lload_n 0, .lconst 1, .lsub, .lload 4, .ldiv]) (pc2 := 7) (L2 := [(1, v0), (8, 0), (1, v2), (8, 0), (1, v4), (8, 0), (9, 0), (9, 0)]) (S2 := [(1, u1), (1, v2)]) (h2 := h) (by decide +kernel) (by subst he; rfl) (by exact hg) ?_
  clear hg he
  refine Ev.blk (is := [.lload_n 0]) (pc2 := 8) (L2 := [(1, v0), (8, 0), (1, v2), (8, 0), (1, v4), (8, 0), (9, 0), (9, 0)]) (S2 := [(1, v0), (1, u1), (1, v2)]) (h2 := h) (by decide +kernel) rfl trivial ?_
  obtain ⟨u2, hc, hx⟩ := bca hx
  refine Ev.call (args := [(1, v2), (1, u1), (1, v0)]) (S2 := []) (r1 := (some (1, u2))) (h1 := h) (i := .invokestatic 178) (by decide +kernel) rfl rfl (Nat.le_of_ble_eq_true rfl) (Or.inl rfl) (x_R_powerOf (by omega) hc) ?_
  refine Ev.blk (is := [.lconst 1, .lsub, .lstore 6, .lload 6, .lconst 0, .lcmp]) (pc2 := 19) (L2 := [(1, v0), (8, 0), (1, v2), (8, 0), (1, v4), (8, 0), (1, w64 (u2 - 1)), (8, 0)]) (S2 := [(0, cmpL (w64 (u2 - 1)) 0)]) (h2 := h) (by decide +kernel) rfl trivial ?_
  obtain ⟨ha, hb⟩ := bite hx
  clear hx
  refine Ev.br (i := .ifCond .ge 10) (len := 3) (a := 22) (b := 29) (by decide +kernel) rfl cmpL_lt (fun hc => ?_) (fun hc => ?_)
  · have hx := ha hc
    clear ha hb hc
    refine Ev.blk (is := [.lload 6, .lload_n 0, .ladd]) (pc2 := 26) (L2 := [(1, v0), (8, 0), (1, v2), (8, 0), (1, v4), (8, 0), (1, w64 (u2 - 1)), (8, 0)]) (S2 := [(1, w64 ((w64 (u2 - 1)) + v0))]) (h2 := h) (by decide +kernel) rfl trivial ?_
    refine Ev.jp (i := .goto 5) (len := 3) (pc2 := 31) (by decide +kernel) rfl ?_
    refine Ev.wk (L2 := [(1, v0), (8, 0), (9, 0), (9, 0), (9, 0), (9, 0), (9, 0), (9, 0)]) (wkL_of ⟨Or.inl rfl, ⟨Or.inl rfl, ⟨Or.inr rfl, ⟨Or.inr rfl, ⟨Or.inr rfl, ⟨Or.inr rfl, ⟨Or.inr rfl, ⟨Or.inr rfl, trivial⟩⟩⟩⟩⟩⟩⟩⟩) ?_
    exact y_R_isApartBy_31 hd v0 (w64 ((w64 (u2 - 1)) + v0)) h _ hx
  · have hx := hb hc
    clear ha hb hc
    refine Ev.blk (is := [.lload 6]) (pc2 := 31) (L2 := [(1, v0), (8, 0), (1, v2), (8, 0), (1, v4), (8, 0), (1, w64 (u2 - 1)), (8, 0)]) (S2 := [(1, w64 (u2 - 1))]) (h2 := h) (by decide +kernel) rfl trivial ?_
    refine Ev.wk (L2 := [(1, v0), (8, 0), (9, 0), (9, 0), (9, 0), (9, 0), (9, 0), (9, 0)]) (wkL_of ⟨Or.inl rfl, ⟨Or.inl rfl, ⟨Or.inr rfl, ⟨Or.inr rfl, ⟨Or.inr rfl, ⟨Or.inr rfl, ⟨Or.inr rfl, ⟨Or.inr rfl, trivial⟩⟩⟩⟩⟩⟩⟩⟩) ?_
    exact y_R_isApartBy_31 hd v0 (w64 (u2 - 1)) h _ hx
theorem x_R_hasPair {sc : AS} {d : Nat} (hd : 1 ≤ d) {v0 : Int} {h : AH} {r : Int} (hx : R_hasPair v0 = some r) : Runs sc d 180 [(0, v0)] h (some (0, r)) h := by
  obtain ⟨d, rfl⟩ : ∃ e, d = e + 1 := ⟨d - 1, by omega⟩
  have hd : 0 ≤ d := by omega
  unfold R_hasPair at hx
  refine ⟨⟨aM_180, rfl, Nat.le_of_ble_eq_true rfl⟩, ?_⟩
  show Ev sc d 180 0 [(0, v0)] [] h (some (0, r)) h
  refine Ev.blk (is := [.iload_n 0, .iconst 3]) (pc2 := 2) (L2 := [(0, v0)]) (S2 := [(0, 3), (0, v0)]) (h2 := h) (by decide +kernel) rfl trivial ?_
  obtain ⟨ha, hb⟩ := bite hx
  clear hx
  refine Ev.br (i := .if_icmp .eq 8) (len := 3) (a := 10) (b := 5) (by decide +kernel) rfl Iff.rfl (fun hc => ?_) (fun hc => ?_)
  · have hx := ha hc
    clear ha hb hc
    refine Ev.blk (is := [.iconst 1]) (pc2 := 11) (L2 := [(0, v0)]) (S2 := [(0, 1)]) (h2 := h) (by decide +kernel) rfl trivial ?_
    refine Ev.jp (i := .goto 4) (len := 3) (pc2 := 15) (by decide +kernel) rfl ?_
    cases hx
    exact Ev.ret (i := .ireturn) (len := 1) (by decide +kernel) rfl (finOf (t := some .boolean) rfl (bz1))
  · have hx := hb hc
    clear ha hb hc
    refine Ev.blk (is := [.iload_n 0, .iconst 4]) (pc2 := 7) (L2 := [(0, v0)]) (S2 := [(0, 4), (0, v0)]) (h2 := h) (by decide +kernel) rfl trivial ?_
    obtain ⟨ha, hb⟩ := bite hx
    clear hx
    refine Ev.br (i := .if_icmp .ne 7) (len := 3) (a := 10) (b := 14) (by decide +kernel) rfl Iff.rfl (fun hc => ?_) (fun hc => ?_)
    · have hx := ha hc
      clear ha hb hc
      refine Ev.blk (is := [.iconst 1]) (pc2 := 11) (L2 := [(0, v0)]) (S2 := [(0, 1)]) (h2 := h) (by decide +kernel) rfl trivial ?_
      refine Ev.jp (i := .goto 4) (len := 3) (pc2 := 15) (by decide +kernel) rfl ?_
      cases hx
      exact Ev.ret (i := .ireturn) (len := 1) (by decide +kernel) rfl (finOf (t := some .boolean) rfl (bz1))
    · have hx := hb hc
      clear ha hb hc
      refine Ev.blk (is := [.iconst 0]) (pc2 := 15) (L2 := [(0, v0)]) (S2 := [(0, 0)]) (h2 := h) (by decide +kernel) rfl trivial ?_
      cases hx
      exact Ev.ret (i := .ireturn) (len := 1) (by decide +kernel) rfl (finOf (t := some .boolean) rfl (bz0))
theorem y_R_signOf_33 {sc : AS} {d : Nat} (hd : 0 ≤ d) {k26 : Int → Int → Int → Option Int} (hk26 : ∀ (v4 : Int) (v6 : Int) (v8 : Int) (h : AH) (r : Int), k26 v4 v6 v8 = some r → Ev sc d 182 26 [(9, 0), (9, 0), (9, 0), (9, 0), (1, v4), (8, 0), (1, v6), (8, 0), (0, v8), (9, 0), (9, 0)] [] h (some (0, r)) h) : ∀ (fu : Nat) (v4 : Int) (v6 : Int) (v8 : Int) (h : AH) (r : Int), R_signOf_33 k26 fu v4 v6 v8 = some r → Ev sc d 182 33 [(9, 0), (9, 0), (9, 0), (9, 0), (1, v4), (8, 0), (1, v6), (8, 0), (0, v8), (9, 0), (9, 0)] [] h (some (0, r)) h := by
  intro fu
  induction fu with
  | zero => intro v4 v6 v8 h r hx; unfold R_signOf_33 at hx; cases hx
  | succ fu ih =>
    intro v4 v6 v8 h r hx
    unfold R_signOf_33 at hx
    obtain ⟨u1, hg, he, hx⟩ := bgd hx
    refine Ev.blk (is := [.lload 6, .jsr_w 2, .lrem]) (pc2 := 39) (L2 := [(9, 0), (9, 0), (9, 0), (9, 0), (1, v4), (8, 0), (1, v6), (8, 0), (0, v8), (9, 0), (9, 0)]) (S2 := [(1, u1)]) (h2 := h) (by decide +kernel) (by subst he; rfl) (by exact hg) ?_
    clear hg he
    refine Ev.blk (is := [.lconst 0, .lcmp]) (pc2 := 41) (L2 := [(9, 0), (9, 0), (9, 0), (9, 0), (1, v4), (8, 0), (1, v6), (8, 0), (0, v8), (9, 0), (9, 0)]) (S2 := [(0, cmpL u1 0)]) (h2 := h) (by decide +kernel) rfl trivial ?_
    obtain ⟨ha, hb⟩ := bite hx
    clear hx
    refine Ev.br (i := .ifCond .ne 45) (len := 3) (a := 44) (b := 86) (by decide +kernel) rfl cmpL_eq (fun hc => ?_) (fun hc => ?_)
    · have hx := ha hc
      clear ha hb hc
      obtain ⟨u2, hg, he, hx⟩ := bgd hx
      refine Ev.blk (is := [.lload 6, .jsr_w 2, .ldiv]) (pc2 := 50) (L2 := [(9, 0), (9, 0), (9, 0), (9, 0), (1, v4), (8, 0), (1, v6), (8, 0), (0, v8), (9, 0), (9, 0)]) (S2 := [(1, u2)]) (h2 := h) (by decide +kernel) (by subst he; rfl) (by exact hg) ?_
      clear hg he
      obtain ⟨u3, hg, he, hx⟩ := bgd hx
      refine Ev.blk (is := [.lstore 6, .lload 4, .jsr_w 8, .lrem]) (pc2 := 58) (L2 := [(9, 0), (9, 0), (9, 0), (9, 0), (1, v4), (8, 0), (1, u2), (8, 0), (0, v8), (9, 0), (9, 0)]) (S2 := [(1, u3)]) (h2 := h) (by decide +kernel) (by subst he; rfl) (by exact hg) ?_
      clear hg he
      refine Ev.blk (is := [.jsr_w 3, .lcmp]) (pc2 := 62) (L2 := [(9, 0), (9, 0), (9, 0), (9, 0), (1, v4), (8, 0), (1, u2), (8, 0), (0, v8), (9, 0), (9, 0)]) (S2 := [(0, cmpL u3 3)]) (h2 := h) (by decide +kernel) rfl trivial ?_
      obtain ⟨ha, hb⟩ := bite hx
      clear hx
      refine Ev.br (i := .ifCond .eq 16) (len := 3) (a := 78) (b := 65) (by decide +kernel) rfl cmpL_eq (fun hc => ?_) (fun hc => ?_)
      · have hx := ha hc
        clear ha hb hc
        refine Ev.blk (is := [.iload 8, .ineg, .istore 8]) (pc2 := 83) (L2 := [(9, 0), (9, 0), (9, 0), (9, 0), (1, v4), (8, 0), (1, u2), (8, 0), (0, w32 (-v8)), (9, 0), (9, 0)]) (S2 := []) (h2 := h) (by decide +kernel) rfl trivial ?_
        refine Ev.jp (i := .goto (-50)) (len := 3) (pc2 := 33) (by decide +kernel) rfl ?_
        exact ih v4 u2 (w32 (-v8)) h _ hx
      · have hx := hb hc
        clear ha hb hc
        obtain ⟨u4, hg, he, hx⟩ := bgd hx
        refine Ev.blk (is := [.lload 4, .jsr_w 8, .lrem]) (pc2 := 71) (L2 := [(9, 0), (9, 0), (9, 0), (9, 0), (1, v4), (8, 0), (1, u2), (8, 0), (0, v8), (9, 0), (9, 0)]) (S2 := [(1, u4)]) (h2 := h) (by decide +kernel) (by subst he; rfl) (by exact hg) ?_
        clear hg he
        refine Ev.blk (is := [.jsr_w 5, .lcmp]) (pc2 := 75) (L2 := [(9, 0), (9, 0), (9, 0), (9, 0), (1, v4), (8, 0), (1, u2), (8, 0), (0, v8), (9, 0), (9, 0)]) (S2 := [(0, cmpL u4 5)]) (h2 := h) (by decide +kernel) rfl trivial ?_
        obtain ⟨ha, hb⟩ := bite hx
        clear hx
        refine Ev.br (i := .ifCond .ne (-42)) (len := 3) (a := 78) (b := 33) (by decide +kernel) rfl cmpL_eq (fun hc => ?_) (fun hc => ?_)
        · have hx := ha hc
          clear ha hb hc
          refine Ev.blk (is := [.iload 8, .ineg, .istore 8]) (pc2 := 83) (L2 := [(9, 0), (9, 0), (9, 0), (9, 0), (1, v4), (8, 0), (1, u2), (8, 0), (0, w32 (-v8)), (9, 0), (9, 0)]) (S2 := []) (h2 := h) (by decide +kernel) rfl trivial ?_
          refine Ev.jp (i := .goto (-50)) (len := 3) (pc2 := 33) (by decide +kernel) rfl ?_
          exact ih v4 u2 (w32 (-v8)) h _ hx
        · have hx := hb hc
          clear ha hb hc
          exact ih v4 u2 v8 h _ hx
    · have hx := hb hc
      clear ha hb hc
      obtain ⟨u5, hg, he, hx⟩ := bgd hx
      refine Ev.blk (is := [.lload 6, .lstore 9, .lload 4, .lstore 6, .lload 9, .lstore 4, .lload 6, .jsr_w 4, .lrem]) (pc2 := 104) (L2 := [(9, 0), (9, 0), (9, 0), (9, 0), (1, v6), (8, 0), (1, v4), (8, 0), (0, v8), (1, v6), (8, 0)]) (S2 := [(1, u5)]) (h2 := h) (by decide +kernel) (by subst he; rfl) (by exact hg) ?_
      clear hg he
      refine Ev.blk (is := [.jsr_w 3, .lcmp]) (pc2 := 108) (L2 := [(9, 0), (9, 0), (9, 0), (9, 0), (1, v6), (8, 0), (1, v4), (8, 0), (0, v8), (1, v6), (8, 0)]) (S2 := [(0, cmpL u5 3)]) (h2 := h) (by decide +kernel) rfl trivial ?_
      obtain ⟨ha, hb⟩ := bite hx
      clear hx
      refine Ev.br (i := .ifCond .ne 21) (len := 3) (a := 111) (b := 129) (by decide +kernel) rfl cmpL_eq (fun hc => ?_) (fun hc => ?_)
      · have hx := ha hc
        clear ha hb hc
        obtain ⟨u6, hg, he, hx⟩ := bgd hx
        refine Ev.blk (is := [.lload 4, .jsr_w 4, .lrem]) (pc2 := 117) (L2 := [(9, 0), (9, 0), (9, 0), (9, 0), (1, v6), (8, 0), (1, v4), (8, 0), (0, v8), (1, v6), (8, 0)]) (S2 := [(1, u6)]) (h2 := h) (by decide +kernel) (by subst he; rfl) (by exact hg) ?_
        clear hg he
        refine Ev.blk (is := [.jsr_w 3, .lcmp]) (pc2 := 121) (L2 := [(9, 0), (9, 0), (9, 0), (9, 0), (1, v6), (8, 0), (1, v4), (8, 0), (0, v8), (1, v6), (8, 0)]) (S2 := [(0, cmpL u6 3)]) (h2 := h) (by decide +kernel) rfl trivial ?_
        obtain ⟨ha, hb⟩ := bite hx
        clear hx
        refine Ev.br (i := .ifCond .ne 8) (len := 3) (a := 124) (b := 129) (by decide +kernel) rfl cmpL_eq (fun hc => ?_) (fun hc => ?_)
        · have hx := ha hc
          clear ha hb hc
          obtain ⟨u7, hg, he, hx⟩ := bgd hx
          refine Ev.blk (is := [.iload 8, .ineg, .istore 8, .lload 6, .lload 4, .lrem]) (pc2 := 134) (L2 := [(9, 0), (9, 0), (9, 0), (9, 0), (1, v6), (8, 0), (1, v4), (8, 0), (0, w32 (-v8)), (1, v6), (8, 0)]) (S2 := [(1, u7)]) (h2 := h) (by decide +kernel) (by subst he; rfl) (by exact hg) ?_
          clear hg he
          refine Ev.blk (is := [.lstore 6]) (pc2 := 136) (L2 := [(9, 0), (9, 0), (9, 0), (9, 0), (1, v6), (8, 0), (1, u7), (8, 0), (0, w32 (-v8)), (1, v6), (8, 0)]) (S2 := []) (h2 := h) (by decide +kernel) rfl trivial ?_
          refine Ev.jp (i := .goto (-110)) (len := 3) (pc2 := 26) (by decide +kernel) rfl ?_
          refine Ev.wk (L2 := [(9, 0), (9, 0), (9, 0), (9, 0), (1, v6), (8, 0), (1, u7), (8, 0), (0, w32 (-v8)), (9, 0), (9, 0)]) (wkL_of ⟨Or.inl rfl, ⟨Or.inl rfl, ⟨Or.inl rfl, ⟨Or.inl rfl, ⟨Or.inl rfl, ⟨Or.inl rfl, ⟨Or.inl rfl, ⟨Or.inl rfl, ⟨Or.inl rfl, ⟨Or.inr rfl, ⟨Or.inr rfl, trivial⟩⟩⟩⟩⟩⟩⟩⟩⟩⟩⟩) ?_
          exact hk26 v6 u7 (w32 (-v8)) h _ hx
        · have hx := hb hc
          clear ha hb hc
          obtain ⟨u8, hg, he, hx⟩ := bgd hx
          refine Ev.blk (is := [.lload 6, .lload 4, .lrem]) (pc2 := 134) (L2 := [(9, 0), (9, 0), (9, 0), (9, 0), (1, v6), (8, 0), (1, v4), (8, 0), (0, v8), (1, v6), (8, 0)]) (S2 := [(1, u8)]) (h2 := h) (by decide +kernel) (by subst he; rfl) (by exact hg) ?_
          clear hg he
          refine Ev.blk (is := [.lstore 6]) (pc2 := 136) (L2 := [(9, 0), (9, 0), (9, 0), (9, 0), (1, v6), (8, 0), (1, u8), (8, 0), (0, v8), (1, v6), (8, 0)]) (S2 := []) (h2 := h) (by decide +kernel) rfl trivial ?_
          refine Ev.jp (i := .goto (-110)) (len := 3) (pc2 := 26) (by decide +kernel) rfl ?_
          refine Ev.wk (L2 := [(9, 0), (9, 0), (9, 0), (9, 0), (1, v6), (8, 0), (1, u8), (8, 0), (0, v8), (9, 0), (9, 0)]) (wkL_of ⟨Or.inl rfl, ⟨Or.inl rfl, ⟨Or.inl rfl, ⟨Or.inl rfl, ⟨Or.inl rfl, ⟨Or.inl rfl, ⟨Or.inl rfl, ⟨Or.inl rfl, ⟨Or.inl rfl, ⟨Or.inr rfl, ⟨Or.inr rfl, trivial⟩⟩⟩⟩⟩⟩⟩⟩⟩⟩⟩) ?_
          exact hk26 v6 u8 v8 h _ hx
      · have hx := hb hc
        clear ha hb hc
        obtain ⟨u9, hg, he, hx⟩ := bgd hx
        refine Ev.blk (is := [.lload 6, .lload 4, .lrem]) (pc2 := 134) (L2 := [(9, 0), (9, 0), (9, 0), (9, 0), (1, v6), (8, 0), (1, v4), (8, 0), (0, v8), (1, v6), (8, 0)]) (S2 := [(1, u9)]) (h2 := h) (by decide +kernel) (by subst he; rfl) (by exact hg) ?_
        clear hg he
        refine Ev.blk (is := [.lstore 6]) (pc2 := 136) (L2 := [(9, 0), (9, 0), (9, 0), (9, 0), (1, v6), (8, 0), (1, u9), (8, 0), (0, v8), (1, v6), (8, 0)]) (S2 := []) (h2 := h) (by decide +kernel) rfl trivial ?_
        refine Ev.jp (i := .goto (-110)) (len := 3) (pc2 := 26) (by decide +kernel) rfl ?_
        refine Ev.wk (L2 := [(9, 0), (9, 0), (9, 0), (9, 0), (1, v6), (8, 0), (1, u9), (8, 0), (0, v8), (9, 0), (9, 0)]) (wkL_of ⟨Or.inl rfl, ⟨Or.inl rfl, ⟨Or.inl rfl, ⟨Or.inl rfl, ⟨Or.inl rfl, ⟨Or.inl rfl, ⟨Or.inl rfl, ⟨Or.inl rfl, ⟨Or.inl rfl, ⟨Or.inr rfl, ⟨Or.inr rfl, trivial⟩⟩⟩⟩⟩⟩⟩⟩⟩⟩⟩) ?_
        exact hk26 v6 u9 v8 h _ hx
theorem y_R_signOf_26 {sc : AS} {d : Nat} (hd : 0 ≤ d) : ∀ (fu : Nat) (v4 : Int) (v6 : Int) (v8 : Int) (h : AH) (r : Int), R_signOf_26 fu v4 v6 v8 = some r → Ev sc d 182 26 [(9, 0), (9, 0), (9, 0), (9, 0), (1, v4), (8, 0), (1, v6), (8, 0), (0, v8), (9, 0), (9, 0)] [] h (some (0, r)) h := by
  intro fu
  induction fu with
  | zero => intro v4 v6 v8 h r hx; unfold R_signOf_26 at hx; cases hx
  | succ fu ih =>
    intro v4 v6 v8 h r hx
    unfold R_signOf_26 at hx
    refine Ev.blk (is := [.lload 6, .lconst 0, .lcmp]) (pc2 := 30) (L2 := [(9, 0), (9, 0), (9, 0), (9, 0), (1, v4), (8, 0), (1, v6), (8, 0), (0, v8), (9, 0), (9, 0)]) (S2 := [(0, cmpL v6 0)]) (h2 := h) (by decide +kernel) rfl trivial ?_
    obtain ⟨ha, hb⟩ := bite hx
    clear hx
    refine Ev.br (i := .ifCond .eq 109) (len := 3) (a := 139) (b := 33) (by decide +kernel) rfl cmpL_eq (fun hc => ?_) (fun hc => ?_)
    · have hx := ha hc
      clear ha hb hc
      refine Ev.blk (is := [.lload 4, .lconst 1, .lcmp]) (pc2 := 143) (L2 := [(9, 0), (9, 0), (9, 0), (9, 0), (1, v4), (8, 0), (1, v6), (8, 0), (0, v8), (9, 0), (9, 0)]) (S2 := [(0, cmpL v4 1)]) (h2 := h) (by decide +kernel) rfl trivial ?_
      obtain ⟨ha, hb⟩ := bite hx
      clear hx
      refine Ev.br (i := .ifCond .ne 8) (len := 3) (a := 146) (b := 151) (by decide +kernel) rfl cmpL_eq (fun hc => ?_) (fun hc => ?_)
      · have hx := ha hc
        clear ha hb hc
        refine Ev.blk (is := [.iload 8]) (pc2 := 148) (L2 := [(9, 0), (9, 0), (9, 0), (9, 0), (1, v4), (8, 0), (1, v6), (8, 0), (0, v8), (9, 0), (9, 0)]) (S2 := [(0, v8)]) (h2 := h) (by decide +kernel) rfl trivial ?_
        refine Ev.jp (i := .goto 4) (len := 3) (pc2 := 152) (by decide +kernel) rfl ?_
        cases hx
        exact Ev.ret (i := .ireturn) (len := 1) (by decide +kernel) rfl (finOf (t := some .int) rfl (trivial))
      · have hx := hb hc
        clear ha hb hc
        refine Ev.blk (is := [.iconst 0]) (pc2 := 152) (L2 := [(9, 0), (9, 0), (9, 0), (9, 0), (1, v4), (8, 0), (1, v6), (8, 0), (0, v8), (9, 0), (9, 0)]) (S2 := [(0, 0)]) (h2 := h) (by decide +kernel) rfl trivial ?_
        cases hx
        exact Ev.ret (i := .ireturn) (len := 1) (by decide +kernel) rfl (finOf (t := some .int) rfl (trivial))
    · have hx := hb hc
      clear ha hb hc
      exact y_R_signOf_33 hd ih FU v4 v6 v8 h _ hx
theorem x_R_signOf {sc : AS} {d : Nat} (hd : 1 ≤ d) {v0 : Int} {v2 : Int} {h : AH} {r : Int} (hx : R_signOf v0 v2 = some r) : Runs sc d 182 [(1, v0), (1, v2)] h (some (0, r)) h := by
  obtain ⟨d, rfl⟩ : ∃ e, d = e + 1 := ⟨d - 1, by omega⟩
  have hd : 0 ≤ d := by omega
  unfold R_signOf at hx
  refine ⟨⟨aM_182, rfl, Nat.le_of_ble_eq_true rfl⟩, ?_⟩
  show Ev sc d 182 0 [(1, v0), (8, 0), (1, v2), (8, 0), (9, 0), (9, 0), (9, 0), (9, 0), (9, 0), (9, 0), (9, 0)] [] h (some (0, r)) h
  obtain ⟨u1, hg, he, hx⟩ := bgd hx
  refine Ev.blk (is := [.lload_n 2, .lstore 4, .lload_n 0, .lload 4, .lrem]) (pc2 := 7) (L2 := [(1, v0), (8, 0), (1, v2), (8, 0), (1, v2), (8, 0), (9, 0), (9, 0), (9, 0), (9, 0), (9, 0)]) (S2 := [(1, u1)]) (h2 := h) (by decide +kernel) (by subst he; rfl) (by exact hg) ?_
  clear hg he
  refine Ev.blk (is := [.lstore 6, .lload 6, .lconst 0, .lcmp]) (pc2 := 13) (L2 := [(1, v0), (8, 0), (1, v2), (8, 0), (1, v2), (8, 0), (1, u1), (8, 0), (9, 0), (9, 0), (9, 0)]) (S2 := [(0, cmpL u1 0)]) (h2 := h) (by decide +kernel) rfl trivial ?_
  obtain ⟨ha, hb⟩ := bite hx
  clear hx
  refine Ev.br (i := .ifCond .ge 10) (len := 3) (a := 16) (b := 23) (by decide +kernel) rfl cmpL_lt (fun hc => ?_) (fun hc => ?_)
  · have hx := ha hc
    clear ha hb hc
    refine Ev.blk (is := [.lload 6, .lload 4, .ladd, .lstore 6, .iconst 1, .istore 8]) (pc2 := 26) (L2 := [(1, v0), (8, 0), (1, v2), (8, 0), (1, v2), (8, 0), (1, w64 (u1 + v2)), (8, 0), (0, 1), (9, 0), (9, 0)]) (S2 := []) (h2 := h) (by decide +kernel) rfl trivial ?_
    refine Ev.wk (L2 := [(9, 0), (9, 0), (9, 0), (9, 0), (1, v2), (8, 0), (1, w64 (u1 + v2)), (8, 0), (0, 1), (9, 0), (9, 0)]) (wkL_of ⟨Or.inr rfl, ⟨Or.inr rfl, ⟨Or.inr rfl, ⟨Or.inr rfl, ⟨Or.inl rfl, ⟨Or.inl rfl, ⟨Or.inl rfl, ⟨Or.inl rfl, ⟨Or.inl rfl, ⟨Or.inl rfl, ⟨Or.inl rfl, trivial⟩⟩⟩⟩⟩⟩⟩⟩⟩⟩⟩) ?_
    exact y_R_signOf_26 hd FU v2 (w64 (u1 + v2)) 1 h _ hx
  · have hx := hb hc
    clear ha hb hc
    refine Ev.blk (is := [.iconst 1, .istore 8]) (pc2 := 26) (L2 := [(1, v0), (8, 0), (1, v2), (8, 0), (1, v2), (8, 0), (1, u1), (8, 0), (0, 1), (9, 0), (9, 0)]) (S2 := []) (h2 := h) (by decide +kernel) rfl trivial ?_
    refine Ev.wk (L2 := [(9, 0), (9, 0), (9, 0), (9, 0), (1, v2), (8, 0), (1, u1), (8, 0), (0, 1), (9, 0), (9, 0)]) (wkL_of ⟨Or.inr rfl, ⟨Or.inr rfl, ⟨Or.inr rfl, ⟨Or.inr rfl, ⟨Or.inl rfl, ⟨Or.inl rfl, ⟨Or.inl rfl, ⟨Or.inl rfl, ⟨Or.inl rfl, ⟨Or.inl rfl, ⟨Or.inl rfl, trivial⟩⟩⟩⟩⟩⟩⟩⟩⟩⟩⟩) ?_
    exact y_R_signOf_26 hd FU v2 u1 1 h _ hx
theorem y_R_times_12 {sc : AS} {d : Nat} (hd : 0 ≤ d) {k3 : Int → Int → Int → Int → Int → AH → Option AH} (hk3 : ∀ (v0 : Int) (v1 : Int) (v2 : Int) (v3 : Int) (v5 : Int) (h : AH) (r : AH), k3 v0 v1 v2 v3 v5 h = some r → Ev sc d 184 3 [(2, v0), (2, v1), (2, v2), (1, v3), (8, 0), (0, v5), (9, 0)] [] h none r) : ∀ (fu : Nat) (v0 : Int) (v1 : Int) (v2 : Int) (v3 : Int) (v5 : Int) (v6 : Int) (h : AH) (r : AH), R_times_12 k3 fu v0 v1 v2 v3 v5 v6 h = some r → Ev sc d 184 12 [(2, v0), (2, v1), (2, v2), (1, v3), (8, 0), (0, v5), (0, v6)] [] h none r := by
  intro fu
  induction fu with
  | zero => intro v0 v1 v2 v3 v5 v6 h r hx; unfold R_times_12 at hx; cases hx
  | succ fu ih =>
    intro v0 v1 v2 v3 v5 v6 h r hx
    unfold R_times_12 at hx
    refine Ev.blk (is := [.iload 6, .iconst 2]) (pc2 := 15) (L2 := [(2, v0), (2, v1), (2, v2), (1, v3), (8, 0), (0, v5), (0, v6)]) (S2 := [(0, 2), (0, v6)]) (h2 := h) (by decide +kernel) rfl trivial ?_
    obtain ⟨ha, hb⟩ := bite hx
    clear hx
    refine Ev.br (i := .if_icmp .ge 50) (len := 3) (a := 18) (b := 65) (by decide +kernel) rfl Iff.rfl (fun hc => ?_) (fun hc => ?_)
    · have hx := ha hc
      clear ha hb hc
      obtain ⟨u1, hg, he, hx⟩ := bgd hx
      refine Ev.blk (is := [.aload_n 0, .getfield 9203]) (pc2 := 22) (L2 := [(2, v0), (2, v1), (2, v2), (1, v3), (8, 0), (0, v5), (0, v6)]) (S2 := [(2, u1)]) (h2 := h) (by decide +kernel) (by subst he; rfl) (by exact hg) ?_
      clear hg he
      obtain ⟨u2, hg, he, hx⟩ := bgd hx
      refine Ev.blk (is := [.iconst 2, .iload 5, .imul, .iload 6, .iadd, .aload_n 1, .iconst 2, .iload 5, .imul, .laload]) (pc2 := 35) (L2 := [(2, v0), (2, v1), (2, v2), (1, v3), (8, 0), (0, v5), (0, v6)]) (S2 := [(1, u2), (0, w32 ((w32 (2 * v5)) + v6)), (2, u1)]) (h2 := h) (by decide +kernel) (by subst he; rfl) (by exact hg) ?_
      clear hg he
      obtain ⟨u3, hg, he, hx⟩ := bgd hx
      refine Ev.blk (is := [.aload_n 2, .iload 6, .laload]) (pc2 := 39) (L2 := [(2, v0), (2, v1), (2, v2), (1, v3), (8, 0), (0, v5), (0, v6)]) (S2 := [(1, u3), (1, u2), (0, w32 ((w32 (2 * v5)) + v6)), (2, u1)]) (h2 := h) (by decide +kernel) (by subst he; rfl) (by exact hg) ?_
      clear hg he
      obtain ⟨u4, hg, he, hx⟩ := bgd hx
      refine Ev.blk (is := [.lmul, .aload_n 1, .iconst 2, .iload 5, .imul, .iconst 1, .iadd, .laload]) (pc2 := 48) (L2 := [(2, v0), (2, v1), (2, v2), (1, v3), (8, 0), (0, v5), (0, v6)]) (S2 := [(1, u4), (1, w64 (u2 * u3)), (0, w32 ((w32 (2 * v5)) + v6)), (2, u1)]) (h2 := h) (by decide +kernel) (by subst he; rfl) (by exact hg) ?_
      clear hg he
      obtain ⟨u5, hg, he, hx⟩ := bgd hx
      refine Ev.blk (is := [.aload_n 2, .iconst 2, .iload 6, .iadd, .laload]) (pc2 := 54) (L2 := [(2, v0), (2, v1), (2, v2), (1, v3), (8, 0), (0, v5), (0, v6)]) (S2 := [(1, u5), (1, u4), (1, w64 (u2 * u3)), (0, w32 ((w32 (2 * v5)) + v6)), (2, u1)]) (h2 := h) (by decide +kernel) (by subst he; rfl) (by exact hg) ?_
      clear hg he
      obtain ⟨u6, hg, he, hx⟩ := bgd hx
      refine Ev.blk (is := [.lmul, .ladd, .lload_n 3, .lrem]) (pc2 := 58) (L2 := [(2, v0), (2, v1), (2, v2), (1, v3), (8, 0), (0, v5), (0, v6)]) (S2 := [(1, u6), (0, w32 ((w32 (2 * v5)) + v6)), (2, u1)]) (h2 := h) (by decide +kernel) (by subst he; rfl) (by exact hg) ?_
      clear hg he
      obtain ⟨h7, hg, he, hx⟩ := bgd hx
      refine Ev.blk (is := [.lastore]) (pc2 := 59) (L2 := [(2, v0), (2, v1), (2, v2), (1, v3), (8, 0), (0, v5), (0, v6)]) (S2 := []) (h2 := h7) (by decide +kernel) (by subst he; rfl) (by exact hg) ?_
      clear hg he
      refine Ev.blk (is := [.iinc 6 1]) (pc2 := 62) (L2 := [(2, v0), (2, v1), (2, v2), (1, v3), (8, 0), (0, v5), (0, w32 (v6 + 1))]) (S2 := []) (h2 := h7) (by decide +kernel) rfl trivial ?_
      refine Ev.jp (i := .goto (-50)) (len := 3) (pc2 := 12) (by decide +kernel) rfl ?_
      exact ih v0 v1 v2 v3 v5 (w32 (v6 + 1)) h7 _ hx
    · have hx := hb hc
      clear ha hb hc
      refine Ev.blk (is := [.iinc 5 1]) (pc2 := 68) (L2 := [(2, v0), (2, v1), (2, v2), (1, v3), (8, 0), (0, w32 (v5 + 1)), (0, v6)]) (S2 := []) (h2 := h) (by decide +kernel) rfl trivial ?_
      refine Ev.jp (i := .goto (-65)) (len := 3) (pc2 := 3) (by decide +kernel) rfl ?_
      refine Ev.wk (L2 := [(2, v0), (2, v1), (2, v2), (1, v3), (8, 0), (0, w32 (v5 + 1)), (9, 0)]) (wkL_of ⟨Or.inl rfl, ⟨Or.inl rfl, ⟨Or.inl rfl, ⟨Or.inl rfl, ⟨Or.inl rfl, ⟨Or.inl rfl, ⟨Or.inr rfl, trivial⟩⟩⟩⟩⟩⟩⟩) ?_
      exact hk3 v0 v1 v2 v3 (w32 (v5 + 1)) h _ hx
theorem y_R_times_74 {sc : AS} {d : Nat} (hd : 0 ≤ d) : ∀ (fu : Nat) (v0 : Int) (v1 : Int) (v5 : Int) (h : AH) (r : AH), R_times_74 fu v0 v1 v5 h = some r → Ev sc d 184 74 [(2, v0), (2, v1), (9, 0), (9, 0), (9, 0), (0, v5), (9, 0)] [] h none r := by
  intro fu
  induction fu with
  | zero => intro v0 v1 v5 h r hx; unfold R_times_74 at hx; cases hx
  | succ fu ih =>
    intro v0 v1 v5 h r hx
    unfold R_times_74 at hx
    refine Ev.blk (is := [.iload 5, .iconst 4]) (pc2 := 77) (L2 := [(2, v0), (2, v1), (9, 0), (9, 0), (9, 0), (0, v5), (9, 0)]) (S2 := [(0, 4), (0, v5)]) (h2 := h) (by decide +kernel) rfl trivial ?_
    obtain ⟨ha, hb⟩ := bite hx
    clear hx
    refine Ev.br (i := .if_icmp .ge 20) (len := 3) (a := 80) (b := 97) (by decide +kernel) rfl Iff.rfl (fun hc => ?_) (fun hc => ?_)
    · have hx := ha hc
      clear ha hb hc
      obtain ⟨u1, hg, he, hx⟩ := bgd hx
      refine Ev.blk (is := [.aload_n 1, .iload 5, .aload_n 0, .getfield 9203]) (pc2 := 87) (L2 := [(2, v0), (2, v1), (9, 0), (9, 0), (9, 0), (0, v5), (9, 0)]) (S2 := [(2, u1), (0, v5), (2, v1)]) (h2 := h) (by decide +kernel) (by subst he; rfl) (by exact hg) ?_
      clear hg he
      obtain ⟨u2, hg, he, hx⟩ := bgd hx
      refine Ev.blk (is := [.iload 5, .laload]) (pc2 := 90) (L2 := [(2, v0), (2, v1), (9, 0), (9, 0), (9, 0), (0, v5), (9, 0)]) (S2 := [(1, u2), (0, v5), (2, v1)]) (h2 := h) (by decide +kernel) (by subst he; rfl) (by exact hg) ?_
      clear hg he
      obtain ⟨h3, hg, he, hx⟩ := bgd hx
      refine Ev.blk (is := [.lastore]) (pc2 := 91) (L2 := [(2, v0), (2, v1), (9, 0), (9, 0), (9, 0), (0, v5), (9, 0)]) (S2 := []) (h2 := h3) (by decide +kernel) (by subst he; rfl) (by exact hg) ?_
      clear hg he
      refine Ev.blk (is := [.iinc 5 1]) (pc2 := 94) (L2 := [(2, v0), (2, v1), (9, 0), (9, 0), (9, 0), (0, w32 (v5 + 1)), (9, 0)]) (S2 := []) (h2 := h3) (by decide +kernel) rfl trivial ?_
      refine Ev.jp (i := .goto (-20)) (len := 3) (pc2 := 74) (by decide +kernel) rfl ?_
      exact ih v0 v1 (w32 (v5 + 1)) h3 _ hx
    · have hx := hb hc
      clear ha hb hc
      cases hx
      exact Ev.ret (i := .return_) (len := 1) (by decide +kernel) rfl (finOf (t := none) rfl (trivial))
theorem y_R_times_3 {sc : AS} {d : Nat} (hd : 0 ≤ d) : ∀ (fu : Nat) (v0 : Int) (v1 : Int) (v2 : Int) (v3 : Int) (v5 : Int) (h : AH) (r : AH), R_times_3 fu v0 v1 v2 v3 v5 h = some r → Ev sc d 184 3 [(2, v0), (2, v1), (2, v2), (1, v3), (8, 0), (0, v5), (9, 0)] [] h none r := by
  intro fu
  induction fu with
  | zero => intro v0 v1 v2 v3 v5 h r hx; unfold R_times_3 at hx; cases hx
  | succ fu ih =>
    intro v0 v1 v2 v3 v5 h r hx
    unfold R_times_3 at hx
    refine Ev.blk (is := [.iload 5, .iconst 2]) (pc2 := 6) (L2 := [(2, v0), (2, v1), (2, v2), (1, v3), (8, 0), (0, v5), (9, 0)]) (S2 := [(0, 2), (0, v5)]) (h2 := h) (by decide +kernel) rfl trivial ?_
    obtain ⟨ha, hb⟩ := bite hx
    clear hx
    refine Ev.br (i := .if_icmp .ge 65) (len := 3) (a := 9) (b := 71) (by decide +kernel) rfl Iff.rfl (fun hc => ?_) (fun hc => ?_)
    · have hx := ha hc
      clear ha hb hc
      refine Ev.blk (is := [.iconst 0, .istore 6]) (pc2 := 12) (L2 := [(2, v0), (2, v1), (2, v2), (1, v3), (8, 0), (0, v5), (0, 0)]) (S2 := []) (h2 := h) (by decide +kernel) rfl trivial ?_
      exact y_R_times_12 hd ih FU v0 v1 v2 v3 v5 0 h _ hx
    · have hx := hb hc
      clear ha hb hc
      refine Ev.blk (is := [.iconst 0, .istore 5]) (pc2 := 74) (L2 := [(2, v0), (2, v1), (2, v2), (1, v3), (8, 0), (0, 0), (9, 0)]) (S2 := []) (h2 := h) (by decide +kernel) rfl trivial ?_
      refine Ev.wk (L2 := [(2, v0), (2, v1), (9, 0), (9, 0), (9, 0), (0, 0), (9, 0)]) (wkL_of ⟨Or.inl rfl, ⟨Or.inl rfl, ⟨Or.inr rfl, ⟨Or.inr rfl, ⟨Or.inr rfl, ⟨Or.inl rfl, ⟨Or.inl rfl, trivial⟩⟩⟩⟩⟩⟩⟩) ?_
      exact y_R_times_74 hd FU v0 v1 0 h _ hx
theorem x_R_times {sc : AS} {d : Nat} (hd : 1 ≤ d) {v0 : Int} {v1 : Int} {v2 : Int} {v3 : Int} {h : AH} {r : AH} (hx : R_times v0 v1 v2 v3 h = some r) : Runs sc d 184 [(2, v0), (2, v1), (2, v2), (1, v3)] h none r := by
  obtain ⟨d, rfl⟩ : ∃ e, d = e + 1 := ⟨d - 1, by omega⟩
  have hd : 0 ≤ d := by omega
  unfold R_times at hx
  refine ⟨⟨aM_184, rfl, Nat.le_of_ble_eq_true rfl⟩, ?_⟩
  show Ev sc d 184 0 [(2, v0), (2, v1), (2, v2), (1, v3), (8, 0), (9, 0), (9, 0)] [] h none r
  refine Ev.blk (is := [.iconst 0, .istore 5]) (pc2 := 3) (L2 := [(2, v0), (2, v1), (2, v2), (1, v3), (8, 0), (0, 0), (9, 0)]) (S2 := []) (h2 := h) (by decide +kernel) rfl trivial ?_
  exact y_R_times_3 hd FU v0 v1 v2 v3 0 h _ hx
theorem y_R_sequence_111 {sc : AS} {d : Nat} (hd : 1 ≤ d) {k81 : Int → Int → Int → AH → Option (Int × AH)} (hk81 : ∀ (v0 : Int) (v7 : Int) (v9 : Int) (h : AH) (r : (Int × AH)), k81 v0 v7 v9 h = some r → Ev sc d 183 81 [(2, v0), (9, 0), (9, 0), (9, 0), (9, 0), (9, 0), (9, 0), (1, v7), (8, 0), (1, v9), (8, 0)] [] h (some (1, r.1)) r.2) : ∀ (v0 : Int) (v7 : Int) (v9 : Int) (h : AH) (r : (Int × AH)), R_sequence_111 k81 v0 v7 v9 h = some r → Ev sc d 183 111 [(2, v0), (9, 0), (9, 0), (9, 0), (9, 0), (9, 0), (9, 0), (1, v7), (8, 0), (1, v9), (8, 0)] [] h (some (1, r.1)) r.2 := by
  intro v0 v7 v9 h r hx
  unfold R_sequence_111 at hx
  obtain ⟨u1, hg, he, hx⟩ := bgd hx
  refine Ev.blk (is := [.aload_n 0, .aload_n 0, .getfield 9202]) (pc2 := 116) (L2 := [(2, v0), (9, 0), (9, 0), (9, 0), (9, 0), (9, 0), (9, 0), (1, v7), (8, 0), (1, v9), (8, 0)]) (S2 := [(2, u1), (2, v0)]) (h2 := h) (by decide +kernel) (by subst he; rfl) (by exact hg) ?_
  clear hg he
  obtain ⟨u2, hg, he, hx⟩ := bgd hx
  refine Ev.blk (is := [.aload_n 0, .getfield 9202]) (pc2 := 120) (L2 := [(2, v0), (9, 0), (9, 0), (9, 0), (9, 0), (9, 0), (9, 0), (1, v7), (8, 0), (1, v9), (8, 0)]) (S2 := [(2, u2), (2, u1), (2, v0)]) (h2 := h) (by decide +kernel) (by subst he; rfl) (by exact hg) ?_
  clear hg he
  refine Ev.blk (is := [.lload 7]) (pc2 := 122) (L2 := [(2, v0), (9, 0), (9, 0), (9, 0), (9, 0), (9, 0), (9, 0), (1, v7), (8, 0), (1, v9), (8, 0)]) (S2 := [(1, v7), (2, u2), (2, u1), (2, v0)]) (h2 := h) (by decide +kernel) rfl trivial ?_
  obtain ⟨_, hg, -, hx⟩ := bgd hx
  obtain ⟨h4, hc, hx⟩ := bca hx
  refine Ev.call (args := [(2, v0), (2, u1), (2, u2), (1, v7)]) (S2 := []) (r1 := none) (h1 := h4) (i := .invokevirtual 184) (by decide +kernel) rfl rfl (Nat.le_of_ble_eq_true rfl) (Or.inr (Or.inl ⟨rfl, hg, by decide +kernel⟩)) (x_R_times (by omega) hc) ?_
  refine Ev.blk (is := [.lload 9, .iconst 1, .lshr, .lstore 9]) (pc2 := 131) (L2 := [(2, v0), (9, 0), (9, 0), (9, 0), (9, 0), (9, 0), (9, 0), (1, v7), (8, 0), (1, shrL v9 1), (8, 0)]) (S2 := []) (h2 := h4) (by decide +kernel) rfl trivial ?_
  refine Ev.jp (i := .goto (-50)) (len := 3) (pc2 := 81) (by decide +kernel) rfl ?_
  exact hk81 v0 v7 (shrL v9 1) h4 _ hx
theorem y_R_sequence_81 {sc : AS} {d : Nat} (hd : 1 ≤ d) : ∀ (fu : Nat) (v0 : Int) (v7 : Int) (v9 : Int) (h : AH) (r : (Int × AH)), R_sequence_81 fu v0 v7 v9 h = some r → Ev sc d 183 81 [(2, v0), (9, 0), (9, 0), (9, 0), (9, 0), (9, 0), (9, 0), (1, v7), (8, 0), (1, v9), (8, 0)] [] h (some (1, r.1)) r.2 := by
  intro fu
  induction fu with
  | zero => intro v0 v7 v9 h r hx; unfold R_sequence_81 at hx; cases hx
  | succ fu ih =>
    intro v0 v7 v9 h r hx
    unfold R_sequence_81 at hx
    refine Ev.blk (is := [.lload 9, .lconst 0, .lcmp]) (pc2 := 85) (L2 := [(2, v0), (9, 0), (9, 0), (9, 0), (9, 0), (9, 0), (9, 0), (1, v7), (8, 0), (1, v9), (8, 0)]) (S2 := [(0, cmpL v9 0)]) (h2 := h) (by decide +kernel) rfl trivial ?_
    obtain ⟨ha, hb⟩ := bite hx
    clear hx
    refine Ev.br (i := .ifCond .le 49) (len := 3) (a := 88) (b := 134) (by decide +kernel) rfl cmpL_gt (fun hc => ?_) (fun hc => ?_)
    · have hx := ha hc
      clear ha hb hc
      refine Ev.blk (is := [.lload 9, .lconst 1, .land, .lconst 1, .lcmp]) (pc2 := 94) (L2 := [(2, v0), (9, 0), (9, 0), (9, 0), (9, 0), (9, 0), (9, 0), (1, v7), (8, 0), (1, v9), (8, 0)]) (S2 := [(0, cmpL (andL v9 1) 1)]) (h2 := h) (by decide +kernel) rfl trivial ?_
      obtain ⟨ha, hb⟩ := bite hx
      clear hx
      refine Ev.br (i := .ifCond .ne 17) (len := 3) (a := 97) (b := 111) (by decide +kernel) rfl cmpL_eq (fun hc => ?_) (fun hc => ?_)
      · have hx := ha hc
        clear ha hb hc
        obtain ⟨u1, hg, he, hx⟩ := bgd hx
        refine Ev.blk (is := [.aload_n 0, .aload_n 0, .getfield 9201]) (pc2 := 102) (L2 := [(2, v0), (9, 0), (9, 0), (9, 0), (9, 0), (9, 0), (9, 0), (1, v7), (8, 0), (1, v9), (8, 0)]) (S2 := [(2, u1), (2, v0)]) (h2 := h) (by decide +kernel) (by subst he; rfl) (by exact hg) ?_
        clear hg he
        obtain ⟨u2, hg, he, hx⟩ := bgd hx
        refine Ev.blk (is := [.aload_n 0, .getfield 9202]) (pc2 := 106) (L2 := [(2, v0), (9, 0), (9, 0), (9, 0), (9, 0), (9, 0), (9, 0), (1, v7), (8, 0), (1, v9), (8, 0)]) (S2 := [(2, u2), (2, u1), (2, v0)]) (h2 := h) (by decide +kernel) (by subst he; rfl) (by exact hg) ?_
        clear hg he
        refine Ev.blk (is := [.lload 7]) (pc2 := 108) (L2 := [(2, v0), (9, 0), (9, 0), (9, 0), (9, 0), (9, 0), (9, 0), (1, v7), (8, 0), (1, v9), (8, 0)]) (S2 := [(1, v7), (2, u2), (2, u1), (2, v0)]) (h2 := h) (by decide +kernel) rfl trivial ?_
        obtain ⟨_, hg, -, hx⟩ := bgd hx
        obtain ⟨h4, hc, hx⟩ := bca hx
        refine Ev.call (args := [(2, v0), (2, u1), (2, u2), (1, v7)]) (S2 := []) (r1 := none) (h1 := h4) (i := .invokevirtual 184) (by decide +kernel) rfl rfl (Nat.le_of_ble_eq_true rfl) (Or.inr (Or.inl ⟨rfl, hg, by decide +kernel⟩)) (x_R_times (by omega) hc) ?_
        exact y_R_sequence_111 hd ih v0 v7 v9 h4 _ hx
      · have hx := hb hc
        clear ha hb hc
        exact y_R_sequence_111 hd ih v0 v7 v9 h _ hx
    · have hx := hb hc
      clear ha hb hc
      obtain ⟨u5, hg, he, hx⟩ := bgd hx
      refine Ev.blk (is := [.aload_n 0, .getfield 9201]) (pc2 := 138) (L2 := [(2, v0), (9, 0), (9, 0), (9, 0), (9, 0), (9, 0), (9, 0), (1, v7), (8, 0), (1, v9), (8, 0)]) (S2 := [(2, u5)]) (h2 := h) (by decide +kernel) (by subst he; rfl) (by exact hg) ?_
      clear hg he
      obtain ⟨u6, hg, he, hx⟩ := bgd hx
      refine Ev.blk (is := [.iconst 2, .laload]) (pc2 := 140) (L2 := [(2, v0), (9, 0), (9, 0), (9, 0), (9, 0), (9, 0), (9, 0), (1, v7), (8, 0), (1, v9), (8, 0)]) (S2 := [(1, u6)]) (h2 := h) (by decide +kernel) (by subst he; rfl) (by exact hg) ?_
      clear hg he
      cases hx
      exact Ev.ret (i := .lreturn) (len := 1) (by decide +kernel) rfl (finOf (t := some .long) rfl (trivial))
theorem x_R_sequence {sc : AS} {d : Nat} (hd : 2 ≤ d) {v0 : Int} {v1 : Int} {v3 : Int} {v5 : Int} {v7 : Int} {h : AH} {r : (Int × AH)} (hx : R_sequence v0 v1 v3 v5 v7 h = some r) : Runs sc d 183 [(2, v0), (1, v1), (1, v3), (1, v5), (1, v7)] h (some (1, r.1)) r.2 := by
  obtain ⟨d, rfl⟩ : ∃ e, d = e + 1 := ⟨d - 1, by omega⟩
  have hd : 1 ≤ d := by omega
  unfold R_sequence at hx
  refine ⟨⟨aM_183, rfl, Nat.le_of_ble_eq_true rfl⟩, ?_⟩
  show Ev sc d 183 0 [(2, v0), (1, v1), (8, 0), (1, v3), (8, 0), (1, v5), (8, 0), (1, v7), (8, 0), (9, 0), (9, 0)] [] h (some (1, r.1)) r.2
  obtain ⟨u1, hg, he, hx⟩ := bgd hx
  refine Ev.blk (is := [.aload_n 0, .getfield 9201]) (pc2 := 4) (L2 := [(2, v0), (1, v1), (8, 0), (1, v3), (8, 0), (1, v5), (8, 0), (1, v7), (8, 0), (9, 0), (9, 0)]) (S2 := [(2, u1)]) (h2 := h) (by decide +kernel) (by subst he; rfl) (by exact hg) ?_
  clear hg he
  obtain ⟨u2, hg, he, hx⟩ := bgd hx
  refine Ev.blk (is := [.iconst 0, .lconst 1, .lload 7, .lrem]) (pc2 := 9) (L2 := [(2, v0), (1, v1), (8, 0), (1, v3), (8, 0), (1, v5), (8, 0), (1, v7), (8, 0), (9, 0), (9, 0)]) (S2 := [(1, u2), (0, 0), (2, u1)]) (h2 := h) (by decide +kernel) (by subst he; rfl) (by exact hg) ?_
  clear hg he
  obtain ⟨h3, hg, he, hx⟩ := bgd hx
  refine Ev.blk (is := [.lastore]) (pc2 := 10) (L2 := [(2, v0), (1, v1), (8, 0), (1, v3), (8, 0), (1, v5), (8, 0), (1, v7), (8, 0), (9, 0), (9, 0)]) (S2 := []) (h2 := h3) (by decide +kernel) (by subst he; rfl) (by exact hg) ?_
  clear hg he
  obtain ⟨u4, hg, he, hx⟩ := bgd hx
  refine Ev.blk (is := [.aload_n 0, .getfield 9201]) (pc2 := 14) (L2 := [(2, v0), (1, v1), (8, 0), (1, v3), (8, 0), (1, v5), (8, 0), (1, v7), (8, 0), (9, 0), (9, 0)]) (S2 := [(2, u4)]) (h2 := h3) (by decide +kernel) (by subst he; rfl) (by exact hg) ?_
  clear hg he
  obtain ⟨h5, hg, he, hx⟩ := bgd hx
  refine Ev.blk (is := [.iconst 1, .lconst 0, .lastore]) (pc2 := 17) (L2 := [(2, v0), (1, v1), (8, 0), (1, v3), (8, 0), (1, v5), (8, 0), (1, v7), (8, 0), (9, 0), (9, 0)]) (S2 := []) (h2 := h5) (by decide +kernel) (by subst he; rfl) (by exact hg) ?_
  clear hg he
  obtain ⟨u6, hg, he, hx⟩ := bgd hx
  refine Ev.blk (is := [.aload_n 0, .getfield 9201]) (pc2 := 21) (L2 := [(2, v0), (1, v1), (8, 0), (1, v3), (8, 0), (1, v5), (8, 0), (1, v7), (8, 0), (9, 0), (9, 0)]) (S2 := [(2, u6)]) (h2 := h5) (by decide +kernel) (by subst he; rfl) (by exact hg) ?_
  clear hg he
  obtain ⟨h7, hg, he, hx⟩ := bgd hx
  refine Ev.blk (is := [.iconst 2, .lconst 0, .lastore]) (pc2 := 24) (L2 := [(2, v0), (1, v1), (8, 0), (1, v3), (8, 0), (1, v5), (8, 0), (1, v7), (8, 0), (9, 0), (9, 0)]) (S2 := []) (h2 := h7) (by decide +kernel) (by subst he; rfl) (by exact hg) ?_
  clear hg he
  obtain ⟨u8, hg, he, hx⟩ := bgd hx
  refine Ev.blk (is := [.aload_n 0, .getfield 9201]) (pc2 := 28) (L2 := [(2, v0), (1, v1), (8, 0), (1, v3), (8, 0), (1, v5), (8, 0), (1, v7), (8, 0), (9, 0), (9, 0)]) (S2 := [(2, u8)]) (h2 := h7) (by decide +kernel) (by subst he; rfl) (by exact hg) ?_
  clear hg he
  obtain ⟨u9, hg, he, hx⟩ := bgd hx
  refine Ev.blk (is := [.iconst 3, .lconst 1, .lload 7, .lrem]) (pc2 := 33) (L2 := [(2, v0), (1, v1), (8, 0), (1, v3), (8, 0), (1, v5), (8, 0), (1, v7), (8, 0), (9, 0), (9, 0)]) (S2 := [(1, u9), (0, 3), (2, u8)]) (h2 := h7) (by decide +kernel) (by subst he; rfl) (by exact hg) ?_
  clear hg he
  obtain ⟨h10, hg, he, hx⟩ := bgd hx
  refine Ev.blk (is := [.lastore]) (pc2 := 34) (L2 := [(2, v0), (1, v1), (8, 0), (1, v3), (8, 0), (1, v5), (8, 0), (1, v7), (8, 0), (9, 0), (9, 0)]) (S2 := []) (h2 := h10) (by decide +kernel) (by subst he; rfl) (by exact hg) ?_
  clear hg he
  obtain ⟨u11, hg, he, hx⟩ := bgd hx
  refine Ev.blk (is := [.aload_n 0, .getfield 9202]) (pc2 := 38) (L2 := [(2, v0), (1, v1), (8, 0), (1, v3), (8, 0), (1, v5), (8, 0), (1, v7), (8, 0), (9, 0), (9, 0)]) (S2 := [(2, u11)]) (h2 := h10) (by decide +kernel) (by subst he; rfl) (by exact hg) ?_
  clear hg he
  obtain ⟨u12, hg, he, hx⟩ := bgd hx
  refine Ev.blk (is := [.iconst 0, .lload_n 1, .lload 7, .lrem]) (pc2 := 43) (L2 := [(2, v0), (1, v1), (8, 0), (1, v3), (8, 0), (1, v5), (8, 0), (1, v7), (8, 0), (9, 0), (9, 0)]) (S2 := [(1, u12), (0, 0), (2, u11)]) (h2 := h10) (by decide +kernel) (by subst he; rfl) (by exact hg) ?_
  clear hg he
  obtain ⟨h13, hg, he, hx⟩ := bgd hx
  refine Ev.blk (is := [.lastore]) (pc2 := 44) (L2 := [(2, v0), (1, v1), (8, 0), (1, v3), (8, 0), (1, v5), (8, 0), (1, v7), (8, 0), (9, 0), (9, 0)]) (S2 := []) (h2 := h13) (by decide +kernel) (by subst he; rfl) (by exact hg) ?_
  clear hg he
  obtain ⟨u14, hg, he, hx⟩ := bgd hx
  refine Ev.blk (is := [.aload_n 0, .getfield 9202]) (pc2 := 48) (L2 := [(2, v0), (1, v1), (8, 0), (1, v3), (8, 0), (1, v5), (8, 0), (1, v7), (8, 0), (9, 0), (9, 0)]) (S2 := [(2, u14)]) (h2 := h13) (by decide +kernel) (by subst he; rfl) (by exact hg) ?_
  clear hg he
  obtain ⟨u15, hg, he, hx⟩ := bgd hx
  refine Ev.blk (is := [.iconst 1, .lload 7, .lload_n 3, .lload 7, .lrem]) (pc2 := 55) (L2 := [(2, v0), (1, v1), (8, 0), (1, v3), (8, 0), (1, v5), (8, 0), (1, v7), (8, 0), (9, 0), (9, 0)]) (S2 := [(1, u15), (1, v7), (0, 1), (2, u14)]) (h2 := h13) (by decide +kernel) (by subst he; rfl) (by exact hg) ?_
  clear hg he
  obtain ⟨u16, hg, he, hx⟩ := bgd hx
  refine Ev.blk (is := [.lsub, .lload 7, .lrem]) (pc2 := 59) (L2 := [(2, v0), (1, v1), (8, 0), (1, v3), (8, 0), (1, v5), (8, 0), (1, v7), (8, 0), (9, 0), (9, 0)]) (S2 := [(1, u16), (0, 1), (2, u14)]) (h2 := h13) (by decide +kernel) (by subst he; rfl) (by exact hg) ?_
  clear hg he
  obtain ⟨h17, hg, he, hx⟩ := bgd hx
  refine Ev.blk (is := [.lastore]) (pc2 := 60) (L2 := [(2, v0), (1, v1), (8, 0), (1, v3), (8, 0), (1, v5), (8, 0), (1, v7), (8, 0), (9, 0), (9, 0)]) (S2 := []) (h2 := h17) (by decide +kernel) (by subst he; rfl) (by exact hg) ?_
  clear hg he
  obtain ⟨u18, hg, he, hx⟩ := bgd hx
  refine Ev.blk (is := [.aload_n 0, .getfield 9202]) (pc2 := 64) (L2 := [(2, v0), (1, v1), (8, 0), (1, v3), (8, 0), (1, v5), (8, 0), (1, v7), (8, 0), (9, 0), (9, 0)]) (S2 := [(2, u18)]) (h2 := h17) (by decide +kernel) (by subst he; rfl) (by exact hg) ?_
  clear hg he
  obtain ⟨u19, hg, he, hx⟩ := bgd hx
  refine Ev.blk (is := [.iconst 2, .lconst 1, .lload 7, .lrem]) (pc2 := 69) (L2 := [(2, v0), (1, v1), (8, 0), (1, v3), (8, 0), (1, v5), (8, 0), (1, v7), (8, 0), (9, 0), (9, 0)]) (S2 := [(1, u19), (0, 2), (2, u18)]) (h2 := h17) (by decide +kernel) (by subst he; rfl) (by exact hg) ?_
  clear hg he
  obtain ⟨h20, hg, he, hx⟩ := bgd hx
  refine Ev.blk (is := [.lastore]) (pc2 := 70) (L2 := [(2, v0), (1, v1), (8, 0), (1, v3), (8, 0), (1, v5), (8, 0), (1, v7), (8, 0), (9, 0), (9, 0)]) (S2 := []) (h2 := h20) (by decide +kernel) (by subst he; rfl) (by exact hg) ?_
  clear hg he
  obtain ⟨u21, hg, he, hx⟩ := bgd hx
  refine Ev.blk (is := [.aload_n 0, .getfield 9202]) (pc2 := 74) (L2 := [(2, v0), (1, v1), (8, 0), (1, v3), (8, 0), (1, v5), (8, 0), (1, v7), (8, 0), (9, 0), (9, 0)]) (S2 := [(2, u21)]) (h2 := h20) (by decide +kernel) (by subst he; rfl) (by exact hg) ?_
  clear hg he
  obtain ⟨h22, hg, he, hx⟩ := bgd hx
  refine Ev.blk (is := [.iconst 3, .lconst 0, .lastore]) (pc2 := 77) (L2 := [(2, v0), (1, v1), (8, 0), (1, v3), (8, 0), (1, v5), (8, 0), (1, v7), (8, 0), (9, 0), (9, 0)]) (S2 := []) (h2 := h22) (by decide +kernel) (by subst he; rfl) (by exact hg) ?_
  clear hg he
  refine Ev.blk (is := [.lload 5, .lstore 9]) (pc2 := 81) (L2 := [(2, v0), (1, v1), (8, 0), (1, v3), (8, 0), (1, v5), (8, 0), (1, v7), (8, 0), (1, v5), (8, 0)]) (S2 := []) (h2 := h22) (by decide +kernel) rfl trivial ?_
  refine Ev.wk (L2 := [(2, v0), (9, 0), (9, 0), (9, 0), (9, 0), (9, 0), (9, 0), (1, v7), (8, 0), (1, v5), (8, 0)]) (wkL_of ⟨Or.inl rfl, ⟨Or.inr rfl, ⟨Or.inr rfl, ⟨Or.inr rfl, ⟨Or.inr rfl, ⟨Or.inr rfl, ⟨Or.inr rfl, ⟨Or.inl rfl, ⟨Or.inl rfl, ⟨Or.inl rfl, ⟨Or.inl rfl, trivial⟩⟩⟩⟩⟩⟩⟩⟩⟩⟩⟩) ?_
  exact y_R_sequence_81 hd FU v0 v7 v5 h22 _ hx
theorem y_R_wrongPair_67 {sc : AS} {d : Nat} (hd : 2 ≤ d) : ∀ (fu : Nat) (v0 : Int) (v1 : Int) (v2 : Int) (v4 : Int) (v6 : Int) (v8 : Int) (h : AH) (r : (Int × AH)), R_wrongPair_67 fu v0 v1 v2 v4 v6 v8 h = some r → Ev sc d 181 67 [(2, v0), (0, v1), (1, v2), (8, 0), (1, v4), (8, 0), (1, v6), (8, 0), (0, v8)] [] h (some (0, r.1)) r.2 := by
  intro fu
  induction fu with
  | zero => intro v0 v1 v2 v4 v6 v8 h r hx; unfold R_wrongPair_67 at hx; cases hx
  | succ fu ih =>
    intro v0 v1 v2 v4 v6 v8 h r hx
    unfold R_wrongPair_67 at hx
    obtain ⟨u1, hg, he, hx⟩ := bgd hx
    refine Ev.blk (is := [.iload 8, .aload_n 0, .getfield 9213]) (pc2 := 73) (L2 := [(2, v0), (0, v1), (1, v2), (8, 0), (1, v4), (8, 0), (1, v6), (8, 0), (0, v8)]) (S2 := [(2, u1), (0, v8)]) (h2 := h) (by decide +kernel) (by subst he; rfl) (by exact hg) ?_
    clear hg he
    obtain ⟨u2, hg, he, hx⟩ := bgd hx
    refine Ev.blk (is := [.iload_n 1, .iaload]) (pc2 := 75) (L2 := [(2, v0), (0, v1), (1, v2), (8, 0), (1, v4), (8, 0), (1, v6), (8, 0), (0, v8)]) (S2 := [(0, u2), (0, v8)]) (h2 := h) (by decide +kernel) (by subst he; rfl) (by exact hg) ?_
    clear hg he
    obtain ⟨ha, hb⟩ := bite hx
    clear hx
    refine Ev.br (i := .if_icmp .ge 49) (len := 3) (a := 78) (b := 124) (by decide +kernel) rfl Iff.rfl (fun hc => ?_) (fun hc => ?_)
    · have hx := ha hc
      clear ha hb hc
      obtain ⟨u3, hg, he, hx⟩ := bgd hx
      refine Ev.blk (is := [.aload_n 0, .lload_n 2, .lload 4, .lload 6, .lconst 1, .ladd, .aload_n 0, .getfield 9217]) (pc2 := 90) (L2 := [(2, v0), (0, v1), (1, v2), (8, 0), (1, v4), (8, 0), (1, v6), (8, 0), (0, v8)]) (S2 := [(2, u3), (1, w64 (v6 + 1)), (1, v4), (1, v2), (2, v0)]) (h2 := h) (by decide +kernel) (by subst he; rfl) (by exact hg) ?_
      clear hg he
      obtain ⟨u4, hg, he, hx⟩ := bgd hx
      refine Ev.blk (is := [.sipush 9, .iload_n 1, .imul, .iload 8, .iadd, .iaload]) (pc2 := 98) (L2 := [(2, v0), (0, v1), (1, v2), (8, 0), (1, v4), (8, 0), (1, v6), (8, 0), (0, v8)]) (S2 := [(0, u4), (1, w64 (v6 + 1)), (1, v4), (1, v2), (2, v0)]) (h2 := h) (by decide +kernel) (by subst he; rfl) (by exact hg) ?_
      clear hg he
      obtain ⟨u5, hg, he, hx⟩ := bgd hx
      refine Ev.blk (is := [.i2l, .ldiv]) (pc2 := 100) (L2 := [(2, v0), (0, v1), (1, v2), (8, 0), (1, v4), (8, 0), (1, v6), (8, 0), (0, v8)]) (S2 := [(1, u5), (1, v4), (1, v2), (2, v0)]) (h2 := h) (by decide +kernel) (by subst he; rfl) (by exact hg) ?_
      clear hg he
      refine Ev.blk (is := [.lload 6]) (pc2 := 102) (L2 := [(2, v0), (0, v1), (1, v2), (8, 0), (1, v4), (8, 0), (1, v6), (8, 0), (0, v8)]) (S2 := [(1, v6), (1, u5), (1, v4), (1, v2), (2, v0)]) (h2 := h) (by decide +kernel) rfl trivial ?_
      obtain ⟨_, hg, -, hx⟩ := bgd hx
      obtain ⟨u6, hc, hx⟩ := bca hx
      refine Ev.call (args := [(2, v0), (1, v2), (1, v4), (1, u5), (1, v6)]) (S2 := []) (r1 := (some (1, u6.1))) (h1 := u6.2) (i := .invokevirtual 183) (by decide +kernel) rfl rfl (Nat.le_of_ble_eq_true rfl) (Or.inr (Or.inl ⟨rfl, hg, by decide +kernel⟩)) (x_R_sequence (by omega) hc) ?_
      refine Ev.blk (is := [.lload 6]) (pc2 := 107) (L2 := [(2, v0), (0, v1), (1, v2), (8, 0), (1, v4), (8, 0), (1, v6), (8, 0), (0, v8)]) (S2 := [(1, v6), (1, u6.1)]) (h2 := u6.2) (by decide +kernel) rfl trivial ?_
      obtain ⟨u7, hc, hx⟩ := bca hx
      refine Ev.call (args := [(1, u6.1), (1, v6)]) (S2 := []) (r1 := (some (1, u7))) (h1 := u6.2) (i := .invokestatic 176) (by decide +kernel) rfl rfl (Nat.le_of_ble_eq_true rfl) (Or.inl rfl) (x_R_common (by omega) hc) ?_
      refine Ev.blk (is := [.lconst 1, .lcmp]) (pc2 := 112) (L2 := [(2, v0), (0, v1), (1, v2), (8, 0), (1, v4), (8, 0), (1, v6), (8, 0), (0, v8)]) (S2 := [(0, cmpL u7 1)]) (h2 := u6.2) (by decide +kernel) rfl trivial ?_
      obtain ⟨ha, hb⟩ := bite hx
      clear hx
      refine Ev.br (i := .ifCond .eq 6) (len := 3) (a := 118) (b := 115) (by decide +kernel) rfl cmpL_eq (fun hc => ?_) (fun hc => ?_)
      · have hx := ha hc
        clear ha hb hc
        refine Ev.blk (is := [.iinc 8 1]) (pc2 := 121) (L2 := [(2, v0), (0, v1), (1, v2), (8, 0), (1, v4), (8, 0), (1, v6), (8, 0), (0, w32 (v8 + 1))]) (S2 := []) (h2 := u6.2) (by decide +kernel) rfl trivial ?_
        refine Ev.jp (i := .goto (-54)) (len := 3) (pc2 := 67) (by decide +kernel) rfl ?_
        exact ih v0 v1 v2 v4 v6 (w32 (v8 + 1)) u6.2 _ hx
      · have hx := hb hc
        clear ha hb hc
        refine Ev.blk (is := [.sipush 9]) (pc2 := 117) (L2 := [(2, v0), (0, v1), (1, v2), (8, 0), (1, v4), (8, 0), (1, v6), (8, 0), (0, v8)]) (S2 := [(0, 9)]) (h2 := u6.2) (by decide +kernel) rfl trivial ?_
        cases hx
        exact Ev.ret (i := .ireturn) (len := 1) (by decide +kernel) rfl (finOf (t := some .int) rfl (trivial))
    · have hx := hb hc
      clear ha hb hc
      refine Ev.blk (is := [.iconst 0]) (pc2 := 125) (L2 := [(2, v0), (0, v1), (1, v2), (8, 0), (1, v4), (8, 0), (1, v6), (8, 0), (0, v8)]) (S2 := [(0, 0)]) (h2 := h) (by decide +kernel) rfl trivial ?_
      cases hx
      exact Ev.ret (i := .ireturn) (len := 1) (by decide +kernel) rfl (finOf (t := some .int) rfl (trivial))
theorem x_R_wrongPair {sc : AS} {d : Nat} (hd : 3 ≤ d) {v0 : Int} {v1 : Int} {v2 : Int} {v4 : Int} {h : AH} {r : (Int × AH)} (hx : R_wrongPair v0 v1 v2 v4 h = some r) : Runs sc d 181 [(2, v0), (0, v1), (1, v2), (1, v4)] h (some (0, r.1)) r.2 := by
  obtain ⟨d, rfl⟩ : ∃ e, d = e + 1 := ⟨d - 1, by omega⟩
  have hd : 2 ≤ d := by omega
  unfold R_wrongPair at hx
  refine ⟨⟨aM_181, rfl, Nat.le_of_ble_eq_true rfl⟩, ?_⟩
  show Ev sc d 181 0 [(2, v0), (0, v1), (1, v2), (8, 0), (1, v4), (8, 0), (9, 0), (9, 0), (9, 0)] [] h (some (0, r.1)) r.2
  obtain ⟨u1, hg, he, hx⟩ := bgd hx
  refine Ev.blk (is := [.aload_n 0, .getfield 9208]) (pc2 := 4) (L2 := [(2, v0), (0, v1), (1, v2), (8, 0), (1, v4), (8, 0), (9, 0), (9, 0), (9, 0)]) (S2 := [(2, u1)]) (h2 := h) (by decide +kernel) (by subst he; rfl) (by exact hg) ?_
  clear hg he
  obtain ⟨u2, hg, he, hx⟩ := bgd hx
  refine Ev.blk (is := [.iload_n 1, .iaload]) (pc2 := 6) (L2 := [(2, v0), (0, v1), (1, v2), (8, 0), (1, v4), (8, 0), (9, 0), (9, 0), (9, 0)]) (S2 := [(0, u2)]) (h2 := h) (by decide +kernel) (by subst he; rfl) (by exact hg) ?_
  clear hg he
  refine Ev.blk (is := [.i2l, .lstore 6, .lload_n 2, .lload_n 2, .lmul, .jsr_w 4, .lload 4, .lmul, .lsub, .lload 6]) (pc2 := 21) (L2 := [(2, v0), (0, v1), (1, v2), (8, 0), (1, v4), (8, 0), (1, u2), (8, 0), (9, 0)]) (S2 := [(1, u2), (1, w64 ((w64 (v2 * v2)) - (w64 (4 * v4))))]) (h2 := h) (by decide +kernel) rfl trivial ?_
  obtain ⟨u3, hc, hx⟩ := bca hx
  refine Ev.call (args := [(1, w64 ((w64 (v2 * v2)) - (w64 (4 * v4)))), (1, u2)]) (S2 := []) (r1 := (some (0, u3))) (h1 := h) (i := .invokestatic 182) (by decide +kernel) rfl rfl (Nat.le_of_ble_eq_true rfl) (Or.inl rfl) (x_R_signOf (by omega) hc) ?_
  refine Ev.blk (is := [.iconst (-1)]) (pc2 := 25) (L2 := [(2, v0), (0, v1), (1, v2), (8, 0), (1, v4), (8, 0), (1, u2), (8, 0), (9, 0)]) (S2 := [(0, (-1)), (0, u3)]) (h2 := h) (by decide +kernel) rfl trivial ?_
  obtain ⟨ha, hb⟩ := bite hx
  clear hx
  refine Ev.br (i := .if_icmp .ne 15) (len := 3) (a := 28) (b := 40) (by decide +kernel) rfl Iff.rfl (fun hc => ?_) (fun hc => ?_)
  · have hx := ha hc
    clear ha hb hc
    refine Ev.blk (is := [.lload 4, .lload 6]) (pc2 := 32) (L2 := [(2, v0), (0, v1), (1, v2), (8, 0), (1, v4), (8, 0), (1, u2), (8, 0), (9, 0)]) (S2 := [(1, u2), (1, v4)]) (h2 := h) (by decide +kernel) rfl trivial ?_
    obtain ⟨u4, hc, hx⟩ := bca hx
    refine Ev.call (args := [(1, v4), (1, u2)]) (S2 := []) (r1 := (some (1, u4))) (h1 := h) (i := .invokestatic 176) (by decide +kernel) rfl rfl (Nat.le_of_ble_eq_true rfl) (Or.inl rfl) (x_R_common (by omega) hc) ?_
    refine Ev.blk (is := [.lconst 1, .lcmp]) (pc2 := 37) (L2 := [(2, v0), (0, v1), (1, v2), (8, 0), (1, v4), (8, 0), (1, u2), (8, 0), (9, 0)]) (S2 := [(0, cmpL u4 1)]) (h2 := h) (by decide +kernel) rfl trivial ?_
    obtain ⟨ha, hb⟩ := bite hx
    clear hx
    refine Ev.br (i := .ifCond .eq 6) (len := 3) (a := 43) (b := 40) (by decide +kernel) rfl cmpL_eq (fun hc => ?_) (fun hc => ?_)
    · have hx := ha hc
      clear ha hb hc
      refine Ev.blk (is := [.aload_n 0, .lload_n 2, .lload 4, .lload 6, .lconst 1, .ladd, .lload 6]) (pc2 := 53) (L2 := [(2, v0), (0, v1), (1, v2), (8, 0), (1, v4), (8, 0), (1, u2), (8, 0), (9, 0)]) (S2 := [(1, u2), (1, w64 (u2 + 1)), (1, v4), (1, v2), (2, v0)]) (h2 := h) (by decide +kernel) rfl trivial ?_
      obtain ⟨_, hg, -, hx⟩ := bgd hx
      obtain ⟨u5, hc, hx⟩ := bca hx
      refine Ev.call (args := [(2, v0), (1, v2), (1, v4), (1, w64 (u2 + 1)), (1, u2)]) (S2 := []) (r1 := (some (1, u5.1))) (h1 := u5.2) (i := .invokevirtual 183) (by decide +kernel) rfl rfl (Nat.le_of_ble_eq_true rfl) (Or.inr (Or.inl ⟨rfl, hg, by decide +kernel⟩)) (x_R_sequence (by omega) hc) ?_
      refine Ev.blk (is := [.lconst 0, .lcmp]) (pc2 := 58) (L2 := [(2, v0), (0, v1), (1, v2), (8, 0), (1, v4), (8, 0), (1, u2), (8, 0), (9, 0)]) (S2 := [(0, cmpL u5.1 0)]) (h2 := u5.2) (by decide +kernel) rfl trivial ?_
      obtain ⟨ha, hb⟩ := bite hx
      clear hx
      refine Ev.br (i := .ifCond .eq 6) (len := 3) (a := 64) (b := 61) (by decide +kernel) rfl cmpL_eq (fun hc => ?_) (fun hc => ?_)
      · have hx := ha hc
        clear ha hb hc
        refine Ev.blk (is := [.iconst 0, .istore 8]) (pc2 := 67) (L2 := [(2, v0), (0, v1), (1, v2), (8, 0), (1, v4), (8, 0), (1, u2), (8, 0), (0, 0)]) (S2 := []) (h2 := u5.2) (by decide +kernel) rfl trivial ?_
        exact y_R_wrongPair_67 hd FU v0 v1 v2 v4 u2 0 u5.2 _ hx
      · have hx := hb hc
        clear ha hb hc
        refine Ev.blk (is := [.sipush 8]) (pc2 := 63) (L2 := [(2, v0), (0, v1), (1, v2), (8, 0), (1, v4), (8, 0), (1, u2), (8, 0), (9, 0)]) (S2 := [(0, 8)]) (h2 := u5.2) (by decide +kernel) rfl trivial ?_
        cases hx
        exact Ev.ret (i := .ireturn) (len := 1) (by decide +kernel) rfl (finOf (t := some .int) rfl (trivial))
    · have hx := hb hc
      clear ha hb hc
      refine Ev.blk (is := [.sipush 7]) (pc2 := 42) (L2 := [(2, v0), (0, v1), (1, v2), (8, 0), (1, v4), (8, 0), (1, u2), (8, 0), (9, 0)]) (S2 := [(0, 7)]) (h2 := h) (by decide +kernel) rfl trivial ?_
      cases hx
      exact Ev.ret (i := .ireturn) (len := 1) (by decide +kernel) rfl (finOf (t := some .int) rfl (trivial))
  · have hx := hb hc
    clear ha hb hc
    refine Ev.blk (is := [.sipush 7]) (pc2 := 42) (L2 := [(2, v0), (0, v1), (1, v2), (8, 0), (1, v4), (8, 0), (1, u2), (8, 0), (9, 0)]) (S2 := [(0, 7)]) (h2 := h) (by decide +kernel) rfl trivial ?_
    cases hx
    exact Ev.ret (i := .ireturn) (len := 1) (by decide +kernel) rfl (finOf (t := some .int) rfl (trivial))
theorem y_R_faultOf_198 {sc : AS} {d : Nat} (hd : 3 ≤ d) : ∀ (fu : Nat) (v0 : Int) (v1 : Int) (v2 : Int) (v3 : Int) (v4 : Int) (v5 : Int) (h : AH) (r : (Int × AH)), R_faultOf_198 fu v0 v1 v2 v3 v4 v5 h = some r → Ev sc d 165 198 [(2, v0), (0, v1), (0, v2), (0, v3), (0, v4), (0, v5)] [] h (some (0, r.1)) r.2 := by
  intro fu
  induction fu with
  | zero => intro v0 v1 v2 v3 v4 v5 h r hx; unfold R_faultOf_198 at hx; cases hx
  | succ fu ih =>
    intro v0 v1 v2 v3 v4 v5 h r hx
    unfold R_faultOf_198 at hx
    obtain ⟨u1, hg, he, hx⟩ := bgd hx
    refine Ev.blk (is := [.iload 5, .iload 4, .aload_n 0, .getfield 9212]) (pc2 := 206) (L2 := [(2, v0), (0, v1), (0, v2), (0, v3), (0, v4), (0, v5)]) (S2 := [(2, u1), (0, v4), (0, v5)]) (h2 := h) (by decide +kernel) (by subst he; rfl) (by exact hg) ?_
    clear hg he
    obtain ⟨u2, hg, he, hx⟩ := bgd hx
    refine Ev.blk (is := [.iload_n 1, .iaload]) (pc2 := 208) (L2 := [(2, v0), (0, v1), (0, v2), (0, v3), (0, v4), (0, v5)]) (S2 := [(0, u2), (0, v4), (0, v5)]) (h2 := h) (by decide +kernel) (by subst he; rfl) (by exact hg) ?_
    clear hg he
    refine Ev.blk (is := [.iadd]) (pc2 := 209) (L2 := [(2, v0), (0, v1), (0, v2), (0, v3), (0, v4), (0, v5)]) (S2 := [(0, w32 (v4 + u2)), (0, v5)]) (h2 := h) (by decide +kernel) rfl trivial ?_
    obtain ⟨ha, hb⟩ := bite hx
    clear hx
    refine Ev.br (i := .if_icmp .ge 36) (len := 3) (a := 212) (b := 245) (by decide +kernel) rfl Iff.rfl (fun hc => ?_) (fun hc => ?_)
    · have hx := ha hc
      clear ha hb hc
      obtain ⟨u3, hg, he, hx⟩ := bgd hx
      refine Ev.blk (is := [.iload_n 2, .i2l, .aload_n 0, .getfield 9216]) (pc2 := 218) (L2 := [(2, v0), (0, v1), (0, v2), (0, v3), (0, v4), (0, v5)]) (S2 := [(2, u3), (1, v2)]) (h2 := h) (by decide +kernel) (by subst he; rfl) (by exact hg) ?_
      clear hg he
      obtain ⟨u4, hg, he, hx⟩ := bgd hx
      refine Ev.blk (is := [.iload 5, .iaload]) (pc2 := 221) (L2 := [(2, v0), (0, v1), (0, v2), (0, v3), (0, v4), (0, v5)]) (S2 := [(0, u4), (1, v2)]) (h2 := h) (by decide +kernel) (by subst he; rfl) (by exact hg) ?_
      clear hg he
      obtain ⟨u5, hg, he, hx⟩ := bgd hx
      refine Ev.blk (is := [.i2l, .aload_n 0, .getfield 9214]) (pc2 := 226) (L2 := [(2, v0), (0, v1), (0, v2), (0, v3), (0, v4), (0, v5)]) (S2 := [(2, u5), (1, u4), (1, v2)]) (h2 := h) (by decide +kernel) (by subst he; rfl) (by exact hg) ?_
      clear hg he
      obtain ⟨u6, hg, he, hx⟩ := bgd hx
      refine Ev.blk (is := [.iload 5, .iaload]) (pc2 := 229) (L2 := [(2, v0), (0, v1), (0, v2), (0, v3), (0, v4), (0, v5)]) (S2 := [(0, u6), (1, u4), (1, v2)]) (h2 := h) (by decide +kernel) (by subst he; rfl) (by exact hg) ?_
      clear hg he
      refine Ev.blk (is := [.i2l]) (pc2 := 230) (L2 := [(2, v0), (0, v1), (0, v2), (0, v3), (0, v4), (0, v5)]) (S2 := [(1, u6), (1, u4), (1, v2)]) (h2 := h) (by decide +kernel) rfl trivial ?_
      obtain ⟨u7, hc, hx⟩ := bca hx
      refine Ev.call (args := [(1, v2), (1, u4), (1, u6)]) (S2 := []) (r1 := (some (0, u7))) (h1 := h) (i := .invokestatic 179) (by decide +kernel) rfl rfl (Nat.le_of_ble_eq_true rfl) (Or.inl rfl) (x_R_isApartBy (by omega) hc) ?_
      obtain ⟨ha, hb⟩ := bite hx
      clear hx
      refine Ev.br (i := .ifCond .ne 6) (len := 3) (a := 236) (b := 239) (by decide +kernel) rfl Iff.rfl (fun hc => ?_) (fun hc => ?_)
      · have hx := ha hc
        clear ha hb hc
        refine Ev.blk (is := [.sipush 6]) (pc2 := 238) (L2 := [(2, v0), (0, v1), (0, v2), (0, v3), (0, v4), (0, v5)]) (S2 := [(0, 6)]) (h2 := h) (by decide +kernel) rfl trivial ?_
        cases hx
        exact Ev.ret (i := .ireturn) (len := 1) (by decide +kernel) rfl (finOf (t := some .int) rfl (trivial))
      · have hx := hb hc
        clear ha hb hc
        refine Ev.blk (is := [.iinc 5 1]) (pc2 := 242) (L2 := [(2, v0), (0, v1), (0, v2), (0, v3), (0, v4), (0, w32 (v5 + 1))]) (S2 := []) (h2 := h) (by decide +kernel) rfl trivial ?_
        refine Ev.jp (i := .goto (-44)) (len := 3) (pc2 := 198) (by decide +kernel) rfl ?_
        exact ih v0 v1 v2 v3 v4 (w32 (v5 + 1)) h _ hx
    · have hx := hb hc
      clear ha hb hc
      refine Ev.blk (is := [.iload_n 3]) (pc2 := 246) (L2 := [(2, v0), (0, v1), (0, v2), (0, v3), (0, v4), (0, v5)]) (S2 := [(0, v3)]) (h2 := h) (by decide +kernel) rfl trivial ?_
      obtain ⟨u8, hc, hx⟩ := bca hx
      refine Ev.call (args := [(0, v3)]) (S2 := []) (r1 := (some (0, u8))) (h1 := h) (i := .invokestatic 180) (by decide +kernel) rfl rfl (Nat.le_of_ble_eq_true rfl) (Or.inl rfl) (x_R_hasPair (by omega) hc) ?_
      obtain ⟨ha, hb⟩ := bite hx
      clear hx
      refine Ev.br (i := .ifCond .eq 25) (len := 3) (a := 274) (b := 252) (by decide +kernel) rfl Iff.rfl (fun hc => ?_) (fun hc => ?_)
      · have hx := ha hc
        clear ha hb hc
        refine Ev.blk (is := [.iconst 0]) (pc2 := 275) (L2 := [(2, v0), (0, v1), (0, v2), (0, v3), (0, v4), (0, v5)]) (S2 := [(0, 0)]) (h2 := h) (by decide +kernel) rfl trivial ?_
        cases hx
        exact Ev.ret (i := .ireturn) (len := 1) (by decide +kernel) rfl (finOf (t := some .int) rfl (trivial))
      · have hx := hb hc
        clear ha hb hc
        obtain ⟨u9, hg, he, hx⟩ := bgd hx
        refine Ev.blk (is := [.aload_n 0, .iload_n 1, .aload_n 0, .getfield 9210]) (pc2 := 258) (L2 := [(2, v0), (0, v1), (0, v2), (0, v3), (0, v4), (0, v5)]) (S2 := [(2, u9), (0, v1), (2, v0)]) (h2 := h) (by decide +kernel) (by subst he; rfl) (by exact hg) ?_
        clear hg he
        obtain ⟨u10, hg, he, hx⟩ := bgd hx
        refine Ev.blk (is := [.iload_n 1, .iaload]) (pc2 := 260) (L2 := [(2, v0), (0, v1), (0, v2), (0, v3), (0, v4), (0, v5)]) (S2 := [(0, u10), (0, v1), (2, v0)]) (h2 := h) (by decide +kernel) (by subst he; rfl) (by exact hg) ?_
        clear hg he
        obtain ⟨u11, hg, he, hx⟩ := bgd hx
        refine Ev.blk (is := [.i2l, .aload_n 0, .getfield 9211]) (pc2 := 265) (L2 := [(2, v0), (0, v1), (0, v2), (0, v3), (0, v4), (0, v5)]) (S2 := [(2, u11), (1, u10), (0, v1), (2, v0)]) (h2 := h) (by decide +kernel) (by subst he; rfl) (by exact hg) ?_
        clear hg he
        obtain ⟨u12, hg, he, hx⟩ := bgd hx
        refine Ev.blk (is := [.iload_n 1, .iaload]) (pc2 := 267) (L2 := [(2, v0), (0, v1), (0, v2), (0, v3), (0, v4), (0, v5)]) (S2 := [(0, u12), (1, u10), (0, v1), (2, v0)]) (h2 := h) (by decide +kernel) (by subst he; rfl) (by exact hg) ?_
        clear hg he
        refine Ev.blk (is := [.i2l]) (pc2 := 268) (L2 := [(2, v0), (0, v1), (0, v2), (0, v3), (0, v4), (0, v5)]) (S2 := [(1, u12), (1, u10), (0, v1), (2, v0)]) (h2 := h) (by decide +kernel) rfl trivial ?_
        obtain ⟨_, hg, -, hx⟩ := bgd hx
        obtain ⟨u13, hc, hx⟩ := bca hx
        refine Ev.call (args := [(2, v0), (0, v1), (1, u10), (1, u12)]) (S2 := []) (r1 := (some (0, u13.1))) (h1 := u13.2) (i := .invokevirtual 181) (by decide +kernel) rfl rfl (Nat.le_of_ble_eq_true rfl) (Or.inr (Or.inl ⟨rfl, hg, by decide +kernel⟩)) (x_R_wrongPair (by omega) hc) ?_
        refine Ev.jp (i := .goto 4) (len := 3) (pc2 := 275) (by decide +kernel) rfl ?_
        cases hx
        exact Ev.ret (i := .ireturn) (len := 1) (by decide +kernel) rfl (finOf (t := some .int) rfl (trivial))
theorem y_R_faultOf_156 {sc : AS} {d : Nat} (hd : 3 ≤ d) : ∀ (fu : Nat) (v0 : Int) (v1 : Int) (v2 : Int) (v3 : Int) (v4 : Int) (v5 : Int) (h : AH) (r : (Int × AH)), R_faultOf_156 fu v0 v1 v2 v3 v4 v5 h = some r → Ev sc d 165 156 [(2, v0), (0, v1), (0, v2), (0, v3), (0, v4), (0, v5)] [] h (some (0, r.1)) r.2 := by
  intro fu
  induction fu with
  | zero => intro v0 v1 v2 v3 v4 v5 h r hx; unfold R_faultOf_156 at hx; cases hx
  | succ fu ih =>
    intro v0 v1 v2 v3 v4 v5 h r hx
    unfold R_faultOf_156 at hx
    obtain ⟨u1, hg, he, hx⟩ := bgd hx
    refine Ev.blk (is := [.iload 5, .iload 4, .aload_n 0, .getfield 9212]) (pc2 := 164) (L2 := [(2, v0), (0, v1), (0, v2), (0, v3), (0, v4), (0, v5)]) (S2 := [(2, u1), (0, v4), (0, v5)]) (h2 := h) (by decide +kernel) (by subst he; rfl) (by exact hg) ?_
    clear hg he
    obtain ⟨u2, hg, he, hx⟩ := bgd hx
    refine Ev.blk (is := [.iload_n 1, .iaload]) (pc2 := 166) (L2 := [(2, v0), (0, v1), (0, v2), (0, v3), (0, v4), (0, v5)]) (S2 := [(0, u2), (0, v4), (0, v5)]) (h2 := h) (by decide +kernel) (by subst he; rfl) (by exact hg) ?_
    clear hg he
    refine Ev.blk (is := [.iadd]) (pc2 := 167) (L2 := [(2, v0), (0, v1), (0, v2), (0, v3), (0, v4), (0, v5)]) (S2 := [(0, w32 (v4 + u2)), (0, v5)]) (h2 := h) (by decide +kernel) rfl trivial ?_
    obtain ⟨ha, hb⟩ := bite hx
    clear hx
    refine Ev.br (i := .if_icmp .ge 27) (len := 3) (a := 170) (b := 194) (by decide +kernel) rfl Iff.rfl (fun hc => ?_) (fun hc => ?_)
    · have hx := ha hc
      clear ha hb hc
      obtain ⟨u3, hg, he, hx⟩ := bgd hx
      refine Ev.blk (is := [.iload_n 2, .i2l, .aload_n 0, .getfield 9216]) (pc2 := 176) (L2 := [(2, v0), (0, v1), (0, v2), (0, v3), (0, v4), (0, v5)]) (S2 := [(2, u3), (1, v2)]) (h2 := h) (by decide +kernel) (by subst he; rfl) (by exact hg) ?_
      clear hg he
      obtain ⟨u4, hg, he, hx⟩ := bgd hx
      refine Ev.blk (is := [.iload 5, .iaload]) (pc2 := 179) (L2 := [(2, v0), (0, v1), (0, v2), (0, v3), (0, v4), (0, v5)]) (S2 := [(0, u4), (1, v2)]) (h2 := h) (by decide +kernel) (by subst he; rfl) (by exact hg) ?_
      clear hg he
      refine Ev.blk (is := [.i2l]) (pc2 := 180) (L2 := [(2, v0), (0, v1), (0, v2), (0, v3), (0, v4), (0, v5)]) (S2 := [(1, u4), (1, v2)]) (h2 := h) (by decide +kernel) rfl trivial ?_
      obtain ⟨u5, hc, hx⟩ := bca hx
      refine Ev.call (args := [(1, v2), (1, u4)]) (S2 := []) (r1 := (some (0, u5))) (h1 := h) (i := .invokestatic 177) (by decide +kernel) rfl rfl (Nat.le_of_ble_eq_true rfl) (Or.inl rfl) (x_R_isOneBy (by omega) hc) ?_
      obtain ⟨ha, hb⟩ := bite hx
      clear hx
      refine Ev.br (i := .ifCond .ne 5) (len := 3) (a := 186) (b := 188) (by decide +kernel) rfl Iff.rfl (fun hc => ?_) (fun hc => ?_)
      · have hx := ha hc
        clear ha hb hc
        refine Ev.blk (is := [.iconst 5]) (pc2 := 187) (L2 := [(2, v0), (0, v1), (0, v2), (0, v3), (0, v4), (0, v5)]) (S2 := [(0, 5)]) (h2 := h) (by decide +kernel) rfl trivial ?_
        cases hx
        exact Ev.ret (i := .ireturn) (len := 1) (by decide +kernel) rfl (finOf (t := some .int) rfl (trivial))
      · have hx := hb hc
        clear ha hb hc
        refine Ev.blk (is := [.iinc 5 1]) (pc2 := 191) (L2 := [(2, v0), (0, v1), (0, v2), (0, v3), (0, v4), (0, w32 (v5 + 1))]) (S2 := []) (h2 := h) (by decide +kernel) rfl trivial ?_
        refine Ev.jp (i := .goto (-35)) (len := 3) (pc2 := 156) (by decide +kernel) rfl ?_
        exact ih v0 v1 v2 v3 v4 (w32 (v5 + 1)) h _ hx
    · have hx := hb hc
      clear ha hb hc
      refine Ev.blk (is := [.iload 4, .istore 5]) (pc2 := 198) (L2 := [(2, v0), (0, v1), (0, v2), (0, v3), (0, v4), (0, v4)]) (S2 := []) (h2 := h) (by decide +kernel) rfl trivial ?_
      exact y_R_faultOf_198 hd FU v0 v1 v2 v3 v4 v4 h _ hx
theorem x_R_faultOf {sc : AS} {d : Nat} (hd : 4 ≤ d) {v0 : Int} {v1 : Int} {h : AH} {r : (Int × AH)} (hx : R_faultOf v0 v1 h = some r) : Runs sc d 165 [(2, v0), (0, v1)] h (some (0, r.1)) r.2 := by
  obtain ⟨d, rfl⟩ : ∃ e, d = e + 1 := ⟨d - 1, by omega⟩
  have hd : 3 ≤ d := by omega
  unfold R_faultOf at hx
  refine ⟨⟨aM_165, rfl, Nat.le_of_ble_eq_true rfl⟩, ?_⟩
  show Ev sc d 165 0 [(2, v0), (0, v1), (9, 0), (9, 0), (9, 0), (9, 0)] [] h (some (0, r.1)) r.2
  obtain ⟨u1, hg, he, hx⟩ := bgd hx
  refine Ev.blk (is := [.aload_n 0, .getfield 9208]) (pc2 := 4) (L2 := [(2, v0), (0, v1), (9, 0), (9, 0), (9, 0), (9, 0)]) (S2 := [(2, u1)]) (h2 := h) (by decide +kernel) (by subst he; rfl) (by exact hg) ?_
  clear hg he
  obtain ⟨u2, hg, he, hx⟩ := bgd hx
  refine Ev.blk (is := [.iload_n 1, .iaload]) (pc2 := 6) (L2 := [(2, v0), (0, v1), (9, 0), (9, 0), (9, 0), (9, 0)]) (S2 := [(0, u2)]) (h2 := h) (by decide +kernel) (by subst he; rfl) (by exact hg) ?_
  clear hg he
  obtain ⟨u3, hg, he, hx⟩ := bgd hx
  refine Ev.blk (is := [.istore_n 2, .aload_n 0, .getfield 9209]) (pc2 := 11) (L2 := [(2, v0), (0, v1), (0, u2), (9, 0), (9, 0), (9, 0)]) (S2 := [(2, u3)]) (h2 := h) (by decide +kernel) (by subst he; rfl) (by exact hg) ?_
  clear hg he
  obtain ⟨u4, hg, he, hx⟩ := bgd hx
  refine Ev.blk (is := [.iload_n 1, .iaload]) (pc2 := 13) (L2 := [(2, v0), (0, v1), (0, u2), (9, 0), (9, 0), (9, 0)]) (S2 := [(0, u4)]) (h2 := h) (by decide +kernel) (by subst he; rfl) (by exact hg) ?_
  clear hg he
  refine Ev.blk (is := [.istore_n 3, .iload_n 3]) (pc2 := 15) (L2 := [(2, v0), (0, v1), (0, u2), (0, u4), (9, 0), (9, 0)]) (S2 := [(0, u4)]) (h2 := h) (by decide +kernel) rfl trivial ?_
  obtain ⟨ha, hb⟩ := bite hx
  clear hx
  refine Ev.br (i := .ifCond .ne 23) (len := 3) (a := 18) (b := 38) (by decide +kernel) rfl Iff.rfl (fun hc => ?_) (fun hc => ?_)
  · have hx := ha hc
    clear ha hb hc
    refine Ev.blk (is := [.iload_n 2, .sipush 100]) (pc2 := 21) (L2 := [(2, v0), (0, v1), (0, u2), (0, u4), (9, 0), (9, 0)]) (S2 := [(0, 100), (0, u2)]) (h2 := h) (by decide +kernel) rfl trivial ?_
    obtain ⟨ha, hb⟩ := bite hx
    clear hx
    refine Ev.br (i := .if_icmp .ge 15) (len := 3) (a := 24) (b := 36) (by decide +kernel) rfl Iff.rfl (fun hc => ?_) (fun hc => ?_)
    · have hx := ha hc
      clear ha hb hc
      refine Ev.blk (is := [.iload_n 2, .i2l]) (pc2 := 26) (L2 := [(2, v0), (0, v1), (0, u2), (0, u4), (9, 0), (9, 0)]) (S2 := [(1, u2)]) (h2 := h) (by decide +kernel) rfl trivial ?_
      obtain ⟨u5, hc, hx⟩ := bca hx
      refine Ev.call (args := [(1, u2)]) (S2 := []) (r1 := (some (0, u5))) (h1 := h) (i := .invokestatic 166) (by decide +kernel) rfl rfl (Nat.le_of_ble_eq_true rfl) (Or.inl rfl) (x_R_isPrime (by omega) hc) ?_
      obtain ⟨ha, hb⟩ := bite hx
      clear hx
      refine Ev.br (i := .ifCond .eq 7) (len := 3) (a := 36) (b := 32) (by decide +kernel) rfl Iff.rfl (fun hc => ?_) (fun hc => ?_)
      · have hx := ha hc
        clear ha hb hc
        refine Ev.blk (is := [.iconst 1]) (pc2 := 37) (L2 := [(2, v0), (0, v1), (0, u2), (0, u4), (9, 0), (9, 0)]) (S2 := [(0, 1)]) (h2 := h) (by decide +kernel) rfl trivial ?_
        cases hx
        exact Ev.ret (i := .ireturn) (len := 1) (by decide +kernel) rfl (finOf (t := some .int) rfl (trivial))
      · have hx := hb hc
        clear ha hb hc
        refine Ev.blk (is := [.iconst 0]) (pc2 := 33) (L2 := [(2, v0), (0, v1), (0, u2), (0, u4), (9, 0), (9, 0)]) (S2 := [(0, 0)]) (h2 := h) (by decide +kernel) rfl trivial ?_
        refine Ev.jp (i := .goto 4) (len := 3) (pc2 := 37) (by decide +kernel) rfl ?_
        cases hx
        exact Ev.ret (i := .ireturn) (len := 1) (by decide +kernel) rfl (finOf (t := some .int) rfl (trivial))
    · have hx := hb hc
      clear ha hb hc
      refine Ev.blk (is := [.iconst 1]) (pc2 := 37) (L2 := [(2, v0), (0, v1), (0, u2), (0, u4), (9, 0), (9, 0)]) (S2 := [(0, 1)]) (h2 := h) (by decide +kernel) rfl trivial ?_
      cases hx
      exact Ev.ret (i := .ireturn) (len := 1) (by decide +kernel) rfl (finOf (t := some .int) rfl (trivial))
  · have hx := hb hc
    clear ha hb hc
    obtain ⟨u6, hg, he, hx⟩ := bgd hx
    refine Ev.blk (is := [.iload_n 2, .iconst 2, .irem]) (pc2 := 41) (L2 := [(2, v0), (0, v1), (0, u2), (0, u4), (9, 0), (9, 0)]) (S2 := [(0, u6)]) (h2 := h) (by decide +kernel) (by subst he; rfl) (by exact hg) ?_
    clear hg he
    obtain ⟨ha, hb⟩ := bite hx
    clear hx
    refine Ev.br (i := .ifCond .ne 5) (len := 3) (a := 44) (b := 46) (by decide +kernel) rfl Iff.rfl (fun hc => ?_) (fun hc => ?_)
    · have hx := ha hc
      clear ha hb hc
      refine Ev.blk (is := [.iconst 1]) (pc2 := 45) (L2 := [(2, v0), (0, v1), (0, u2), (0, u4), (9, 0), (9, 0)]) (S2 := [(0, 1)]) (h2 := h) (by decide +kernel) rfl trivial ?_
      cases hx
      exact Ev.ret (i := .ireturn) (len := 1) (by decide +kernel) rfl (finOf (t := some .int) rfl (trivial))
    · have hx := hb hc
      clear ha hb hc
      obtain ⟨u7, hg, he, hx⟩ := bgd hx
      refine Ev.blk (is := [.sipush 9, .iload_n 1, .imul, .istore 4, .aload_n 0, .getfield 9214]) (pc2 := 56) (L2 := [(2, v0), (0, v1), (0, u2), (0, u4), (0, w32 (9 * v1)), (9, 0)]) (S2 := [(2, u7)]) (h2 := h) (by decide +kernel) (by subst he; rfl) (by exact hg) ?_
      clear hg he
      obtain ⟨u8, hg, he, hx⟩ := bgd hx
      refine Ev.blk (is := [.iload 4, .aload_n 0, .getfield 9212]) (pc2 := 62) (L2 := [(2, v0), (0, v1), (0, u2), (0, u4), (0, w32 (9 * v1)), (9, 0)]) (S2 := [(2, u8), (0, w32 (9 * v1)), (2, u7)]) (h2 := h) (by decide +kernel) (by subst he; rfl) (by exact hg) ?_
      clear hg he
      obtain ⟨u9, hg, he, hx⟩ := bgd hx
      refine Ev.blk (is := [.iload_n 1, .iaload]) (pc2 := 64) (L2 := [(2, v0), (0, v1), (0, u2), (0, u4), (0, w32 (9 * v1)), (9, 0)]) (S2 := [(0, u9), (0, w32 (9 * v1)), (2, u7)]) (h2 := h) (by decide +kernel) (by subst he; rfl) (by exact hg) ?_
      clear hg he
      obtain ⟨u10, hc, hx⟩ := bca hx
      refine Ev.call (args := [(2, u7), (0, w32 (9 * v1)), (0, u9)]) (S2 := []) (r1 := (some (0, u10))) (h1 := h) (i := .invokestatic 167) (by decide +kernel) rfl rfl (Nat.le_of_ble_eq_true rfl) (Or.inl rfl) (x_R_areTwice (by omega) hc) ?_
      obtain ⟨ha, hb⟩ := bite hx
      clear hx
      refine Ev.br (i := .ifCond .ne 21) (len := 3) (a := 70) (b := 88) (by decide +kernel) rfl Iff.rfl (fun hc => ?_) (fun hc => ?_)
      · have hx := ha hc
        clear ha hb hc
        obtain ⟨u11, hg, he, hx⟩ := bgd hx
        refine Ev.blk (is := [.aload_n 0, .getfield 9217]) (pc2 := 74) (L2 := [(2, v0), (0, v1), (0, u2), (0, u4), (0, w32 (9 * v1)), (9, 0)]) (S2 := [(2, u11)]) (h2 := h) (by decide +kernel) (by subst he; rfl) (by exact hg) ?_
        clear hg he
        obtain ⟨u12, hg, he, hx⟩ := bgd hx
        refine Ev.blk (is := [.iload 4, .aload_n 0, .getfield 9213]) (pc2 := 80) (L2 := [(2, v0), (0, v1), (0, u2), (0, u4), (0, w32 (9 * v1)), (9, 0)]) (S2 := [(2, u12), (0, w32 (9 * v1)), (2, u11)]) (h2 := h) (by decide +kernel) (by subst he; rfl) (by exact hg) ?_
        clear hg he
        obtain ⟨u13, hg, he, hx⟩ := bgd hx
        refine Ev.blk (is := [.iload_n 1, .iaload]) (pc2 := 82) (L2 := [(2, v0), (0, v1), (0, u2), (0, u4), (0, w32 (9 * v1)), (9, 0)]) (S2 := [(0, u13), (0, w32 (9 * v1)), (2, u11)]) (h2 := h) (by decide +kernel) (by subst he; rfl) (by exact hg) ?_
        clear hg he
        obtain ⟨u14, hc, hx⟩ := bca hx
        refine Ev.call (args := [(2, u11), (0, w32 (9 * v1)), (0, u13)]) (S2 := []) (r1 := (some (0, u14))) (h1 := h) (i := .invokestatic 167) (by decide +kernel) rfl rfl (Nat.le_of_ble_eq_true rfl) (Or.inl rfl) (x_R_areTwice (by omega) hc) ?_
        obtain ⟨ha, hb⟩ := bite hx
        clear hx
        refine Ev.br (i := .ifCond .eq 5) (len := 3) (a := 90) (b := 88) (by decide +kernel) rfl Iff.rfl (fun hc => ?_) (fun hc => ?_)
        · have hx := ha hc
          clear ha hb hc
          obtain ⟨u15, hg, he, hx⟩ := bgd hx
          refine Ev.blk (is := [.aload_n 0, .aload_n 0, .getfield 9214]) (pc2 := 95) (L2 := [(2, v0), (0, v1), (0, u2), (0, u4), (0, w32 (9 * v1)), (9, 0)]) (S2 := [(2, u15), (2, v0)]) (h2 := h) (by decide +kernel) (by subst he; rfl) (by exact hg) ?_
          clear hg he
          obtain ⟨u16, hg, he, hx⟩ := bgd hx
          refine Ev.blk (is := [.iload 4, .aload_n 0, .getfield 9212]) (pc2 := 101) (L2 := [(2, v0), (0, v1), (0, u2), (0, u4), (0, w32 (9 * v1)), (9, 0)]) (S2 := [(2, u16), (0, w32 (9 * v1)), (2, u15), (2, v0)]) (h2 := h) (by decide +kernel) (by subst he; rfl) (by exact hg) ?_
          clear hg he
          obtain ⟨u17, hg, he, hx⟩ := bgd hx
          refine Ev.blk (is := [.iload_n 1, .iaload]) (pc2 := 103) (L2 := [(2, v0), (0, v1), (0, u2), (0, u4), (0, w32 (9 * v1)), (9, 0)]) (S2 := [(0, u17), (0, w32 (9 * v1)), (2, u15), (2, v0)]) (h2 := h) (by decide +kernel) (by subst he; rfl) (by exact hg) ?_
          clear hg he
          refine Ev.blk (is := [.iload_n 1]) (pc2 := 104) (L2 := [(2, v0), (0, v1), (0, u2), (0, u4), (0, w32 (9 * v1)), (9, 0)]) (S2 := [(0, v1), (0, u17), (0, w32 (9 * v1)), (2, u15), (2, v0)]) (h2 := h) (by decide +kernel) rfl trivial ?_
          obtain ⟨_, hg, -, hx⟩ := bgd hx
          obtain ⟨u18, hc, hx⟩ := bca hx
          refine Ev.call (args := [(2, v0), (2, u15), (0, w32 (9 * v1)), (0, u17), (0, v1)]) (S2 := []) (r1 := (some (0, u18))) (h1 := h) (i := .invokevirtual 168) (by decide +kernel) rfl rfl (Nat.le_of_ble_eq_true rfl) (Or.inr (Or.inl ⟨rfl, hg, by decide +kernel⟩)) (x_R_hasAll (by omega) hc) ?_
          obtain ⟨ha, hb⟩ := bite hx
          clear hx
          refine Ev.br (i := .ifCond .eq 23) (len := 3) (a := 130) (b := 110) (by decide +kernel) rfl Iff.rfl (fun hc => ?_) (fun hc => ?_)
          · have hx := ha hc
            clear ha hb hc
            refine Ev.blk (is := [.iconst 2]) (pc2 := 131) (L2 := [(2, v0), (0, v1), (0, u2), (0, u4), (0, w32 (9 * v1)), (9, 0)]) (S2 := [(0, 2)]) (h2 := h) (by decide +kernel) rfl trivial ?_
            cases hx
            exact Ev.ret (i := .ireturn) (len := 1) (by decide +kernel) rfl (finOf (t := some .int) rfl (trivial))
          · have hx := hb hc
            clear ha hb hc
            obtain ⟨u19, hg, he, hx⟩ := bgd hx
            refine Ev.blk (is := [.aload_n 0, .aload_n 0, .getfield 9217]) (pc2 := 115) (L2 := [(2, v0), (0, v1), (0, u2), (0, u4), (0, w32 (9 * v1)), (9, 0)]) (S2 := [(2, u19), (2, v0)]) (h2 := h) (by decide +kernel) (by subst he; rfl) (by exact hg) ?_
            clear hg he
            obtain ⟨u20, hg, he, hx⟩ := bgd hx
            refine Ev.blk (is := [.iload 4, .aload_n 0, .getfield 9213]) (pc2 := 121) (L2 := [(2, v0), (0, v1), (0, u2), (0, u4), (0, w32 (9 * v1)), (9, 0)]) (S2 := [(2, u20), (0, w32 (9 * v1)), (2, u19), (2, v0)]) (h2 := h) (by decide +kernel) (by subst he; rfl) (by exact hg) ?_
            clear hg he
            obtain ⟨u21, hg, he, hx⟩ := bgd hx
            refine Ev.blk (is := [.iload_n 1, .iaload]) (pc2 := 123) (L2 := [(2, v0), (0, v1), (0, u2), (0, u4), (0, w32 (9 * v1)), (9, 0)]) (S2 := [(0, u21), (0, w32 (9 * v1)), (2, u19), (2, v0)]) (h2 := h) (by decide +kernel) (by subst he; rfl) (by exact hg) ?_
            clear hg he
            refine Ev.blk (is := [.iload_n 1]) (pc2 := 124) (L2 := [(2, v0), (0, v1), (0, u2), (0, u4), (0, w32 (9 * v1)), (9, 0)]) (S2 := [(0, v1), (0, u21), (0, w32 (9 * v1)), (2, u19), (2, v0)]) (h2 := h) (by decide +kernel) rfl trivial ?_
            obtain ⟨_, hg, -, hx⟩ := bgd hx
            obtain ⟨u22, hc, hx⟩ := bca hx
            refine Ev.call (args := [(2, v0), (2, u19), (0, w32 (9 * v1)), (0, u21), (0, v1)]) (S2 := []) (r1 := (some (0, u22))) (h1 := h) (i := .invokevirtual 168) (by decide +kernel) rfl rfl (Nat.le_of_ble_eq_true rfl) (Or.inr (Or.inl ⟨rfl, hg, by decide +kernel⟩)) (x_R_hasAll (by omega) hc) ?_
            obtain ⟨ha, hb⟩ := bite hx
            clear hx
            refine Ev.br (i := .ifCond .ne 5) (len := 3) (a := 130) (b := 132) (by decide +kernel) rfl Iff.rfl (fun hc => ?_) (fun hc => ?_)
            · have hx := ha hc
              clear ha hb hc
              refine Ev.blk (is := [.iconst 2]) (pc2 := 131) (L2 := [(2, v0), (0, v1), (0, u2), (0, u4), (0, w32 (9 * v1)), (9, 0)]) (S2 := [(0, 2)]) (h2 := h) (by decide +kernel) rfl trivial ?_
              cases hx
              exact Ev.ret (i := .ireturn) (len := 1) (by decide +kernel) rfl (finOf (t := some .int) rfl (trivial))
            · have hx := hb hc
              clear ha hb hc
              refine Ev.blk (is := [.aload_n 0, .iload_n 1]) (pc2 := 134) (L2 := [(2, v0), (0, v1), (0, u2), (0, u4), (0, w32 (9 * v1)), (9, 0)]) (S2 := [(0, v1), (2, v0)]) (h2 := h) (by decide +kernel) rfl trivial ?_
              obtain ⟨_, hg, -, hx⟩ := bgd hx
              obtain ⟨u23, hc, hx⟩ := bca hx
              refine Ev.call (args := [(2, v0), (0, v1)]) (S2 := []) (r1 := (some (0, u23))) (h1 := h) (i := .invokevirtual 170) (by decide +kernel) rfl rfl (Nat.le_of_ble_eq_true rfl) (Or.inr (Or.inl ⟨rfl, hg, by decide +kernel⟩)) (x_R_isFit (by omega) hc) ?_
              obtain ⟨ha, hb⟩ := bite hx
              clear hx
              refine Ev.br (i := .ifCond .ne 5) (len := 3) (a := 140) (b := 142) (by decide +kernel) rfl Iff.rfl (fun hc => ?_) (fun hc => ?_)
              · have hx := ha hc
                clear ha hb hc
                refine Ev.blk (is := [.iconst 3]) (pc2 := 141) (L2 := [(2, v0), (0, v1), (0, u2), (0, u4), (0, w32 (9 * v1)), (9, 0)]) (S2 := [(0, 3)]) (h2 := h) (by decide +kernel) rfl trivial ?_
                cases hx
                exact Ev.ret (i := .ireturn) (len := 1) (by decide +kernel) rfl (finOf (t := some .int) rfl (trivial))
              · have hx := hb hc
                clear ha hb hc
                refine Ev.blk (is := [.aload_n 0, .iload_n 1]) (pc2 := 144) (L2 := [(2, v0), (0, v1), (0, u2), (0, u4), (0, w32 (9 * v1)), (9, 0)]) (S2 := [(0, v1), (2, v0)]) (h2 := h) (by decide +kernel) rfl trivial ?_
                obtain ⟨_, hg, -, hx⟩ := bgd hx
                obtain ⟨u24, hc, hx⟩ := bca hx
                refine Ev.call (args := [(2, v0), (0, v1)]) (S2 := []) (r1 := (some (0, u24))) (h1 := h) (i := .invokevirtual 174) (by decide +kernel) rfl rfl (Nat.le_of_ble_eq_true rfl) (Or.inr (Or.inl ⟨rfl, hg, by decide +kernel⟩)) (x_R_isEnough (by omega) hc) ?_
                obtain ⟨ha, hb⟩ := bite hx
                clear hx
                refine Ev.br (i := .ifCond .ne 5) (len := 3) (a := 150) (b := 152) (by decide +kernel) rfl Iff.rfl (fun hc => ?_) (fun hc => ?_)
                · have hx := ha hc
                  clear ha hb hc
                  refine Ev.blk (is := [.iconst 4]) (pc2 := 151) (L2 := [(2, v0), (0, v1), (0, u2), (0, u4), (0, w32 (9 * v1)), (9, 0)]) (S2 := [(0, 4)]) (h2 := h) (by decide +kernel) rfl trivial ?_
                  cases hx
                  exact Ev.ret (i := .ireturn) (len := 1) (by decide +kernel) rfl (finOf (t := some .int) rfl (trivial))
                · have hx := hb hc
                  clear ha hb hc
                  refine Ev.blk (is := [.iload 4, .istore 5]) (pc2 := 156) (L2 := [(2, v0), (0, v1), (0, u2), (0, u4), (0, w32 (9 * v1)), (0, w32 (9 * v1))]) (S2 := []) (h2 := h) (by decide +kernel) rfl trivial ?_
                  exact y_R_faultOf_156 hd FU v0 v1 u2 u4 (w32 (9 * v1)) (w32 (9 * v1)) h _ hx
        · have hx := hb hc
          clear ha hb hc
          refine Ev.blk (is := [.iconst 2]) (pc2 := 89) (L2 := [(2, v0), (0, v1), (0, u2), (0, u4), (0, w32 (9 * v1)), (9, 0)]) (S2 := [(0, 2)]) (h2 := h) (by decide +kernel) rfl trivial ?_
          cases hx
          exact Ev.ret (i := .ireturn) (len := 1) (by decide +kernel) rfl (finOf (t := some .int) rfl (trivial))
      · have hx := hb hc
        clear ha hb hc
        refine Ev.blk (is := [.iconst 2]) (pc2 := 89) (L2 := [(2, v0), (0, v1), (0, u2), (0, u4), (0, w32 (9 * v1)), (9, 0)]) (S2 := [(0, 2)]) (h2 := h) (by decide +kernel) rfl trivial ?_
        cases hx
        exact Ev.ret (i := .ireturn) (len := 1) (by decide +kernel) rfl (finOf (t := some .int) rfl (trivial))
theorem y_R_laysRight_2 {sc : AS} {d : Nat} (hd : 4 ≤ d) : ∀ (fu : Nat) (v0 : Int) (v1 : Int) (h : AH) (r : AH), R_laysRight_2 fu v0 v1 h = some r → Ev sc d 164 2 [(2, v0), (0, v1)] [] h none r := by
  intro fu
  induction fu with
  | zero => intro v0 v1 h r hx; unfold R_laysRight_2 at hx; cases hx
  | succ fu ih =>
    intro v0 v1 h r hx
    unfold R_laysRight_2 at hx
    obtain ⟨u1, hg, he, hx⟩ := bgd hx
    refine Ev.blk (is := [.iload_n 1, .aload_n 0, .getfield 9007]) (pc2 := 7) (L2 := [(2, v0), (0, v1)]) (S2 := [(0, u1), (0, v1)]) (h2 := h) (by decide +kernel) (by subst he; rfl) (by exact hg) ?_
    clear hg he
    obtain ⟨ha, hb⟩ := bite hx
    clear hx
    refine Ev.br (i := .if_icmp .ge 40) (len := 3) (a := 10) (b := 47) (by decide +kernel) rfl Iff.rfl (fun hc => ?_) (fun hc => ?_)
    · have hx := ha hc
      clear ha hb hc
      obtain ⟨u2, hg, he, hx⟩ := bgd hx
      refine Ev.blk (is := [.aload_n 0, .getfield 9220]) (pc2 := 14) (L2 := [(2, v0), (0, v1)]) (S2 := [(2, u2)]) (h2 := h) (by decide +kernel) (by subst he; rfl) (by exact hg) ?_
      clear hg he
      refine Ev.blk (is := [.iload_n 1, .aload_n 0, .iload_n 1]) (pc2 := 17) (L2 := [(2, v0), (0, v1)]) (S2 := [(0, v1), (2, v0), (0, v1), (2, u2)]) (h2 := h) (by decide +kernel) rfl trivial ?_
      obtain ⟨_, hg, -, hx⟩ := bgd hx
      obtain ⟨u3, hc, hx⟩ := bca hx
      refine Ev.call (args := [(2, v0), (0, v1)]) (S2 := [(0, v1), (2, u2)]) (r1 := (some (0, u3.1))) (h1 := u3.2) (i := .invokevirtual 165) (by decide +kernel) rfl rfl (Nat.le_of_ble_eq_true rfl) (Or.inr (Or.inl ⟨rfl, hg, by decide +kernel⟩)) (x_R_faultOf (by omega) hc) ?_
      obtain ⟨h4, hg, he, hx⟩ := bgd hx
      refine Ev.blk (is := [.iastore]) (pc2 := 21) (L2 := [(2, v0), (0, v1)]) (S2 := []) (h2 := h4) (by decide +kernel) (by subst he; rfl) (by exact hg) ?_
      clear hg he
      obtain ⟨u5, hg, he, hx⟩ := bgd hx
      refine Ev.blk (is := [.aload_n 0, .getfield 9219]) (pc2 := 25) (L2 := [(2, v0), (0, v1)]) (S2 := [(2, u5)]) (h2 := h4) (by decide +kernel) (by subst he; rfl) (by exact hg) ?_
      clear hg he
      obtain ⟨u6, hg, he, hx⟩ := bgd hx
      refine Ev.blk (is := [.iload_n 1, .aload_n 0, .getfield 9220]) (pc2 := 30) (L2 := [(2, v0), (0, v1)]) (S2 := [(2, u6), (0, v1), (2, u5)]) (h2 := h4) (by decide +kernel) (by subst he; rfl) (by exact hg) ?_
      clear hg he
      obtain ⟨u7, hg, he, hx⟩ := bgd hx
      refine Ev.blk (is := [.iload_n 1, .iaload]) (pc2 := 32) (L2 := [(2, v0), (0, v1)]) (S2 := [(0, u7), (0, v1), (2, u5)]) (h2 := h4) (by decide +kernel) (by subst he; rfl) (by exact hg) ?_
      clear hg he
      obtain ⟨ha, hb⟩ := bite hx
      clear hx
      refine Ev.br (i := .ifCond .ne 7) (len := 3) (a := 35) (b := 39) (by decide +kernel) rfl Iff.rfl (fun hc => ?_) (fun hc => ?_)
      · have hx := ha hc
        clear ha hb hc
        refine Ev.blk (is := [.iconst 1]) (pc2 := 36) (L2 := [(2, v0), (0, v1)]) (S2 := [(0, 1), (0, v1), (2, u5)]) (h2 := h4) (by decide +kernel) rfl trivial ?_
        refine Ev.jp (i := .goto 4) (len := 3) (pc2 := 40) (by decide +kernel) rfl ?_
        obtain ⟨h8, hg, he, hx⟩ := bgd hx
        refine Ev.blk (is := [.bastore]) (pc2 := 41) (L2 := [(2, v0), (0, v1)]) (S2 := []) (h2 := h8) (by decide +kernel) (by subst he; rfl) (by exact hg) ?_
        clear hg he
        refine Ev.blk (is := [.iinc 1 1]) (pc2 := 44) (L2 := [(2, v0), (0, w32 (v1 + 1))]) (S2 := []) (h2 := h8) (by decide +kernel) rfl trivial ?_
        refine Ev.jp (i := .goto (-42)) (len := 3) (pc2 := 2) (by decide +kernel) rfl ?_
        exact ih v0 (w32 (v1 + 1)) h8 _ hx
      · have hx := hb hc
        clear ha hb hc
        obtain ⟨h9, hg, he, hx⟩ := bgd hx
        refine Ev.blk (is := [.iconst 0, .bastore]) (pc2 := 41) (L2 := [(2, v0), (0, v1)]) (S2 := []) (h2 := h9) (by decide +kernel) (by subst he; rfl) (by exact hg) ?_
        clear hg he
        refine Ev.blk (is := [.iinc 1 1]) (pc2 := 44) (L2 := [(2, v0), (0, w32 (v1 + 1))]) (S2 := []) (h2 := h9) (by decide +kernel) rfl trivial ?_
        refine Ev.jp (i := .goto (-42)) (len := 3) (pc2 := 2) (by decide +kernel) rfl ?_
        exact ih v0 (w32 (v1 + 1)) h9 _ hx
    · have hx := hb hc
      clear ha hb hc
      cases hx
      exact Ev.ret (i := .return_) (len := 1) (by decide +kernel) rfl (finOf (t := none) rfl (trivial))
theorem x_R_laysRight {sc : AS} {d : Nat} (hd : 5 ≤ d) {v0 : Int} {h : AH} {r : AH} (hx : R_laysRight v0 h = some r) : Runs sc d 164 [(2, v0)] h none r := by
  obtain ⟨d, rfl⟩ : ∃ e, d = e + 1 := ⟨d - 1, by omega⟩
  have hd : 4 ≤ d := by omega
  unfold R_laysRight at hx
  refine ⟨⟨aM_164, rfl, Nat.le_of_ble_eq_true rfl⟩, ?_⟩
  show Ev sc d 164 0 [(2, v0), (9, 0)] [] h none r
  refine Ev.blk (is := [.iconst 0, .istore_n 1]) (pc2 := 2) (L2 := [(2, v0), (0, 0)]) (S2 := []) (h2 := h) (by decide +kernel) rfl trivial ?_
  exact y_R_laysRight_2 hd FU v0 0 h _ hx
theorem x_R_begins {sc : AS} {d : Nat} (hd : 1 ≤ d) {v0 : Int} {v1 : Int} {v2 : Int} {v3 : Int} {h : AH} {r : AH} (hx : R_begins v0 v1 v2 v3 h = some r) : Runs sc d 186 [(2, v0), (0, v1), (0, v2), (0, v3)] h none r := by
  obtain ⟨d, rfl⟩ : ∃ e, d = e + 1 := ⟨d - 1, by omega⟩
  have hd : 0 ≤ d := by omega
  unfold R_begins at hx
  refine ⟨⟨aM_186, rfl, Nat.le_of_ble_eq_true rfl⟩, ?_⟩
  show Ev sc d 186 0 [(2, v0), (0, v1), (0, v2), (0, v3)] [] h none r
  obtain ⟨u1, hg, he, hx⟩ := bgd hx
  refine Ev.blk (is := [.aload_n 0, .getfield 9208]) (pc2 := 4) (L2 := [(2, v0), (0, v1), (0, v2), (0, v3)]) (S2 := [(2, u1)]) (h2 := h) (by decide +kernel) (by subst he; rfl) (by exact hg) ?_
  clear hg he
  obtain ⟨h2, hg, he, hx⟩ := bgd hx
  refine Ev.blk (is := [.iload_n 1, .iload_n 2, .iastore]) (pc2 := 7) (L2 := [(2, v0), (0, v1), (0, v2), (0, v3)]) (S2 := []) (h2 := h2) (by decide +kernel) (by subst he; rfl) (by exact hg) ?_
  clear hg he
  obtain ⟨u3, hg, he, hx⟩ := bgd hx
  refine Ev.blk (is := [.aload_n 0, .getfield 9209]) (pc2 := 11) (L2 := [(2, v0), (0, v1), (0, v2), (0, v3)]) (S2 := [(2, u3)]) (h2 := h2) (by decide +kernel) (by subst he; rfl) (by exact hg) ?_
  clear hg he
  obtain ⟨h4, hg, he, hx⟩ := bgd hx
  refine Ev.blk (is := [.iload_n 1, .iload_n 3, .iastore]) (pc2 := 14) (L2 := [(2, v0), (0, v1), (0, v2), (0, v3)]) (S2 := []) (h2 := h4) (by decide +kernel) (by subst he; rfl) (by exact hg) ?_
  clear hg he
  obtain ⟨u5, hg, he, hx⟩ := bgd hx
  refine Ev.blk (is := [.aload_n 0, .getfield 9210]) (pc2 := 18) (L2 := [(2, v0), (0, v1), (0, v2), (0, v3)]) (S2 := [(2, u5)]) (h2 := h4) (by decide +kernel) (by subst he; rfl) (by exact hg) ?_
  clear hg he
  obtain ⟨h6, hg, he, hx⟩ := bgd hx
  refine Ev.blk (is := [.iload_n 1, .iconst 0, .iastore]) (pc2 := 21) (L2 := [(2, v0), (0, v1), (0, v2), (0, v3)]) (S2 := []) (h2 := h6) (by decide +kernel) (by subst he; rfl) (by exact hg) ?_
  clear hg he
  obtain ⟨u7, hg, he, hx⟩ := bgd hx
  refine Ev.blk (is := [.aload_n 0, .getfield 9211]) (pc2 := 25) (L2 := [(2, v0), (0, v1), (0, v2), (0, v3)]) (S2 := [(2, u7)]) (h2 := h6) (by decide +kernel) (by subst he; rfl) (by exact hg) ?_
  clear hg he
  obtain ⟨h8, hg, he, hx⟩ := bgd hx
  refine Ev.blk (is := [.iload_n 1, .iconst 0, .iastore]) (pc2 := 28) (L2 := [(2, v0), (0, v1), (0, v2), (0, v3)]) (S2 := []) (h2 := h8) (by decide +kernel) (by subst he; rfl) (by exact hg) ?_
  clear hg he
  obtain ⟨u9, hg, he, hx⟩ := bgd hx
  refine Ev.blk (is := [.aload_n 0, .getfield 9212]) (pc2 := 32) (L2 := [(2, v0), (0, v1), (0, v2), (0, v3)]) (S2 := [(2, u9)]) (h2 := h8) (by decide +kernel) (by subst he; rfl) (by exact hg) ?_
  clear hg he
  obtain ⟨h10, hg, he, hx⟩ := bgd hx
  refine Ev.blk (is := [.iload_n 1, .iconst 0, .iastore]) (pc2 := 35) (L2 := [(2, v0), (0, v1), (0, v2), (0, v3)]) (S2 := []) (h2 := h10) (by decide +kernel) (by subst he; rfl) (by exact hg) ?_
  clear hg he
  obtain ⟨u11, hg, he, hx⟩ := bgd hx
  refine Ev.blk (is := [.aload_n 0, .getfield 9213]) (pc2 := 39) (L2 := [(2, v0), (0, v1), (0, v2), (0, v3)]) (S2 := [(2, u11)]) (h2 := h10) (by decide +kernel) (by subst he; rfl) (by exact hg) ?_
  clear hg he
  obtain ⟨h12, hg, he, hx⟩ := bgd hx
  refine Ev.blk (is := [.iload_n 1, .iconst 0, .iastore]) (pc2 := 42) (L2 := [(2, v0), (0, v1), (0, v2), (0, v3)]) (S2 := []) (h2 := h12) (by decide +kernel) (by subst he; rfl) (by exact hg) ?_
  clear hg he
  cases hx
  exact Ev.ret (i := .return_) (len := 1) (by decide +kernel) rfl (finOf (t := none) rfl (trivial))
theorem y_R_laysFactors_56 {sc : AS} {d : Nat} (hd : 0 ≤ d) {k12 : Int → Int → Int → AH → Option AH} (hk12 : ∀ (v0 : Int) (v3 : Int) (v5 : Int) (h : AH) (r : AH), k12 v0 v3 v5 h = some r → Ev sc d 188 12 [(2, v0), (9, 0), (9, 0), (1, v3), (8, 0), (1, v5), (8, 0)] [] h none r) : ∀ (fu : Nat) (v0 : Int) (v3 : Int) (v5 : Int) (h : AH) (r : AH), R_laysFactors_56 k12 fu v0 v3 v5 h = some r → Ev sc d 188 56 [(2, v0), (9, 0), (9, 0), (1, v3), (8, 0), (1, v5), (8, 0)] [] h none r := by
  intro fu
  induction fu with
  | zero => intro v0 v3 v5 h r hx; unfold R_laysFactors_56 at hx; cases hx
  | succ fu ih =>
    intro v0 v3 v5 h r hx
    unfold R_laysFactors_56 at hx
    obtain ⟨u1, hg, he, hx⟩ := bgd hx
    refine Ev.blk (is := [.lload_n 3, .lload 5, .lrem]) (pc2 := 60) (L2 := [(2, v0), (9, 0), (9, 0), (1, v3), (8, 0), (1, v5), (8, 0)]) (S2 := [(1, u1)]) (h2 := h) (by decide +kernel) (by subst he; rfl) (by exact hg) ?_
    clear hg he
    refine Ev.blk (is := [.lconst 0, .lcmp]) (pc2 := 62) (L2 := [(2, v0), (9, 0), (9, 0), (1, v3), (8, 0), (1, v5), (8, 0)]) (S2 := [(0, cmpL u1 0)]) (h2 := h) (by decide +kernel) rfl trivial ?_
    obtain ⟨ha, hb⟩ := bite hx
    clear hx
    refine Ev.br (i := .ifCond .ne 24) (len := 3) (a := 65) (b := 86) (by decide +kernel) rfl cmpL_eq (fun hc => ?_) (fun hc => ?_)
    · have hx := ha hc
      clear ha hb hc
      obtain ⟨u2, hg, he, hx⟩ := bgd hx
      refine Ev.blk (is := [.lload_n 3, .lload 5, .ldiv]) (pc2 := 69) (L2 := [(2, v0), (9, 0), (9, 0), (1, v3), (8, 0), (1, v5), (8, 0)]) (S2 := [(1, u2)]) (h2 := h) (by decide +kernel) (by subst he; rfl) (by exact hg) ?_
      clear hg he
      obtain ⟨u3, hg, he, hx⟩ := bgd hx
      refine Ev.blk (is := [.lstore_n 3, .aload_n 0, .getfield 9205]) (pc2 := 74) (L2 := [(2, v0), (9, 0), (9, 0), (1, u2), (8, 0), (1, v5), (8, 0)]) (S2 := [(2, u3)]) (h2 := h) (by decide +kernel) (by subst he; rfl) (by exact hg) ?_
      clear hg he
      obtain ⟨u4, hg, he, hx⟩ := bgd hx
      refine Ev.blk (is := [.aload_n 0, .getfield 9006]) (pc2 := 78) (L2 := [(2, v0), (9, 0), (9, 0), (1, u2), (8, 0), (1, v5), (8, 0)]) (S2 := [(0, u4), (2, u3)]) (h2 := h) (by decide +kernel) (by subst he; rfl) (by exact hg) ?_
      clear hg he
      obtain ⟨u5, hg, he, hx⟩ := bgd hx
      refine Ev.blk (is := [.dup2, .iaload]) (pc2 := 80) (L2 := [(2, v0), (9, 0), (9, 0), (1, u2), (8, 0), (1, v5), (8, 0)]) (S2 := [(0, u5), (0, u4), (2, u3)]) (h2 := h) (by decide +kernel) (by subst he; rfl) (by exact hg) ?_
      clear hg he
      obtain ⟨h6, hg, he, hx⟩ := bgd hx
      refine Ev.blk (is := [.iconst 1, .iadd, .iastore]) (pc2 := 83) (L2 := [(2, v0), (9, 0), (9, 0), (1, u2), (8, 0), (1, v5), (8, 0)]) (S2 := []) (h2 := h6) (by decide +kernel) (by subst he; rfl) (by exact hg) ?_
      clear hg he
      refine Ev.jp (i := .goto (-27)) (len := 3) (pc2 := 56) (by decide +kernel) rfl ?_
      exact ih v0 u2 v5 h6 _ hx
    · have hx := hb hc
      clear ha hb hc
      obtain ⟨u7, hg, he, hx⟩ := bgd hx
      refine Ev.blk (is := [.aload_n 0, .dup, .getfield 9006]) (pc2 := 91) (L2 := [(2, v0), (9, 0), (9, 0), (1, v3), (8, 0), (1, v5), (8, 0)]) (S2 := [(0, u7), (2, v0)]) (h2 := h) (by decide +kernel) (by subst he; rfl) (by exact hg) ?_
      clear hg he
      obtain ⟨h8, hg, he, hx⟩ := bgd hx
      refine Ev.blk (is := [.iconst 1, .iadd, .putfield 9006]) (pc2 := 96) (L2 := [(2, v0), (9, 0), (9, 0), (1, v3), (8, 0), (1, v5), (8, 0)]) (S2 := []) (h2 := h8) (by decide +kernel) (by subst he; rfl) (by exact hg) ?_
      clear hg he
      refine Ev.blk (is := [.lload 5, .lconst 1, .ladd, .lstore 5]) (pc2 := 102) (L2 := [(2, v0), (9, 0), (9, 0), (1, v3), (8, 0), (1, w64 (v5 + 1)), (8, 0)]) (S2 := []) (h2 := h8) (by decide +kernel) rfl trivial ?_
      refine Ev.jp (i := .goto (-90)) (len := 3) (pc2 := 12) (by decide +kernel) rfl ?_
      exact hk12 v0 v3 (w64 (v5 + 1)) h8 _ hx
theorem y_R_laysFactors_12 {sc : AS} {d : Nat} (hd : 0 ≤ d) : ∀ (fu : Nat) (v0 : Int) (v3 : Int) (v5 : Int) (h : AH) (r : AH), R_laysFactors_12 fu v0 v3 v5 h = some r → Ev sc d 188 12 [(2, v0), (9, 0), (9, 0), (1, v3), (8, 0), (1, v5), (8, 0)] [] h none r := by
  intro fu
  induction fu with
  | zero => intro v0 v3 v5 h r hx; unfold R_laysFactors_12 at hx; cases hx
  | succ fu ih =>
    intro v0 v3 v5 h r hx
    unfold R_laysFactors_12 at hx
    refine Ev.blk (is := [.lload 5, .lload 5, .lmul, .lload_n 3, .lcmp]) (pc2 := 19) (L2 := [(2, v0), (9, 0), (9, 0), (1, v3), (8, 0), (1, v5), (8, 0)]) (S2 := [(0, cmpL (w64 (v5 * v5)) v3)]) (h2 := h) (by decide +kernel) rfl trivial ?_
    obtain ⟨ha, hb⟩ := bite hx
    clear hx
    refine Ev.br (i := .ifCond .gt 86) (len := 3) (a := 105) (b := 22) (by decide +kernel) rfl cmpL_gt (fun hc => ?_) (fun hc => ?_)
    · have hx := ha hc
      clear ha hb hc
      refine Ev.blk (is := [.lload_n 3, .jsr_w 2, .lcmp]) (pc2 := 110) (L2 := [(2, v0), (9, 0), (9, 0), (1, v3), (8, 0), (1, v5), (8, 0)]) (S2 := [(0, cmpL v3 2)]) (h2 := h) (by decide +kernel) rfl trivial ?_
      obtain ⟨ha, hb⟩ := bite hx
      clear hx
      refine Ev.br (i := .ifCond .ge 4) (len := 3) (a := 113) (b := 114) (by decide +kernel) rfl cmpL_lt (fun hc => ?_) (fun hc => ?_)
      · have hx := ha hc
        clear ha hb hc
        cases hx
        exact Ev.ret (i := .return_) (len := 1) (by decide +kernel) rfl (finOf (t := none) rfl (trivial))
      · have hx := hb hc
        clear ha hb hc
        obtain ⟨u1, hg, he, hx⟩ := bgd hx
        refine Ev.blk (is := [.aload_n 0, .getfield 9204]) (pc2 := 118) (L2 := [(2, v0), (9, 0), (9, 0), (1, v3), (8, 0), (1, v5), (8, 0)]) (S2 := [(2, u1)]) (h2 := h) (by decide +kernel) (by subst he; rfl) (by exact hg) ?_
        clear hg he
        obtain ⟨u2, hg, he, hx⟩ := bgd hx
        refine Ev.blk (is := [.aload_n 0, .getfield 9006]) (pc2 := 122) (L2 := [(2, v0), (9, 0), (9, 0), (1, v3), (8, 0), (1, v5), (8, 0)]) (S2 := [(0, u2), (2, u1)]) (h2 := h) (by decide +kernel) (by subst he; rfl) (by exact hg) ?_
        clear hg he
        obtain ⟨h3, hg, he, hx⟩ := bgd hx
        refine Ev.blk (is := [.lload_n 3, .l2i, .iastore]) (pc2 := 125) (L2 := [(2, v0), (9, 0), (9, 0), (1, v3), (8, 0), (1, v5), (8, 0)]) (S2 := []) (h2 := h3) (by decide +kernel) (by subst he; rfl) (by exact hg) ?_
        clear hg he
        obtain ⟨u4, hg, he, hx⟩ := bgd hx
        refine Ev.blk (is := [.aload_n 0, .getfield 9205]) (pc2 := 129) (L2 := [(2, v0), (9, 0), (9, 0), (1, v3), (8, 0), (1, v5), (8, 0)]) (S2 := [(2, u4)]) (h2 := h3) (by decide +kernel) (by subst he; rfl) (by exact hg) ?_
        clear hg he
        obtain ⟨u5, hg, he, hx⟩ := bgd hx
        refine Ev.blk (is := [.aload_n 0, .getfield 9006]) (pc2 := 133) (L2 := [(2, v0), (9, 0), (9, 0), (1, v3), (8, 0), (1, v5), (8, 0)]) (S2 := [(0, u5), (2, u4)]) (h2 := h3) (by decide +kernel) (by subst he; rfl) (by exact hg) ?_
        clear hg he
        obtain ⟨h6, hg, he, hx⟩ := bgd hx
        refine Ev.blk (is := [.iconst 1, .iastore]) (pc2 := 135) (L2 := [(2, v0), (9, 0), (9, 0), (1, v3), (8, 0), (1, v5), (8, 0)]) (S2 := []) (h2 := h6) (by decide +kernel) (by subst he; rfl) (by exact hg) ?_
        clear hg he
        obtain ⟨u7, hg, he, hx⟩ := bgd hx
        refine Ev.blk (is := [.aload_n 0, .dup, .getfield 9006]) (pc2 := 140) (L2 := [(2, v0), (9, 0), (9, 0), (1, v3), (8, 0), (1, v5), (8, 0)]) (S2 := [(0, u7), (2, v0)]) (h2 := h6) (by decide +kernel) (by subst he; rfl) (by exact hg) ?_
        clear hg he
        obtain ⟨h8, hg, he, hx⟩ := bgd hx
        refine Ev.blk (is := [.iconst 1, .iadd, .putfield 9006]) (pc2 := 145) (L2 := [(2, v0), (9, 0), (9, 0), (1, v3), (8, 0), (1, v5), (8, 0)]) (S2 := []) (h2 := h8) (by decide +kernel) (by subst he; rfl) (by exact hg) ?_
        clear hg he
        cases hx
        exact Ev.ret (i := .return_) (len := 1) (by decide +kernel) rfl (finOf (t := none) rfl (trivial))
    · have hx := hb hc
      clear ha hb hc
      obtain ⟨u9, hg, he, hx⟩ := bgd hx
      refine Ev.blk (is := [.lload_n 3, .lload 5, .lrem]) (pc2 := 26) (L2 := [(2, v0), (9, 0), (9, 0), (1, v3), (8, 0), (1, v5), (8, 0)]) (S2 := [(1, u9)]) (h2 := h) (by decide +kernel) (by subst he; rfl) (by exact hg) ?_
      clear hg he
      refine Ev.blk (is := [.lconst 0, .lcmp]) (pc2 := 28) (L2 := [(2, v0), (9, 0), (9, 0), (1, v3), (8, 0), (1, v5), (8, 0)]) (S2 := [(0, cmpL u9 0)]) (h2 := h) (by decide +kernel) rfl trivial ?_
      obtain ⟨ha, hb⟩ := bite hx
      clear hx
      refine Ev.br (i := .ifCond .eq 6) (len := 3) (a := 34) (b := 31) (by decide +kernel) rfl cmpL_eq (fun hc => ?_) (fun hc => ?_)
      · have hx := ha hc
        clear ha hb hc
        obtain ⟨u10, hg, he, hx⟩ := bgd hx
        refine Ev.blk (is := [.aload_n 0, .getfield 9204]) (pc2 := 38) (L2 := [(2, v0), (9, 0), (9, 0), (1, v3), (8, 0), (1, v5), (8, 0)]) (S2 := [(2, u10)]) (h2 := h) (by decide +kernel) (by subst he; rfl) (by exact hg) ?_
        clear hg he
        obtain ⟨u11, hg, he, hx⟩ := bgd hx
        refine Ev.blk (is := [.aload_n 0, .getfield 9006]) (pc2 := 42) (L2 := [(2, v0), (9, 0), (9, 0), (1, v3), (8, 0), (1, v5), (8, 0)]) (S2 := [(0, u11), (2, u10)]) (h2 := h) (by decide +kernel) (by subst he; rfl) (by exact hg) ?_
        clear hg he
        obtain ⟨h12, hg, he, hx⟩ := bgd hx
        refine Ev.blk (is := [.lload 5, .l2i, .iastore]) (pc2 := 46) (L2 := [(2, v0), (9, 0), (9, 0), (1, v3), (8, 0), (1, v5), (8, 0)]) (S2 := []) (h2 := h12) (by decide +kernel) (by subst he; rfl) (by exact hg) ?_
        clear hg he
        obtain ⟨u13, hg, he, hx⟩ := bgd hx
        refine Ev.blk (is := [.aload_n 0, .getfield 9205]) (pc2 := 50) (L2 := [(2, v0), (9, 0), (9, 0), (1, v3), (8, 0), (1, v5), (8, 0)]) (S2 := [(2, u13)]) (h2 := h12) (by decide +kernel) (by subst he; rfl) (by exact hg) ?_
        clear hg he
        obtain ⟨u14, hg, he, hx⟩ := bgd hx
        refine Ev.blk (is := [.aload_n 0, .getfield 9006]) (pc2 := 54) (L2 := [(2, v0), (9, 0), (9, 0), (1, v3), (8, 0), (1, v5), (8, 0)]) (S2 := [(0, u14), (2, u13)]) (h2 := h12) (by decide +kernel) (by subst he; rfl) (by exact hg) ?_
        clear hg he
        obtain ⟨h15, hg, he, hx⟩ := bgd hx
        refine Ev.blk (is := [.iconst 0, .iastore]) (pc2 := 56) (L2 := [(2, v0), (9, 0), (9, 0), (1, v3), (8, 0), (1, v5), (8, 0)]) (S2 := []) (h2 := h15) (by decide +kernel) (by subst he; rfl) (by exact hg) ?_
        clear hg he
        exact y_R_laysFactors_56 hd ih FU v0 v3 v5 h15 _ hx
      · have hx := hb hc
        clear ha hb hc
        refine Ev.jp (i := .goto 65) (len := 3) (pc2 := 96) (by decide +kernel) rfl ?_
        refine Ev.blk (is := [.lload 5, .lconst 1, .ladd, .lstore 5]) (pc2 := 102) (L2 := [(2, v0), (9, 0), (9, 0), (1, v3), (8, 0), (1, w64 (v5 + 1)), (8, 0)]) (S2 := []) (h2 := h) (by decide +kernel) rfl trivial ?_
        refine Ev.jp (i := .goto (-90)) (len := 3) (pc2 := 12) (by decide +kernel) rfl ?_
        exact ih v0 v3 (w64 (v5 + 1)) h _ hx
theorem x_R_laysFactors {sc : AS} {d : Nat} (hd : 1 ≤ d) {v0 : Int} {v1 : Int} {h : AH} {r : AH} (hx : R_laysFactors v0 v1 h = some r) : Runs sc d 188 [(2, v0), (1, v1)] h none r := by
  obtain ⟨d, rfl⟩ : ∃ e, d = e + 1 := ⟨d - 1, by omega⟩
  have hd : 0 ≤ d := by omega
  unfold R_laysFactors at hx
  refine ⟨⟨aM_188, rfl, Nat.le_of_ble_eq_true rfl⟩, ?_⟩
  show Ev sc d 188 0 [(2, v0), (1, v1), (8, 0), (9, 0), (9, 0), (9, 0), (9, 0)] [] h none r
  obtain ⟨h1, hg, he, hx⟩ := bgd hx
  refine Ev.blk (is := [.aload_n 0, .iconst 0, .putfield 9006]) (pc2 := 5) (L2 := [(2, v0), (1, v1), (8, 0), (9, 0), (9, 0), (9, 0), (9, 0)]) (S2 := []) (h2 := h1) (by decide +kernel) (by subst he; rfl) (by exact hg) ?_
  clear hg he
  refine Ev.blk (is := [.lload_n 1, .lstore_n 3, .jsr_w 2, .lstore 5]) (pc2 := 12) (L2 := [(2, v0), (1, v1), (8, 0), (1, v1), (8, 0), (1, 2), (8, 0)]) (S2 := []) (h2 := h1) (by decide +kernel) rfl trivial ?_
  refine Ev.wk (L2 := [(2, v0), (9, 0), (9, 0), (1, v1), (8, 0), (1, 2), (8, 0)]) (wkL_of ⟨Or.inl rfl, ⟨Or.inr rfl, ⟨Or.inr rfl, ⟨Or.inl rfl, ⟨Or.inl rfl, ⟨Or.inl rfl, ⟨Or.inl rfl, trivial⟩⟩⟩⟩⟩⟩⟩) ?_
  exact y_R_laysFactors_12 hd FU v0 v1 2 h1 _ hx
theorem x_R_addsUp {sc : AS} {d : Nat} (hd : 1 ≤ d) {v0 : Int} {v1 : Int} {v2 : Int} {v3 : Int} {h : AH} {r : AH} (hx : R_addsUp v0 v1 v2 v3 h = some r) : Runs sc d 190 [(2, v0), (0, v1), (0, v2), (0, v3)] h none r := by
  obtain ⟨d, rfl⟩ : ∃ e, d = e + 1 := ⟨d - 1, by omega⟩
  have hd : 0 ≤ d := by omega
  unfold R_addsUp at hx
  refine ⟨⟨aM_190, rfl, Nat.le_of_ble_eq_true rfl⟩, ?_⟩
  show Ev sc d 190 0 [(2, v0), (0, v1), (0, v2), (0, v3), (9, 0)] [] h none r
  obtain ⟨u1, hg, he, hx⟩ := bgd hx
  refine Ev.blk (is := [.sipush 9, .iload_n 1, .imul, .aload_n 0, .getfield 9213]) (pc2 := 8) (L2 := [(2, v0), (0, v1), (0, v2), (0, v3), (9, 0)]) (S2 := [(2, u1), (0, w32 (9 * v1))]) (h2 := h) (by decide +kernel) (by subst he; rfl) (by exact hg) ?_
  clear hg he
  obtain ⟨u2, hg, he, hx⟩ := bgd hx
  refine Ev.blk (is := [.iload_n 1, .iaload]) (pc2 := 10) (L2 := [(2, v0), (0, v1), (0, v2), (0, v3), (9, 0)]) (S2 := [(0, u2), (0, w32 (9 * v1))]) (h2 := h) (by decide +kernel) (by subst he; rfl) (by exact hg) ?_
  clear hg he
  obtain ⟨u3, hg, he, hx⟩ := bgd hx
  refine Ev.blk (is := [.iadd, .istore 4, .aload_n 0, .getfield 9217]) (pc2 := 17) (L2 := [(2, v0), (0, v1), (0, v2), (0, v3), (0, w32 ((w32 (9 * v1)) + u2))]) (S2 := [(2, u3)]) (h2 := h) (by decide +kernel) (by subst he; rfl) (by exact hg) ?_
  clear hg he
  obtain ⟨h4, hg, he, hx⟩ := bgd hx
  refine Ev.blk (is := [.iload 4, .iload_n 2, .iastore]) (pc2 := 21) (L2 := [(2, v0), (0, v1), (0, v2), (0, v3), (0, w32 ((w32 (9 * v1)) + u2))]) (S2 := []) (h2 := h4) (by decide +kernel) (by subst he; rfl) (by exact hg) ?_
  clear hg he
  obtain ⟨u5, hg, he, hx⟩ := bgd hx
  refine Ev.blk (is := [.aload_n 0, .getfield 9218]) (pc2 := 25) (L2 := [(2, v0), (0, v1), (0, v2), (0, v3), (0, w32 ((w32 (9 * v1)) + u2))]) (S2 := [(2, u5)]) (h2 := h4) (by decide +kernel) (by subst he; rfl) (by exact hg) ?_
  clear hg he
  obtain ⟨h6, hg, he, hx⟩ := bgd hx
  refine Ev.blk (is := [.iload 4, .iload_n 3, .iastore]) (pc2 := 29) (L2 := [(2, v0), (0, v1), (0, v2), (0, v3), (0, w32 ((w32 (9 * v1)) + u2))]) (S2 := []) (h2 := h6) (by decide +kernel) (by subst he; rfl) (by exact hg) ?_
  clear hg he
  obtain ⟨u7, hg, he, hx⟩ := bgd hx
  refine Ev.blk (is := [.aload_n 0, .getfield 9213]) (pc2 := 33) (L2 := [(2, v0), (0, v1), (0, v2), (0, v3), (0, w32 ((w32 (9 * v1)) + u2))]) (S2 := [(2, u7)]) (h2 := h6) (by decide +kernel) (by subst he; rfl) (by exact hg) ?_
  clear hg he
  obtain ⟨u8, hg, he, hx⟩ := bgd hx
  refine Ev.blk (is := [.iload_n 1, .dup2, .iaload]) (pc2 := 36) (L2 := [(2, v0), (0, v1), (0, v2), (0, v3), (0, w32 ((w32 (9 * v1)) + u2))]) (S2 := [(0, u8), (0, v1), (2, u7)]) (h2 := h6) (by decide +kernel) (by subst he; rfl) (by exact hg) ?_
  clear hg he
  obtain ⟨h9, hg, he, hx⟩ := bgd hx
  refine Ev.blk (is := [.iconst 1, .iadd, .iastore]) (pc2 := 39) (L2 := [(2, v0), (0, v1), (0, v2), (0, v3), (0, w32 ((w32 (9 * v1)) + u2))]) (S2 := []) (h2 := h9) (by decide +kernel) (by subst he; rfl) (by exact hg) ?_
  clear hg he
  cases hx
  exact Ev.ret (i := .return_) (len := 1) (by decide +kernel) rfl (finOf (t := none) rfl (trivial))
theorem x_R_addsDown {sc : AS} {d : Nat} (hd : 1 ≤ d) {v0 : Int} {v1 : Int} {v2 : Int} {v3 : Int} {v4 : Int} {h : AH} {r : AH} (hx : R_addsDown v0 v1 v2 v3 v4 h = some r) : Runs sc d 191 [(2, v0), (0, v1), (0, v2), (0, v3), (0, v4)] h none r := by
  obtain ⟨d, rfl⟩ : ∃ e, d = e + 1 := ⟨d - 1, by omega⟩
  have hd : 0 ≤ d := by omega
  unfold R_addsDown at hx
  refine ⟨⟨aM_191, rfl, Nat.le_of_ble_eq_true rfl⟩, ?_⟩
  show Ev sc d 191 0 [(2, v0), (0, v1), (0, v2), (0, v3), (0, v4), (9, 0)] [] h none r
  obtain ⟨u1, hg, he, hx⟩ := bgd hx
  refine Ev.blk (is := [.sipush 9, .iload_n 1, .imul, .aload_n 0, .getfield 9212]) (pc2 := 8) (L2 := [(2, v0), (0, v1), (0, v2), (0, v3), (0, v4), (9, 0)]) (S2 := [(2, u1), (0, w32 (9 * v1))]) (h2 := h) (by decide +kernel) (by subst he; rfl) (by exact hg) ?_
  clear hg he
  obtain ⟨u2, hg, he, hx⟩ := bgd hx
  refine Ev.blk (is := [.iload_n 1, .iaload]) (pc2 := 10) (L2 := [(2, v0), (0, v1), (0, v2), (0, v3), (0, v4), (9, 0)]) (S2 := [(0, u2), (0, w32 (9 * v1))]) (h2 := h) (by decide +kernel) (by subst he; rfl) (by exact hg) ?_
  clear hg he
  obtain ⟨u3, hg, he, hx⟩ := bgd hx
  refine Ev.blk (is := [.iadd, .istore 5, .aload_n 0, .getfield 9214]) (pc2 := 17) (L2 := [(2, v0), (0, v1), (0, v2), (0, v3), (0, v4), (0, w32 ((w32 (9 * v1)) + u2))]) (S2 := [(2, u3)]) (h2 := h) (by decide +kernel) (by subst he; rfl) (by exact hg) ?_
  clear hg he
  obtain ⟨h4, hg, he, hx⟩ := bgd hx
  refine Ev.blk (is := [.iload 5, .iload_n 2, .iastore]) (pc2 := 21) (L2 := [(2, v0), (0, v1), (0, v2), (0, v3), (0, v4), (0, w32 ((w32 (9 * v1)) + u2))]) (S2 := []) (h2 := h4) (by decide +kernel) (by subst he; rfl) (by exact hg) ?_
  clear hg he
  obtain ⟨u5, hg, he, hx⟩ := bgd hx
  refine Ev.blk (is := [.aload_n 0, .getfield 9215]) (pc2 := 25) (L2 := [(2, v0), (0, v1), (0, v2), (0, v3), (0, v4), (0, w32 ((w32 (9 * v1)) + u2))]) (S2 := [(2, u5)]) (h2 := h4) (by decide +kernel) (by subst he; rfl) (by exact hg) ?_
  clear hg he
  obtain ⟨h6, hg, he, hx⟩ := bgd hx
  refine Ev.blk (is := [.iload 5, .iload_n 3, .iastore]) (pc2 := 29) (L2 := [(2, v0), (0, v1), (0, v2), (0, v3), (0, v4), (0, w32 ((w32 (9 * v1)) + u2))]) (S2 := []) (h2 := h6) (by decide +kernel) (by subst he; rfl) (by exact hg) ?_
  clear hg he
  obtain ⟨u7, hg, he, hx⟩ := bgd hx
  refine Ev.blk (is := [.aload_n 0, .getfield 9216]) (pc2 := 33) (L2 := [(2, v0), (0, v1), (0, v2), (0, v3), (0, v4), (0, w32 ((w32 (9 * v1)) + u2))]) (S2 := [(2, u7)]) (h2 := h6) (by decide +kernel) (by subst he; rfl) (by exact hg) ?_
  clear hg he
  obtain ⟨h8, hg, he, hx⟩ := bgd hx
  refine Ev.blk (is := [.iload 5, .iload 4, .iastore]) (pc2 := 38) (L2 := [(2, v0), (0, v1), (0, v2), (0, v3), (0, v4), (0, w32 ((w32 (9 * v1)) + u2))]) (S2 := []) (h2 := h8) (by decide +kernel) (by subst he; rfl) (by exact hg) ?_
  clear hg he
  obtain ⟨u9, hg, he, hx⟩ := bgd hx
  refine Ev.blk (is := [.aload_n 0, .getfield 9212]) (pc2 := 42) (L2 := [(2, v0), (0, v1), (0, v2), (0, v3), (0, v4), (0, w32 ((w32 (9 * v1)) + u2))]) (S2 := [(2, u9)]) (h2 := h8) (by decide +kernel) (by subst he; rfl) (by exact hg) ?_
  clear hg he
  obtain ⟨u10, hg, he, hx⟩ := bgd hx
  refine Ev.blk (is := [.iload_n 1, .dup2, .iaload]) (pc2 := 45) (L2 := [(2, v0), (0, v1), (0, v2), (0, v3), (0, v4), (0, w32 ((w32 (9 * v1)) + u2))]) (S2 := [(0, u10), (0, v1), (2, u9)]) (h2 := h8) (by decide +kernel) (by subst he; rfl) (by exact hg) ?_
  clear hg he
  obtain ⟨h11, hg, he, hx⟩ := bgd hx
  refine Ev.blk (is := [.iconst 1, .iadd, .iastore]) (pc2 := 48) (L2 := [(2, v0), (0, v1), (0, v2), (0, v3), (0, v4), (0, w32 ((w32 (9 * v1)) + u2))]) (S2 := []) (h2 := h11) (by decide +kernel) (by subst he; rfl) (by exact hg) ?_
  clear hg he
  cases hx
  exact Ev.ret (i := .return_) (len := 1) (by decide +kernel) rfl (finOf (t := none) rfl (trivial))
theorem x_R_rowsOf {sc : AS} {d : Nat} (hd : 2 ≤ d) {v0 : Int} {v1 : Int} {v2 : Int} {v3 : Int} {v4 : Int} {h : AH} {r : AH} (hx : R_rowsOf v0 v1 v2 v3 v4 h = some r) : Runs sc d 189 [(2, v0), (0, v1), (0, v2), (0, v3), (0, v4)] h none r := by
  obtain ⟨d, rfl⟩ : ∃ e, d = e + 1 := ⟨d - 1, by omega⟩
  have hd : 1 ≤ d := by omega
  unfold R_rowsOf at hx
  refine ⟨⟨aM_189, rfl, Nat.le_of_ble_eq_true rfl⟩, ?_⟩
  show Ev sc d 189 0 [(2, v0), (0, v1), (0, v2), (0, v3), (0, v4)] [] h none r
  refine Ev.blk (is := [.iload_n 2]) (pc2 := 1) (L2 := [(2, v0), (0, v1), (0, v2), (0, v3), (0, v4)]) (S2 := [(0, v2)]) (h2 := h) (by decide +kernel) rfl trivial ?_
  obtain ⟨ha, hb⟩ := bite hx
  clear hx
  refine Ev.br (i := .ifCond .eq 23) (len := 3) (a := 24) (b := 4) (by decide +kernel) rfl Iff.rfl (fun hc => ?_) (fun hc => ?_)
  · have hx := ha hc
    clear ha hb hc
    obtain ⟨u1, hg, he, hx⟩ := bgd hx
    refine Ev.blk (is := [.aload_n 0, .iload_n 1, .aload_n 0, .getfield 9204]) (pc2 := 30) (L2 := [(2, v0), (0, v1), (0, v2), (0, v3), (0, v4)]) (S2 := [(2, u1), (0, v1), (2, v0)]) (h2 := h) (by decide +kernel) (by subst he; rfl) (by exact hg) ?_
    clear hg he
    obtain ⟨u2, hg, he, hx⟩ := bgd hx
    refine Ev.blk (is := [.iload_n 3, .iaload]) (pc2 := 32) (L2 := [(2, v0), (0, v1), (0, v2), (0, v3), (0, v4)]) (S2 := [(0, u2), (0, v1), (2, v0)]) (h2 := h) (by decide +kernel) (by subst he; rfl) (by exact hg) ?_
    clear hg he
    obtain ⟨u3, hg, he, hx⟩ := bgd hx
    refine Ev.blk (is := [.aload_n 0, .getfield 9205]) (pc2 := 36) (L2 := [(2, v0), (0, v1), (0, v2), (0, v3), (0, v4)]) (S2 := [(2, u3), (0, u2), (0, v1), (2, v0)]) (h2 := h) (by decide +kernel) (by subst he; rfl) (by exact hg) ?_
    clear hg he
    obtain ⟨u4, hg, he, hx⟩ := bgd hx
    refine Ev.blk (is := [.iload_n 3, .iaload]) (pc2 := 38) (L2 := [(2, v0), (0, v1), (0, v2), (0, v3), (0, v4)]) (S2 := [(0, u4), (0, u2), (0, v1), (2, v0)]) (h2 := h) (by decide +kernel) (by subst he; rfl) (by exact hg) ?_
    clear hg he
    refine Ev.blk (is := [.iload 4]) (pc2 := 40) (L2 := [(2, v0), (0, v1), (0, v2), (0, v3), (0, v4)]) (S2 := [(0, v4), (0, u4), (0, u2), (0, v1), (2, v0)]) (h2 := h) (by decide +kernel) rfl trivial ?_
    obtain ⟨_, hg, -, hx⟩ := bgd hx
    obtain ⟨h6, hc, hx⟩ := bca hx
    refine Ev.call (args := [(2, v0), (0, v1), (0, u2), (0, u4), (0, v4)]) (S2 := []) (r1 := none) (h1 := h6) (i := .invokevirtual 191) (by decide +kernel) rfl rfl (Nat.le_of_ble_eq_true rfl) (Or.inr (Or.inl ⟨rfl, hg, by decide +kernel⟩)) (x_R_addsDown (by omega) hc) ?_
    cases hx
    exact Ev.ret (i := .return_) (len := 1) (by decide +kernel) rfl (finOf (t := none) rfl (trivial))
  · have hx := hb hc
    clear ha hb hc
    obtain ⟨u7, hg, he, hx⟩ := bgd hx
    refine Ev.blk (is := [.aload_n 0, .iload_n 1, .aload_n 0, .getfield 9204]) (pc2 := 10) (L2 := [(2, v0), (0, v1), (0, v2), (0, v3), (0, v4)]) (S2 := [(2, u7), (0, v1), (2, v0)]) (h2 := h) (by decide +kernel) (by subst he; rfl) (by exact hg) ?_
    clear hg he
    obtain ⟨u8, hg, he, hx⟩ := bgd hx
    refine Ev.blk (is := [.iload_n 3, .iaload]) (pc2 := 12) (L2 := [(2, v0), (0, v1), (0, v2), (0, v3), (0, v4)]) (S2 := [(0, u8), (0, v1), (2, v0)]) (h2 := h) (by decide +kernel) (by subst he; rfl) (by exact hg) ?_
    clear hg he
    obtain ⟨u9, hg, he, hx⟩ := bgd hx
    refine Ev.blk (is := [.aload_n 0, .getfield 9205]) (pc2 := 16) (L2 := [(2, v0), (0, v1), (0, v2), (0, v3), (0, v4)]) (S2 := [(2, u9), (0, u8), (0, v1), (2, v0)]) (h2 := h) (by decide +kernel) (by subst he; rfl) (by exact hg) ?_
    clear hg he
    obtain ⟨u10, hg, he, hx⟩ := bgd hx
    refine Ev.blk (is := [.iload_n 3, .iaload]) (pc2 := 18) (L2 := [(2, v0), (0, v1), (0, v2), (0, v3), (0, v4)]) (S2 := [(0, u10), (0, u8), (0, v1), (2, v0)]) (h2 := h) (by decide +kernel) (by subst he; rfl) (by exact hg) ?_
    clear hg he
    obtain ⟨_, hg, -, hx⟩ := bgd hx
    obtain ⟨h12, hc, hx⟩ := bca hx
    refine Ev.call (args := [(2, v0), (0, v1), (0, u8), (0, u10)]) (S2 := []) (r1 := none) (h1 := h12) (i := .invokevirtual 190) (by decide +kernel) rfl rfl (Nat.le_of_ble_eq_true rfl) (Or.inr (Or.inl ⟨rfl, hg, by decide +kernel⟩)) (x_R_addsUp (by omega) hc) ?_
    refine Ev.jp (i := .goto 22) (len := 3) (pc2 := 43) (by decide +kernel) rfl ?_
    cases hx
    exact Ev.ret (i := .return_) (len := 1) (by decide +kernel) rfl (finOf (t := none) rfl (trivial))
theorem y_R_turns_106 {sc : AS} {d : Nat} (hd : 3 ≤ d) {k34 : Int → Int → Int → Int → Int → Int → AH → Option AH} (hk34 : ∀ (v0 : Int) (v1 : Int) (v2 : Int) (v3 : Int) (v4 : Int) (v5 : Int) (h : AH) (r : AH), k34 v0 v1 v2 v3 v4 v5 h = some r → Ev sc d 192 34 [(2, v0), (0, v1), (0, v2), (0, v3), (0, v4), (0, v5), (9, 0)] [] h none r) : ∀ (v0 : Int) (v1 : Int) (v2 : Int) (v3 : Int) (v4 : Int) (v6 : Int) (s0 : Int) (s1 : Int) (s2 : Int) (s3 : Int) (h : AH) (r : AH), R_turns_106 k34 v0 v1 v2 v3 v4 v6 s0 s1 s2 s3 h = some r → Ev sc d 192 106 [(2, v0), (0, v1), (0, v2), (0, v3), (0, v4), (9, 0), (0, v6)] [(0, s0), (0, s1), (0, s2), (2, s3)] h none r := by
  intro v0 v1 v2 v3 v4 v6 s0 s1 s2 s3 h r hx
  unfold R_turns_106 at hx
  refine Ev.blk (is := [.iconst 2]) (pc2 := 107) (L2 := [(2, v0), (0, v1), (0, v2), (0, v3), (0, v4), (9, 0), (0, v6)]) (S2 := [(0, 2), (0, s0), (0, s1), (0, s2), (2, s3)]) (h2 := h) (by decide +kernel) rfl trivial ?_
  obtain ⟨_, hg, -, hx⟩ := bgd hx
  obtain ⟨h2, hc, hx⟩ := bca hx
  refine Ev.call (args := [(2, s3), (0, s2), (0, s1), (0, s0), (0, 2)]) (S2 := []) (r1 := none) (h1 := h2) (i := .invokevirtual 189) (by decide +kernel) rfl rfl (Nat.le_of_ble_eq_true rfl) (Or.inr (Or.inl ⟨rfl, hg, by decide +kernel⟩)) (x_R_rowsOf (by omega) hc) ?_
  refine Ev.blk (is := [.iload 6]) (pc2 := 112) (L2 := [(2, v0), (0, v1), (0, v2), (0, v3), (0, v4), (9, 0), (0, v6)]) (S2 := [(0, v6)]) (h2 := h2) (by decide +kernel) rfl trivial ?_
  obtain ⟨ha, hb⟩ := bite hx
  clear hx
  refine Ev.br (i := .ifCond .eq 9) (len := 3) (a := 121) (b := 115) (by decide +kernel) rfl Iff.rfl (fun hc => ?_) (fun hc => ?_)
  · have hx := ha hc
    clear ha hb hc
    refine Ev.blk (is := [.iinc 3 (-1), .iload 6]) (pc2 := 126) (L2 := [(2, v0), (0, v1), (0, v2), (0, w32 (v3 + (-1))), (0, v4), (9, 0), (0, v6)]) (S2 := [(0, v6)]) (h2 := h2) (by decide +kernel) rfl trivial ?_
    obtain ⟨ha, hb⟩ := bite hx
    clear hx
    refine Ev.br (i := .ifCond .ne 7) (len := 3) (a := 129) (b := 133) (by decide +kernel) rfl Iff.rfl (fun hc => ?_) (fun hc => ?_)
    · have hx := ha hc
      clear ha hb hc
      refine Ev.blk (is := [.iconst 1]) (pc2 := 130) (L2 := [(2, v0), (0, v1), (0, v2), (0, w32 (v3 + (-1))), (0, v4), (9, 0), (0, v6)]) (S2 := [(0, 1)]) (h2 := h2) (by decide +kernel) rfl trivial ?_
      refine Ev.jp (i := .goto 4) (len := 3) (pc2 := 134) (by decide +kernel) rfl ?_
      refine Ev.blk (is := [.istore 5]) (pc2 := 136) (L2 := [(2, v0), (0, v1), (0, v2), (0, w32 (v3 + (-1))), (0, v4), (0, 1), (0, v6)]) (S2 := []) (h2 := h2) (by decide +kernel) rfl trivial ?_
      refine Ev.jp (i := .goto (-102)) (len := 3) (pc2 := 34) (by decide +kernel) rfl ?_
      refine Ev.wk (L2 := [(2, v0), (0, v1), (0, v2), (0, w32 (v3 + (-1))), (0, v4), (0, 1), (9, 0)]) (wkL_of ⟨Or.inl rfl, ⟨Or.inl rfl, ⟨Or.inl rfl, ⟨Or.inl rfl, ⟨Or.inl rfl, ⟨Or.inl rfl, ⟨Or.inr rfl, trivial⟩⟩⟩⟩⟩⟩⟩) ?_
      exact hk34 v0 v1 v2 (w32 (v3 + (-1))) v4 1 h2 _ hx
    · have hx := hb hc
      clear ha hb hc
      refine Ev.blk (is := [.iconst 0, .istore 5]) (pc2 := 136) (L2 := [(2, v0), (0, v1), (0, v2), (0, w32 (v3 + (-1))), (0, v4), (0, 0), (0, v6)]) (S2 := []) (h2 := h2) (by decide +kernel) rfl trivial ?_
      refine Ev.jp (i := .goto (-102)) (len := 3) (pc2 := 34) (by decide +kernel) rfl ?_
      refine Ev.wk (L2 := [(2, v0), (0, v1), (0, v2), (0, w32 (v3 + (-1))), (0, v4), (0, 0), (9, 0)]) (wkL_of ⟨Or.inl rfl, ⟨Or.inl rfl, ⟨Or.inl rfl, ⟨Or.inl rfl, ⟨Or.inl rfl, ⟨Or.inl rfl, ⟨Or.inr rfl, trivial⟩⟩⟩⟩⟩⟩⟩) ?_
      exact hk34 v0 v1 v2 (w32 (v3 + (-1))) v4 0 h2 _ hx
  · have hx := hb hc
    clear ha hb hc
    refine Ev.blk (is := [.iinc 4 (-1)]) (pc2 := 118) (L2 := [(2, v0), (0, v1), (0, v2), (0, v3), (0, w32 (v4 + (-1))), (9, 0), (0, v6)]) (S2 := []) (h2 := h2) (by decide +kernel) rfl trivial ?_
    refine Ev.jp (i := .goto 6) (len := 3) (pc2 := 124) (by decide +kernel) rfl ?_
    refine Ev.blk (is := [.iload 6]) (pc2 := 126) (L2 := [(2, v0), (0, v1), (0, v2), (0, v3), (0, w32 (v4 + (-1))), (9, 0), (0, v6)]) (S2 := [(0, v6)]) (h2 := h2) (by decide +kernel) rfl trivial ?_
    obtain ⟨ha, hb⟩ := bite hx
    clear hx
    refine Ev.br (i := .ifCond .ne 7) (len := 3) (a := 129) (b := 133) (by decide +kernel) rfl Iff.rfl (fun hc => ?_) (fun hc => ?_)
    · have hx := ha hc
      clear ha hb hc
      refine Ev.blk (is := [.iconst 1]) (pc2 := 130) (L2 := [(2, v0), (0, v1), (0, v2), (0, v3), (0, w32 (v4 + (-1))), (9, 0), (0, v6)]) (S2 := [(0, 1)]) (h2 := h2) (by decide +kernel) rfl trivial ?_
      refine Ev.jp (i := .goto 4) (len := 3) (pc2 := 134) (by decide +kernel) rfl ?_
      refine Ev.blk (is := [.istore 5]) (pc2 := 136) (L2 := [(2, v0), (0, v1), (0, v2), (0, v3), (0, w32 (v4 + (-1))), (0, 1), (0, v6)]) (S2 := []) (h2 := h2) (by decide +kernel) rfl trivial ?_
      refine Ev.jp (i := .goto (-102)) (len := 3) (pc2 := 34) (by decide +kernel) rfl ?_
      refine Ev.wk (L2 := [(2, v0), (0, v1), (0, v2), (0, v3), (0, w32 (v4 + (-1))), (0, 1), (9, 0)]) (wkL_of ⟨Or.inl rfl, ⟨Or.inl rfl, ⟨Or.inl rfl, ⟨Or.inl rfl, ⟨Or.inl rfl, ⟨Or.inl rfl, ⟨Or.inr rfl, trivial⟩⟩⟩⟩⟩⟩⟩) ?_
      exact hk34 v0 v1 v2 v3 (w32 (v4 + (-1))) 1 h2 _ hx
    · have hx := hb hc
      clear ha hb hc
      refine Ev.blk (is := [.iconst 0, .istore 5]) (pc2 := 136) (L2 := [(2, v0), (0, v1), (0, v2), (0, v3), (0, w32 (v4 + (-1))), (0, 0), (0, v6)]) (S2 := []) (h2 := h2) (by decide +kernel) rfl trivial ?_
      refine Ev.jp (i := .goto (-102)) (len := 3) (pc2 := 34) (by decide +kernel) rfl ?_
      refine Ev.wk (L2 := [(2, v0), (0, v1), (0, v2), (0, v3), (0, w32 (v4 + (-1))), (0, 0), (9, 0)]) (wkL_of ⟨Or.inl rfl, ⟨Or.inl rfl, ⟨Or.inl rfl, ⟨Or.inl rfl, ⟨Or.inl rfl, ⟨Or.inl rfl, ⟨Or.inr rfl, trivial⟩⟩⟩⟩⟩⟩⟩) ?_
      exact hk34 v0 v1 v2 v3 (w32 (v4 + (-1))) 0 h2 _ hx
theorem y_R_turns_88 {sc : AS} {d : Nat} (hd : 3 ≤ d) {k34 : Int → Int → Int → Int → Int → Int → AH → Option AH} (hk34 : ∀ (v0 : Int) (v1 : Int) (v2 : Int) (v3 : Int) (v4 : Int) (v5 : Int) (h : AH) (r : AH), k34 v0 v1 v2 v3 v4 v5 h = some r → Ev sc d 192 34 [(2, v0), (0, v1), (0, v2), (0, v3), (0, v4), (0, v5), (9, 0)] [] h none r) : ∀ (v0 : Int) (v1 : Int) (v2 : Int) (v3 : Int) (v4 : Int) (v6 : Int) (s0 : Int) (s1 : Int) (h : AH) (r : AH), R_turns_88 k34 v0 v1 v2 v3 v4 v6 s0 s1 h = some r → Ev sc d 192 88 [(2, v0), (0, v1), (0, v2), (0, v3), (0, v4), (9, 0), (0, v6)] [(1, s0), (2, s1)] h none r := by
  intro v0 v1 v2 v3 v4 v6 s0 s1 h r hx
  unfold R_turns_88 at hx
  obtain ⟨_, hg, -, hx⟩ := bgd hx
  obtain ⟨h2, hc, hx⟩ := bca hx
  refine Ev.call (args := [(2, s1), (1, s0)]) (S2 := []) (r1 := none) (h1 := h2) (i := .invokevirtual 188) (by decide +kernel) rfl rfl (Nat.le_of_ble_eq_true rfl) (Or.inr (Or.inl ⟨rfl, hg, by decide +kernel⟩)) (x_R_laysFactors (by omega) hc) ?_
  refine Ev.blk (is := [.aload_n 0, .iload_n 1, .iload 6, .iload 6]) (pc2 := 97) (L2 := [(2, v0), (0, v1), (0, v2), (0, v3), (0, v4), (9, 0), (0, v6)]) (S2 := [(0, v6), (0, v6), (0, v1), (2, v0)]) (h2 := h2) (by decide +kernel) rfl trivial ?_
  obtain ⟨ha, hb⟩ := bite hx
  clear hx
  refine Ev.br (i := .ifCond .eq 8) (len := 3) (a := 105) (b := 100) (by decide +kernel) rfl Iff.rfl (fun hc => ?_) (fun hc => ?_)
  · have hx := ha hc
    clear ha hb hc
    refine Ev.blk (is := [.iload_n 3]) (pc2 := 106) (L2 := [(2, v0), (0, v1), (0, v2), (0, v3), (0, v4), (9, 0), (0, v6)]) (S2 := [(0, v3), (0, v6), (0, v1), (2, v0)]) (h2 := h2) (by decide +kernel) rfl trivial ?_
    exact y_R_turns_106 hd hk34 v0 v1 v2 v3 v4 v6 v3 v6 v1 v0 h2 _ hx
  · have hx := hb hc
    clear ha hb hc
    refine Ev.blk (is := [.iload 4]) (pc2 := 102) (L2 := [(2, v0), (0, v1), (0, v2), (0, v3), (0, v4), (9, 0), (0, v6)]) (S2 := [(0, v4), (0, v6), (0, v1), (2, v0)]) (h2 := h2) (by decide +kernel) rfl trivial ?_
    refine Ev.jp (i := .goto 4) (len := 3) (pc2 := 106) (by decide +kernel) rfl ?_
    exact y_R_turns_106 hd hk34 v0 v1 v2 v3 v4 v6 v4 v6 v1 v0 h2 _ hx
theorem y_R_turns_69 {sc : AS} {d : Nat} (hd : 3 ≤ d) {k34 : Int → Int → Int → Int → Int → Int → AH → Option AH} (hk34 : ∀ (v0 : Int) (v1 : Int) (v2 : Int) (v3 : Int) (v4 : Int) (v5 : Int) (h : AH) (r : AH), k34 v0 v1 v2 v3 v4 v5 h = some r → Ev sc d 192 34 [(2, v0), (0, v1), (0, v2), (0, v3), (0, v4), (0, v5), (9, 0)] [] h none r) : ∀ (v0 : Int) (v1 : Int) (v2 : Int) (v3 : Int) (v4 : Int) (s0 : Int) (h : AH) (r : AH), R_turns_69 k34 v0 v1 v2 v3 v4 s0 h = some r → Ev sc d 192 69 [(2, v0), (0, v1), (0, v2), (0, v3), (0, v4), (9, 0), (9, 0)] [(0, s0)] h none r := by
  intro v0 v1 v2 v3 v4 s0 h r hx
  unfold R_turns_69 at hx
  refine Ev.blk (is := [.istore 6, .aload_n 0, .iload 6]) (pc2 := 74) (L2 := [(2, v0), (0, v1), (0, v2), (0, v3), (0, v4), (9, 0), (0, s0)]) (S2 := [(0, s0), (2, v0)]) (h2 := h) (by decide +kernel) rfl trivial ?_
  obtain ⟨ha, hb⟩ := bite hx
  clear hx
  refine Ev.br (i := .ifCond .eq 10) (len := 3) (a := 84) (b := 77) (by decide +kernel) rfl Iff.rfl (fun hc => ?_) (fun hc => ?_)
  · have hx := ha hc
    clear ha hb hc
    refine Ev.blk (is := [.iload_n 2, .i2l, .lconst 1, .lsub]) (pc2 := 88) (L2 := [(2, v0), (0, v1), (0, v2), (0, v3), (0, v4), (9, 0), (0, s0)]) (S2 := [(1, w64 (v2 - 1)), (2, v0)]) (h2 := h) (by decide +kernel) rfl trivial ?_
    exact y_R_turns_88 hd hk34 v0 v1 v2 v3 v4 s0 (w64 (v2 - 1)) v0 h _ hx
  · have hx := hb hc
    clear ha hb hc
    refine Ev.blk (is := [.iload_n 2, .i2l, .lconst 1, .ladd]) (pc2 := 81) (L2 := [(2, v0), (0, v1), (0, v2), (0, v3), (0, v4), (9, 0), (0, s0)]) (S2 := [(1, w64 (v2 + 1)), (2, v0)]) (h2 := h) (by decide +kernel) rfl trivial ?_
    refine Ev.jp (i := .goto 7) (len := 3) (pc2 := 88) (by decide +kernel) rfl ?_
    exact y_R_turns_88 hd hk34 v0 v1 v2 v3 v4 s0 (w64 (v2 + 1)) v0 h _ hx
theorem y_R_turns_34 {sc : AS} {d : Nat} (hd : 3 ≤ d) : ∀ (fu : Nat) (v0 : Int) (v1 : Int) (v2 : Int) (v3 : Int) (v4 : Int) (v5 : Int) (h : AH) (r : AH), R_turns_34 fu v0 v1 v2 v3 v4 v5 h = some r → Ev sc d 192 34 [(2, v0), (0, v1), (0, v2), (0, v3), (0, v4), (0, v5), (9, 0)] [] h none r := by
  intro fu
  induction fu with
  | zero => intro v0 v1 v2 v3 v4 v5 h r hx; unfold R_turns_34 at hx; cases hx
  | succ fu ih =>
    intro v0 v1 v2 v3 v4 v5 h r hx
    unfold R_turns_34 at hx
    refine Ev.blk (is := [.aload_n 0, .iload_n 1]) (pc2 := 36) (L2 := [(2, v0), (0, v1), (0, v2), (0, v3), (0, v4), (0, v5), (9, 0)]) (S2 := [(0, v1), (2, v0)]) (h2 := h) (by decide +kernel) rfl trivial ?_
    obtain ⟨_, hg, -, hx⟩ := bgd hx
    obtain ⟨u1, hc, hx⟩ := bca hx
    refine Ev.call (args := [(2, v0), (0, v1)]) (S2 := []) (r1 := (some (0, u1))) (h1 := h) (i := .invokevirtual 174) (by decide +kernel) rfl rfl (Nat.le_of_ble_eq_true rfl) (Or.inr (Or.inl ⟨rfl, hg, by decide +kernel⟩)) (x_R_isEnough (by omega) hc) ?_
    obtain ⟨ha, hb⟩ := bite hx
    clear hx
    refine Ev.br (i := .ifCond .ne 100) (len := 3) (a := 42) (b := 139) (by decide +kernel) rfl Iff.rfl (fun hc => ?_) (fun hc => ?_)
    · have hx := ha hc
      clear ha hb hc
      refine Ev.blk (is := [.iload 5]) (pc2 := 44) (L2 := [(2, v0), (0, v1), (0, v2), (0, v3), (0, v4), (0, v5), (9, 0)]) (S2 := [(0, v5)]) (h2 := h) (by decide +kernel) rfl trivial ?_
      obtain ⟨ha, hb⟩ := bite hx
      clear hx
      refine Ev.br (i := .ifCond .eq 16) (len := 3) (a := 60) (b := 47) (by decide +kernel) rfl Iff.rfl (fun hc => ?_) (fun hc => ?_)
      · have hx := ha hc
        clear ha hb hc
        refine Ev.blk (is := [.iload_n 3]) (pc2 := 61) (L2 := [(2, v0), (0, v1), (0, v2), (0, v3), (0, v4), (0, v5), (9, 0)]) (S2 := [(0, v3)]) (h2 := h) (by decide +kernel) rfl trivial ?_
        obtain ⟨ha, hb⟩ := bite hx
        clear hx
        refine Ev.br (i := .ifCond .ge 7) (len := 3) (a := 64) (b := 68) (by decide +kernel) rfl Iff.rfl (fun hc => ?_) (fun hc => ?_)
        · have hx := ha hc
          clear ha hb hc
          refine Ev.blk (is := [.iconst 1]) (pc2 := 65) (L2 := [(2, v0), (0, v1), (0, v2), (0, v3), (0, v4), (0, v5), (9, 0)]) (S2 := [(0, 1)]) (h2 := h) (by decide +kernel) rfl trivial ?_
          refine Ev.jp (i := .goto 4) (len := 3) (pc2 := 69) (by decide +kernel) rfl ?_
          refine Ev.wk (L2 := [(2, v0), (0, v1), (0, v2), (0, v3), (0, v4), (9, 0), (9, 0)]) (wkL_of ⟨Or.inl rfl, ⟨Or.inl rfl, ⟨Or.inl rfl, ⟨Or.inl rfl, ⟨Or.inl rfl, ⟨Or.inr rfl, ⟨Or.inl rfl, trivial⟩⟩⟩⟩⟩⟩⟩) ?_
          exact y_R_turns_69 hd ih v0 v1 v2 v3 v4 1 h _ hx
        · have hx := hb hc
          clear ha hb hc
          refine Ev.blk (is := [.iconst 0]) (pc2 := 69) (L2 := [(2, v0), (0, v1), (0, v2), (0, v3), (0, v4), (0, v5), (9, 0)]) (S2 := [(0, 0)]) (h2 := h) (by decide +kernel) rfl trivial ?_
          refine Ev.wk (L2 := [(2, v0), (0, v1), (0, v2), (0, v3), (0, v4), (9, 0), (9, 0)]) (wkL_of ⟨Or.inl rfl, ⟨Or.inl rfl, ⟨Or.inl rfl, ⟨Or.inl rfl, ⟨Or.inl rfl, ⟨Or.inr rfl, ⟨Or.inl rfl, trivial⟩⟩⟩⟩⟩⟩⟩) ?_
          exact y_R_turns_69 hd ih v0 v1 v2 v3 v4 0 h _ hx
      · have hx := hb hc
        clear ha hb hc
        refine Ev.blk (is := [.iload 4]) (pc2 := 49) (L2 := [(2, v0), (0, v1), (0, v2), (0, v3), (0, v4), (0, v5), (9, 0)]) (S2 := [(0, v4)]) (h2 := h) (by decide +kernel) rfl trivial ?_
        obtain ⟨ha, hb⟩ := bite hx
        clear hx
        refine Ev.br (i := .ifCond .lt 7) (len := 3) (a := 56) (b := 52) (by decide +kernel) rfl Iff.rfl (fun hc => ?_) (fun hc => ?_)
        · have hx := ha hc
          clear ha hb hc
          refine Ev.blk (is := [.iconst 0]) (pc2 := 57) (L2 := [(2, v0), (0, v1), (0, v2), (0, v3), (0, v4), (0, v5), (9, 0)]) (S2 := [(0, 0)]) (h2 := h) (by decide +kernel) rfl trivial ?_
          refine Ev.jp (i := .goto 12) (len := 3) (pc2 := 69) (by decide +kernel) rfl ?_
          refine Ev.wk (L2 := [(2, v0), (0, v1), (0, v2), (0, v3), (0, v4), (9, 0), (9, 0)]) (wkL_of ⟨Or.inl rfl, ⟨Or.inl rfl, ⟨Or.inl rfl, ⟨Or.inl rfl, ⟨Or.inl rfl, ⟨Or.inr rfl, ⟨Or.inl rfl, trivial⟩⟩⟩⟩⟩⟩⟩) ?_
          exact y_R_turns_69 hd ih v0 v1 v2 v3 v4 0 h _ hx
        · have hx := hb hc
          clear ha hb hc
          refine Ev.blk (is := [.iconst 1]) (pc2 := 53) (L2 := [(2, v0), (0, v1), (0, v2), (0, v3), (0, v4), (0, v5), (9, 0)]) (S2 := [(0, 1)]) (h2 := h) (by decide +kernel) rfl trivial ?_
          refine Ev.jp (i := .goto 16) (len := 3) (pc2 := 69) (by decide +kernel) rfl ?_
          refine Ev.wk (L2 := [(2, v0), (0, v1), (0, v2), (0, v3), (0, v4), (9, 0), (9, 0)]) (wkL_of ⟨Or.inl rfl, ⟨Or.inl rfl, ⟨Or.inl rfl, ⟨Or.inl rfl, ⟨Or.inl rfl, ⟨Or.inr rfl, ⟨Or.inl rfl, trivial⟩⟩⟩⟩⟩⟩⟩) ?_
          exact y_R_turns_69 hd ih v0 v1 v2 v3 v4 1 h _ hx
    · have hx := hb hc
      clear ha hb hc
      cases hx
      exact Ev.ret (i := .return_) (len := 1) (by decide +kernel) rfl (finOf (t := none) rfl (trivial))
theorem x_R_turns {sc : AS} {d : Nat} (hd : 4 ≤ d) {v0 : Int} {v1 : Int} {v2 : Int} {h : AH} {r : AH} (hx : R_turns v0 v1 v2 h = some r) : Runs sc d 192 [(2, v0), (0, v1), (0, v2)] h none r := by
  obtain ⟨d, rfl⟩ : ∃ e, d = e + 1 := ⟨d - 1, by omega⟩
  have hd : 3 ≤ d := by omega
  unfold R_turns at hx
  refine ⟨⟨aM_192, rfl, Nat.le_of_ble_eq_true rfl⟩, ?_⟩
  show Ev sc d 192 0 [(2, v0), (0, v1), (0, v2), (9, 0), (9, 0), (9, 0), (9, 0)] [] h none r
  refine Ev.blk (is := [.aload_n 0, .iload_n 2, .i2l, .lconst 1, .lsub]) (pc2 := 5) (L2 := [(2, v0), (0, v1), (0, v2), (9, 0), (9, 0), (9, 0), (9, 0)]) (S2 := [(1, w64 (v2 - 1)), (2, v0)]) (h2 := h) (by decide +kernel) rfl trivial ?_
  obtain ⟨_, hg, -, hx⟩ := bgd hx
  obtain ⟨h2, hc, hx⟩ := bca hx
  refine Ev.call (args := [(2, v0), (1, w64 (v2 - 1))]) (S2 := []) (r1 := none) (h1 := h2) (i := .invokevirtual 188) (by decide +kernel) rfl rfl (Nat.le_of_ble_eq_true rfl) (Or.inr (Or.inl ⟨rfl, hg, by decide +kernel⟩)) (x_R_laysFactors (by omega) hc) ?_
  obtain ⟨u3, hg, he, hx⟩ := bgd hx
  refine Ev.blk (is := [.aload_n 0, .getfield 9006]) (pc2 := 12) (L2 := [(2, v0), (0, v1), (0, v2), (9, 0), (9, 0), (9, 0), (9, 0)]) (S2 := [(0, u3)]) (h2 := h2) (by decide +kernel) (by subst he; rfl) (by exact hg) ?_
  clear hg he
  refine Ev.blk (is := [.iconst 1, .isub, .istore_n 3, .aload_n 0, .iload_n 2, .i2l, .lconst 1, .ladd]) (pc2 := 20) (L2 := [(2, v0), (0, v1), (0, v2), (0, w32 (u3 - 1)), (9, 0), (9, 0), (9, 0)]) (S2 := [(1, w64 (v2 + 1)), (2, v0)]) (h2 := h2) (by decide +kernel) rfl trivial ?_
  obtain ⟨_, hg, -, hx⟩ := bgd hx
  obtain ⟨h5, hc, hx⟩ := bca hx
  refine Ev.call (args := [(2, v0), (1, w64 (v2 + 1))]) (S2 := []) (r1 := none) (h1 := h5) (i := .invokevirtual 188) (by decide +kernel) rfl rfl (Nat.le_of_ble_eq_true rfl) (Or.inr (Or.inl ⟨rfl, hg, by decide +kernel⟩)) (x_R_laysFactors (by omega) hc) ?_
  obtain ⟨u6, hg, he, hx⟩ := bgd hx
  refine Ev.blk (is := [.aload_n 0, .getfield 9006]) (pc2 := 27) (L2 := [(2, v0), (0, v1), (0, v2), (0, w32 (u3 - 1)), (9, 0), (9, 0), (9, 0)]) (S2 := [(0, u6)]) (h2 := h5) (by decide +kernel) (by subst he; rfl) (by exact hg) ?_
  clear hg he
  refine Ev.blk (is := [.iconst 1, .isub, .istore 4, .iconst 0, .istore 5]) (pc2 := 34) (L2 := [(2, v0), (0, v1), (0, v2), (0, w32 (u3 - 1)), (0, w32 (u6 - 1)), (0, 0), (9, 0)]) (S2 := []) (h2 := h5) (by decide +kernel) rfl trivial ?_
  exact y_R_turns_34 hd FU v0 v1 v2 (w32 (u3 - 1)) (w32 (u6 - 1)) 0 h5 _ hx
