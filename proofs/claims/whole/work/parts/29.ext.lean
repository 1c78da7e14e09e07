/-! the methods run as their shallow functions say -/
theorem x_R_isDigit {sc : AS} {d : Nat} (hd : 2 ≤ d) {v0 : Int} {v1 : Int} {h : AH} {r : Int} (hx : R_isDigit v0 v1 h = some r) : Runs sc d 208 [(2, v0), (0, v1)] h (some (0, r)) h := by
  obtain ⟨d, rfl⟩ : ∃ e, d = e + 1 := ⟨d - 1, by omega⟩
  have hd : 1 ≤ d := by omega
  unfold R_isDigit at hx
  refine ⟨⟨aM_208, rfl, Nat.le_of_ble_eq_true rfl⟩, ?_⟩
  show Ev sc d 208 0 [(2, v0), (0, v1)] [] h (some (0, r)) h
  obtain ⟨u1, hg, he, hx⟩ := bgd hx
  refine Ev.blk (is := [.iload_n 1, .aload_n 0, .getfield 9024]) (pc2 := 5) (L2 := [(2, v0), (0, v1)]) (S2 := [(0, u1), (0, v1)]) (h2 := h) (by decide +kernel) (by subst he; rfl) (by exact hg) ?_
  clear hg he
  obtain ⟨ha, hb⟩ := bite hx
  clear hx
  refine Ev.br (i := .if_icmp .ge 26) (len := 3) (a := 8) (b := 31) (by decide +kernel) rfl Iff.rfl (fun hc => ?_) (fun hc => ?_)
  · have hx := ha hc
    clear ha hb hc
    obtain ⟨u2, hg, he, hx⟩ := bgd hx
    refine Ev.blk (is := [.aload_n 0, .getfield 9223]) (pc2 := 12) (L2 := [(2, v0), (0, v1)]) (S2 := [(2, u2)]) (h2 := h) (by decide +kernel) (by subst he; rfl) (by exact hg) ?_
    clear hg he
    obtain ⟨u3, hg, he, hx⟩ := bgd hx
    refine Ev.blk (is := [.iload_n 1, .iaload]) (pc2 := 14) (L2 := [(2, v0), (0, v1)]) (S2 := [(0, u3)]) (h2 := h) (by decide +kernel) (by subst he; rfl) (by exact hg) ?_
    clear hg he
    refine Ev.blk (is := [.i2l, .jsr_w 48, .jsr_w 57]) (pc2 := 21) (L2 := [(2, v0), (0, v1)]) (S2 := [(1, 57), (1, 48), (1, u3)]) (h2 := h) (by decide +kernel) rfl trivial ?_
    obtain ⟨u4, hc, hx⟩ := bca hx
    refine Ev.call (args := [(1, u3), (1, 48), (1, 57)]) (S2 := []) (r1 := (some (0, u4))) (h1 := h) (i := .invokestatic 162) (by decide +kernel) rfl rfl (Nat.le_of_ble_eq_true rfl) (Or.inl rfl) (x_R_in (by omega) hc) ?_
    obtain ⟨ha, hb⟩ := bite hx
    clear hx
    refine Ev.br (i := .ifCond .eq 7) (len := 3) (a := 31) (b := 27) (by decide +kernel) rfl Iff.rfl (fun hc => ?_) (fun hc => ?_)
    · have hx := ha hc
      clear ha hb hc
      refine Ev.blk (is := [.iconst 0]) (pc2 := 32) (L2 := [(2, v0), (0, v1)]) (S2 := [(0, 0)]) (h2 := h) (by decide +kernel) rfl trivial ?_
      cases hx
      exact Ev.ret (i := .ireturn) (len := 1) (by decide +kernel) rfl (finOf (t := some .boolean) rfl (bz0))
    · have hx := hb hc
      clear ha hb hc
      refine Ev.blk (is := [.iconst 1]) (pc2 := 28) (L2 := [(2, v0), (0, v1)]) (S2 := [(0, 1)]) (h2 := h) (by decide +kernel) rfl trivial ?_
      refine Ev.jp (i := .goto 4) (len := 3) (pc2 := 32) (by decide +kernel) rfl ?_
      cases hx
      exact Ev.ret (i := .ireturn) (len := 1) (by decide +kernel) rfl (finOf (t := some .boolean) rfl (bz1))
  · have hx := hb hc
    clear ha hb hc
    refine Ev.blk (is := [.iconst 0]) (pc2 := 32) (L2 := [(2, v0), (0, v1)]) (S2 := [(0, 0)]) (h2 := h) (by decide +kernel) rfl trivial ?_
    cases hx
    exact Ev.ret (i := .ireturn) (len := 1) (by decide +kernel) rfl (finOf (t := some .boolean) rfl (bz0))
theorem y_R_goesOn_210 {sc : AS} {d : Nat} (hd : 2 ≤ d) : ∀ (fu : Nat) (v0 : Int) (v1 : Int) (h : AH) (r : AH), R_goesOn_210 fu v0 v1 h = some r → Ev sc d 204 210 [(2, v0), (0, v1), (9, 0), (9, 0)] [] h none r := by
  intro fu
  induction fu with
  | zero => intro v0 v1 h r hx; unfold R_goesOn_210 at hx; cases hx
  | succ fu ih =>
    intro v0 v1 h r hx
    unfold R_goesOn_210 at hx
    obtain ⟨u1, hg, he, hx⟩ := bgd hx
    refine Ev.blk (is := [.aload_n 0, .aload_n 0, .getfield 9029]) (pc2 := 215) (L2 := [(2, v0), (0, v1), (9, 0), (9, 0)]) (S2 := [(0, u1), (2, v0)]) (h2 := h) (by decide +kernel) (by subst he; rfl) (by exact hg) ?_
    clear hg he
    obtain ⟨_, hg, -, hx⟩ := bgd hx
    obtain ⟨u2, hc, hx⟩ := bca hx
    refine Ev.call (args := [(2, v0), (0, u1)]) (S2 := []) (r1 := (some (0, u2))) (h1 := h) (i := .invokevirtual 208) (by decide +kernel) rfl rfl (Nat.le_of_ble_eq_true rfl) (Or.inr (Or.inl ⟨rfl, hg, by decide +kernel⟩)) (x_R_isDigit (by omega) hc) ?_
    obtain ⟨ha, hb⟩ := bite hx
    clear hx
    refine Ev.br (i := .ifCond .eq 57) (len := 3) (a := 275) (b := 221) (by decide +kernel) rfl Iff.rfl (fun hc => ?_) (fun hc => ?_)
    · have hx := ha hc
      clear ha hb hc
      refine Ev.blk (is := [.aload_n 0, .iload_n 1]) (pc2 := 277) (L2 := [(2, v0), (0, v1), (9, 0), (9, 0)]) (S2 := [(0, v1), (2, v0)]) (h2 := h) (by decide +kernel) rfl trivial ?_
      obtain ⟨ha, hb⟩ := bite hx
      clear hx
      refine Ev.br (i := .ifCond .ne 17) (len := 3) (a := 280) (b := 294) (by decide +kernel) rfl Iff.rfl (fun hc => ?_) (fun hc => ?_)
      · have hx := ha hc
        clear ha hb hc
        obtain ⟨u3, hg, he, hx⟩ := bgd hx
        refine Ev.blk (is := [.aload_n 0, .getfield 9029]) (pc2 := 284) (L2 := [(2, v0), (0, v1), (9, 0), (9, 0)]) (S2 := [(0, u3), (2, v0)]) (h2 := h) (by decide +kernel) (by subst he; rfl) (by exact hg) ?_
        clear hg he
        obtain ⟨u4, hg, he, hx⟩ := bgd hx
        refine Ev.blk (is := [.aload_n 0, .getfield 9026]) (pc2 := 288) (L2 := [(2, v0), (0, v1), (9, 0), (9, 0)]) (S2 := [(0, u4), (0, u3), (2, v0)]) (h2 := h) (by decide +kernel) (by subst he; rfl) (by exact hg) ?_
        clear hg he
        refine Ev.blk (is := [.isub, .sipush 10]) (pc2 := 291) (L2 := [(2, v0), (0, v1), (9, 0), (9, 0)]) (S2 := [(0, 10), (0, w32 (u3 - u4)), (2, v0)]) (h2 := h) (by decide +kernel) rfl trivial ?_
        obtain ⟨ha, hb⟩ := bite hx
        clear hx
        refine Ev.br (i := .if_icmp .le 7) (len := 3) (a := 294) (b := 298) (by decide +kernel) rfl Iff.rfl (fun hc => ?_) (fun hc => ?_)
        · have hx := ha hc
          clear ha hb hc
          refine Ev.blk (is := [.iconst 4]) (pc2 := 295) (L2 := [(2, v0), (0, v1), (9, 0), (9, 0)]) (S2 := [(0, 4), (2, v0)]) (h2 := h) (by decide +kernel) rfl trivial ?_
          refine Ev.jp (i := .goto 4) (len := 3) (pc2 := 299) (by decide +kernel) rfl ?_
          obtain ⟨h5, hg, he, hx⟩ := bgd hx
          refine Ev.blk (is := [.putfield 9025]) (pc2 := 302) (L2 := [(2, v0), (0, v1), (9, 0), (9, 0)]) (S2 := []) (h2 := h5) (by decide +kernel) (by subst he; rfl) (by exact hg) ?_
          clear hg he
          refine Ev.jp (i := .goto 36) (len := 3) (pc2 := 338) (by decide +kernel) rfl ?_
          cases hx
          exact Ev.ret (i := .return_) (len := 1) (by decide +kernel) rfl (finOf (t := none) rfl (trivial))
        · have hx := hb hc
          clear ha hb hc
          obtain ⟨h6, hg, he, hx⟩ := bgd hx
          refine Ev.blk (is := [.iconst 2, .putfield 9025]) (pc2 := 302) (L2 := [(2, v0), (0, v1), (9, 0), (9, 0)]) (S2 := []) (h2 := h6) (by decide +kernel) (by subst he; rfl) (by exact hg) ?_
          clear hg he
          refine Ev.jp (i := .goto 36) (len := 3) (pc2 := 338) (by decide +kernel) rfl ?_
          cases hx
          exact Ev.ret (i := .return_) (len := 1) (by decide +kernel) rfl (finOf (t := none) rfl (trivial))
      · have hx := hb hc
        clear ha hb hc
        refine Ev.blk (is := [.iconst 4]) (pc2 := 295) (L2 := [(2, v0), (0, v1), (9, 0), (9, 0)]) (S2 := [(0, 4), (2, v0)]) (h2 := h) (by decide +kernel) rfl trivial ?_
        refine Ev.jp (i := .goto 4) (len := 3) (pc2 := 299) (by decide +kernel) rfl ?_
        obtain ⟨h7, hg, he, hx⟩ := bgd hx
        refine Ev.blk (is := [.putfield 9025]) (pc2 := 302) (L2 := [(2, v0), (0, v1), (9, 0), (9, 0)]) (S2 := []) (h2 := h7) (by decide +kernel) (by subst he; rfl) (by exact hg) ?_
        clear hg he
        refine Ev.jp (i := .goto 36) (len := 3) (pc2 := 338) (by decide +kernel) rfl ?_
        cases hx
        exact Ev.ret (i := .return_) (len := 1) (by decide +kernel) rfl (finOf (t := none) rfl (trivial))
    · have hx := hb hc
      clear ha hb hc
      obtain ⟨u8, hg, he, hx⟩ := bgd hx
      refine Ev.blk (is := [.aload_n 0, .getfield 9029]) (pc2 := 225) (L2 := [(2, v0), (0, v1), (9, 0), (9, 0)]) (S2 := [(0, u8)]) (h2 := h) (by decide +kernel) (by subst he; rfl) (by exact hg) ?_
      clear hg he
      obtain ⟨u9, hg, he, hx⟩ := bgd hx
      refine Ev.blk (is := [.aload_n 0, .getfield 9026]) (pc2 := 229) (L2 := [(2, v0), (0, v1), (9, 0), (9, 0)]) (S2 := [(0, u9), (0, u8)]) (h2 := h) (by decide +kernel) (by subst he; rfl) (by exact hg) ?_
      clear hg he
      refine Ev.blk (is := [.isub, .sipush 10]) (pc2 := 232) (L2 := [(2, v0), (0, v1), (9, 0), (9, 0)]) (S2 := [(0, 10), (0, w32 (u8 - u9))]) (h2 := h) (by decide +kernel) rfl trivial ?_
      obtain ⟨ha, hb⟩ := bite hx
      clear hx
      refine Ev.br (i := .if_icmp .ge 30) (len := 3) (a := 235) (b := 262) (by decide +kernel) rfl Iff.rfl (fun hc => ?_) (fun hc => ?_)
      · have hx := ha hc
        clear ha hb hc
        obtain ⟨u10, hg, he, hx⟩ := bgd hx
        refine Ev.blk (is := [.aload_n 0, .jsr_w 10, .aload_n 0, .getfield 9128]) (pc2 := 243) (L2 := [(2, v0), (0, v1), (9, 0), (9, 0)]) (S2 := [(1, u10), (1, 10), (2, v0)]) (h2 := h) (by decide +kernel) (by subst he; rfl) (by exact hg) ?_
        clear hg he
        obtain ⟨u11, hg, he, hx⟩ := bgd hx
        refine Ev.blk (is := [.lmul, .aload_n 0, .getfield 9223]) (pc2 := 248) (L2 := [(2, v0), (0, v1), (9, 0), (9, 0)]) (S2 := [(2, u11), (1, w64 (10 * u10)), (2, v0)]) (h2 := h) (by decide +kernel) (by subst he; rfl) (by exact hg) ?_
        clear hg he
        obtain ⟨u12, hg, he, hx⟩ := bgd hx
        refine Ev.blk (is := [.aload_n 0, .getfield 9029]) (pc2 := 252) (L2 := [(2, v0), (0, v1), (9, 0), (9, 0)]) (S2 := [(0, u12), (2, u11), (1, w64 (10 * u10)), (2, v0)]) (h2 := h) (by decide +kernel) (by subst he; rfl) (by exact hg) ?_
        clear hg he
        obtain ⟨u13, hg, he, hx⟩ := bgd hx
        refine Ev.blk (is := [.iaload]) (pc2 := 253) (L2 := [(2, v0), (0, v1), (9, 0), (9, 0)]) (S2 := [(0, u13), (1, w64 (10 * u10)), (2, v0)]) (h2 := h) (by decide +kernel) (by subst he; rfl) (by exact hg) ?_
        clear hg he
        obtain ⟨h14, hg, he, hx⟩ := bgd hx
        refine Ev.blk (is := [.i2l, .ladd, .jsr_w 48, .lsub, .putfield 9128]) (pc2 := 262) (L2 := [(2, v0), (0, v1), (9, 0), (9, 0)]) (S2 := []) (h2 := h14) (by decide +kernel) (by subst he; rfl) (by exact hg) ?_
        clear hg he
        obtain ⟨u15, hg, he, hx⟩ := bgd hx
        refine Ev.blk (is := [.aload_n 0, .dup, .getfield 9029]) (pc2 := 267) (L2 := [(2, v0), (0, v1), (9, 0), (9, 0)]) (S2 := [(0, u15), (2, v0)]) (h2 := h14) (by decide +kernel) (by subst he; rfl) (by exact hg) ?_
        clear hg he
        obtain ⟨h16, hg, he, hx⟩ := bgd hx
        refine Ev.blk (is := [.iconst 1, .iadd, .putfield 9029]) (pc2 := 272) (L2 := [(2, v0), (0, v1), (9, 0), (9, 0)]) (S2 := []) (h2 := h16) (by decide +kernel) (by subst he; rfl) (by exact hg) ?_
        clear hg he
        refine Ev.jp (i := .goto (-62)) (len := 3) (pc2 := 210) (by decide +kernel) rfl ?_
        exact ih v0 v1 h16 _ hx
      · have hx := hb hc
        clear ha hb hc
        obtain ⟨u17, hg, he, hx⟩ := bgd hx
        refine Ev.blk (is := [.aload_n 0, .dup, .getfield 9029]) (pc2 := 267) (L2 := [(2, v0), (0, v1), (9, 0), (9, 0)]) (S2 := [(0, u17), (2, v0)]) (h2 := h) (by decide +kernel) (by subst he; rfl) (by exact hg) ?_
        clear hg he
        obtain ⟨h18, hg, he, hx⟩ := bgd hx
        refine Ev.blk (is := [.iconst 1, .iadd, .putfield 9029]) (pc2 := 272) (L2 := [(2, v0), (0, v1), (9, 0), (9, 0)]) (S2 := []) (h2 := h18) (by decide +kernel) (by subst he; rfl) (by exact hg) ?_
        clear hg he
        refine Ev.jp (i := .goto (-62)) (len := 3) (pc2 := 210) (by decide +kernel) rfl ?_
        exact ih v0 v1 h18 _ hx
theorem y_R_goesOn_166 {sc : AS} {d : Nat} (hd : 2 ≤ d) : ∀ (fu : Nat) (v0 : Int) (v3 : Int) (h : AH) (r : AH), R_goesOn_166 fu v0 v3 h = some r → Ev sc d 204 166 [(2, v0), (9, 0), (9, 0), (0, v3)] [] h none r := by
  intro fu
  induction fu with
  | zero => intro v0 v3 h r hx; unfold R_goesOn_166 at hx; cases hx
  | succ fu ih =>
    intro v0 v3 h r hx
    unfold R_goesOn_166 at hx
    refine Ev.blk (is := [.iload_n 3, .sipush 10]) (pc2 := 169) (L2 := [(2, v0), (9, 0), (9, 0), (0, v3)]) (S2 := [(0, 10), (0, v3)]) (h2 := h) (by decide +kernel) rfl trivial ?_
    obtain ⟨ha, hb⟩ := bite hx
    clear hx
    refine Ev.br (i := .if_icmp .ge 22) (len := 3) (a := 172) (b := 191) (by decide +kernel) rfl Iff.rfl (fun hc => ?_) (fun hc => ?_)
    · have hx := ha hc
      clear ha hb hc
      refine Ev.blk (is := [.aload_n 0, .iload_n 3]) (pc2 := 174) (L2 := [(2, v0), (9, 0), (9, 0), (0, v3)]) (S2 := [(0, v3), (2, v0)]) (h2 := h) (by decide +kernel) rfl trivial ?_
      obtain ⟨_, hg, -, hx⟩ := bgd hx
      obtain ⟨u1, hc, hx⟩ := bca hx
      refine Ev.call (args := [(2, v0), (0, v3)]) (S2 := []) (r1 := (some (0, u1))) (h1 := h) (i := .invokevirtual 206) (by decide +kernel) rfl rfl (Nat.le_of_ble_eq_true rfl) (Or.inr (Or.inl ⟨rfl, hg, by decide +kernel⟩)) (x_R_isWord (by omega) hc) ?_
      obtain ⟨ha, hb⟩ := bite hx
      clear hx
      refine Ev.br (i := .ifCond .eq 8) (len := 3) (a := 185) (b := 180) (by decide +kernel) rfl Iff.rfl (fun hc => ?_) (fun hc => ?_)
      · have hx := ha hc
        clear ha hb hc
        refine Ev.blk (is := [.iinc 3 1]) (pc2 := 188) (L2 := [(2, v0), (9, 0), (9, 0), (0, w32 (v3 + 1))]) (S2 := []) (h2 := h) (by decide +kernel) rfl trivial ?_
        refine Ev.jp (i := .goto (-22)) (len := 3) (pc2 := 166) (by decide +kernel) rfl ?_
        exact ih v0 (w32 (v3 + 1)) h _ hx
      · have hx := hb hc
        clear ha hb hc
        obtain ⟨h2, hg, he, hx⟩ := bgd hx
        refine Ev.blk (is := [.aload_n 0, .iload_n 3, .putfield 9027]) (pc2 := 185) (L2 := [(2, v0), (9, 0), (9, 0), (0, v3)]) (S2 := []) (h2 := h2) (by decide +kernel) (by subst he; rfl) (by exact hg) ?_
        clear hg he
        refine Ev.blk (is := [.iinc 3 1]) (pc2 := 188) (L2 := [(2, v0), (9, 0), (9, 0), (0, w32 (v3 + 1))]) (S2 := []) (h2 := h2) (by decide +kernel) rfl trivial ?_
        refine Ev.jp (i := .goto (-22)) (len := 3) (pc2 := 166) (by decide +kernel) rfl ?_
        exact ih v0 (w32 (v3 + 1)) h2 _ hx
    · have hx := hb hc
      clear ha hb hc
      refine Ev.jp (i := .goto 147) (len := 3) (pc2 := 338) (by decide +kernel) rfl ?_
      cases hx
      exact Ev.ret (i := .return_) (len := 1) (by decide +kernel) rfl (finOf (t := none) rfl (trivial))
theorem y_R_goesOn_127 {sc : AS} {d : Nat} (hd : 2 ≤ d) : ∀ (fu : Nat) (v0 : Int) (v1 : Int) (h : AH) (r : AH), R_goesOn_127 fu v0 v1 h = some r → Ev sc d 204 127 [(2, v0), (0, v1), (9, 0), (9, 0)] [] h none r := by
  intro fu
  induction fu with
  | zero => intro v0 v1 h r hx; unfold R_goesOn_127 at hx; cases hx
  | succ fu ih =>
    intro v0 v1 h r hx
    unfold R_goesOn_127 at hx
    obtain ⟨u1, hg, he, hx⟩ := bgd hx
    refine Ev.blk (is := [.aload_n 0, .aload_n 0, .getfield 9029]) (pc2 := 132) (L2 := [(2, v0), (0, v1), (9, 0), (9, 0)]) (S2 := [(0, u1), (2, v0)]) (h2 := h) (by decide +kernel) (by subst he; rfl) (by exact hg) ?_
    clear hg he
    obtain ⟨_, hg, -, hx⟩ := bgd hx
    obtain ⟨u2, hc, hx⟩ := bca hx
    refine Ev.call (args := [(2, v0), (0, u1)]) (S2 := []) (r1 := (some (0, u2))) (h1 := h) (i := .invokevirtual 205) (by decide +kernel) rfl rfl (Nat.le_of_ble_eq_true rfl) (Or.inr (Or.inl ⟨rfl, hg, by decide +kernel⟩)) (x_R_isLetter (by omega) hc) ?_
    obtain ⟨ha, hb⟩ := bite hx
    clear hx
    refine Ev.br (i := .ifCond .eq 16) (len := 3) (a := 151) (b := 138) (by decide +kernel) rfl Iff.rfl (fun hc => ?_) (fun hc => ?_)
    · have hx := ha hc
      clear ha hb hc
      refine Ev.blk (is := [.aload_n 0, .iload_n 1]) (pc2 := 153) (L2 := [(2, v0), (0, v1), (9, 0), (9, 0)]) (S2 := [(0, v1), (2, v0)]) (h2 := h) (by decide +kernel) rfl trivial ?_
      obtain ⟨ha, hb⟩ := bite hx
      clear hx
      refine Ev.br (i := .ifCond .eq 7) (len := 3) (a := 160) (b := 156) (by decide +kernel) rfl Iff.rfl (fun hc => ?_) (fun hc => ?_)
      · have hx := ha hc
        clear ha hb hc
        obtain ⟨h3, hg, he, hx⟩ := bgd hx
        refine Ev.blk (is := [.iconst 1, .putfield 9025]) (pc2 := 164) (L2 := [(2, v0), (0, v1), (9, 0), (9, 0)]) (S2 := []) (h2 := h3) (by decide +kernel) (by subst he; rfl) (by exact hg) ?_
        clear hg he
        refine Ev.blk (is := [.iconst 0, .istore_n 3]) (pc2 := 166) (L2 := [(2, v0), (0, v1), (9, 0), (0, 0)]) (S2 := []) (h2 := h3) (by decide +kernel) rfl trivial ?_
        refine Ev.wk (L2 := [(2, v0), (9, 0), (9, 0), (0, 0)]) (wkL_of ⟨Or.inl rfl, ⟨Or.inr rfl, ⟨Or.inl rfl, ⟨Or.inl rfl, trivial⟩⟩⟩⟩) ?_
        exact y_R_goesOn_166 hd FU v0 0 h3 _ hx
      · have hx := hb hc
        clear ha hb hc
        refine Ev.blk (is := [.iconst 4]) (pc2 := 157) (L2 := [(2, v0), (0, v1), (9, 0), (9, 0)]) (S2 := [(0, 4), (2, v0)]) (h2 := h) (by decide +kernel) rfl trivial ?_
        refine Ev.jp (i := .goto 4) (len := 3) (pc2 := 161) (by decide +kernel) rfl ?_
        obtain ⟨h4, hg, he, hx⟩ := bgd hx
        refine Ev.blk (is := [.putfield 9025]) (pc2 := 164) (L2 := [(2, v0), (0, v1), (9, 0), (9, 0)]) (S2 := []) (h2 := h4) (by decide +kernel) (by subst he; rfl) (by exact hg) ?_
        clear hg he
        refine Ev.blk (is := [.iconst 0, .istore_n 3]) (pc2 := 166) (L2 := [(2, v0), (0, v1), (9, 0), (0, 0)]) (S2 := []) (h2 := h4) (by decide +kernel) rfl trivial ?_
        refine Ev.wk (L2 := [(2, v0), (9, 0), (9, 0), (0, 0)]) (wkL_of ⟨Or.inl rfl, ⟨Or.inr rfl, ⟨Or.inl rfl, ⟨Or.inl rfl, trivial⟩⟩⟩⟩) ?_
        exact y_R_goesOn_166 hd FU v0 0 h4 _ hx
    · have hx := hb hc
      clear ha hb hc
      obtain ⟨u5, hg, he, hx⟩ := bgd hx
      refine Ev.blk (is := [.aload_n 0, .dup, .getfield 9029]) (pc2 := 143) (L2 := [(2, v0), (0, v1), (9, 0), (9, 0)]) (S2 := [(0, u5), (2, v0)]) (h2 := h) (by decide +kernel) (by subst he; rfl) (by exact hg) ?_
      clear hg he
      obtain ⟨h6, hg, he, hx⟩ := bgd hx
      refine Ev.blk (is := [.iconst 1, .iadd, .putfield 9029]) (pc2 := 148) (L2 := [(2, v0), (0, v1), (9, 0), (9, 0)]) (S2 := []) (h2 := h6) (by decide +kernel) (by subst he; rfl) (by exact hg) ?_
      clear hg he
      refine Ev.jp (i := .goto (-21)) (len := 3) (pc2 := 127) (by decide +kernel) rfl ?_
      exact ih v0 v1 h6 _ hx
theorem y_R_goesOn_90 {sc : AS} {d : Nat} (hd : 2 ≤ d) : ∀ (v0 : Int) (s0 : Int) (h : AH) (r : AH), R_goesOn_90 v0 s0 h = some r → Ev sc d 204 90 [(2, v0), (9, 0), (9, 0), (9, 0)] [(0, s0)] h none r := by
  intro v0 s0 h r hx
  unfold R_goesOn_90 at hx
  obtain ⟨h1, hg, he, hx⟩ := bgd hx
  refine Ev.blk (is := [.istore_n 1, .aload_n 0, .sipush 10, .putfield 9027]) (pc2 := 97) (L2 := [(2, v0), (0, s0), (9, 0), (9, 0)]) (S2 := []) (h2 := h1) (by decide +kernel) (by subst he; rfl) (by exact hg) ?_
  clear hg he
  obtain ⟨u2, hg, he, hx⟩ := bgd hx
  refine Ev.blk (is := [.aload_n 0, .getfield 9026]) (pc2 := 101) (L2 := [(2, v0), (0, s0), (9, 0), (9, 0)]) (S2 := [(0, u2)]) (h2 := h1) (by decide +kernel) (by subst he; rfl) (by exact hg) ?_
  clear hg he
  obtain ⟨u3, hg, he, hx⟩ := bgd hx
  refine Ev.blk (is := [.aload_n 0, .getfield 9024]) (pc2 := 105) (L2 := [(2, v0), (0, s0), (9, 0), (9, 0)]) (S2 := [(0, u3), (0, u2)]) (h2 := h1) (by decide +kernel) (by subst he; rfl) (by exact hg) ?_
  clear hg he
  obtain ⟨ha, hb⟩ := bite hx
  clear hx
  refine Ev.br (i := .if_icmp .ne 11) (len := 3) (a := 108) (b := 116) (by decide +kernel) rfl Iff.rfl (fun hc => ?_) (fun hc => ?_)
  · have hx := ha hc
    clear ha hb hc
    obtain ⟨h4, hg, he, hx⟩ := bgd hx
    refine Ev.blk (is := [.aload_n 0, .iconst 0, .putfield 9025]) (pc2 := 113) (L2 := [(2, v0), (0, s0), (9, 0), (9, 0)]) (S2 := []) (h2 := h4) (by decide +kernel) (by subst he; rfl) (by exact hg) ?_
    clear hg he
    refine Ev.jp (i := .goto 225) (len := 3) (pc2 := 338) (by decide +kernel) rfl ?_
    cases hx
    exact Ev.ret (i := .return_) (len := 1) (by decide +kernel) rfl (finOf (t := none) rfl (trivial))
  · have hx := hb hc
    clear ha hb hc
    obtain ⟨u5, hg, he, hx⟩ := bgd hx
    refine Ev.blk (is := [.aload_n 0, .aload_n 0, .getfield 9026]) (pc2 := 121) (L2 := [(2, v0), (0, s0), (9, 0), (9, 0)]) (S2 := [(0, u5), (2, v0)]) (h2 := h1) (by decide +kernel) (by subst he; rfl) (by exact hg) ?_
    clear hg he
    obtain ⟨_, hg, -, hx⟩ := bgd hx
    obtain ⟨u6, hc, hx⟩ := bca hx
    refine Ev.call (args := [(2, v0), (0, u5)]) (S2 := []) (r1 := (some (0, u6))) (h1 := h1) (i := .invokevirtual 205) (by decide +kernel) rfl rfl (Nat.le_of_ble_eq_true rfl) (Or.inr (Or.inl ⟨rfl, hg, by decide +kernel⟩)) (x_R_isLetter (by omega) hc) ?_
    obtain ⟨ha, hb⟩ := bite hx
    clear hx
    refine Ev.br (i := .ifCond .eq 70) (len := 3) (a := 194) (b := 127) (by decide +kernel) rfl Iff.rfl (fun hc => ?_) (fun hc => ?_)
    · have hx := ha hc
      clear ha hb hc
      obtain ⟨u7, hg, he, hx⟩ := bgd hx
      refine Ev.blk (is := [.aload_n 0, .aload_n 0, .getfield 9026]) (pc2 := 199) (L2 := [(2, v0), (0, s0), (9, 0), (9, 0)]) (S2 := [(0, u7), (2, v0)]) (h2 := h1) (by decide +kernel) (by subst he; rfl) (by exact hg) ?_
      clear hg he
      obtain ⟨_, hg, -, hx⟩ := bgd hx
      obtain ⟨u8, hc, hx⟩ := bca hx
      refine Ev.call (args := [(2, v0), (0, u7)]) (S2 := []) (r1 := (some (0, u8))) (h1 := h1) (i := .invokevirtual 208) (by decide +kernel) rfl rfl (Nat.le_of_ble_eq_true rfl) (Or.inr (Or.inl ⟨rfl, hg, by decide +kernel⟩)) (x_R_isDigit (by omega) hc) ?_
      obtain ⟨ha, hb⟩ := bite hx
      clear hx
      refine Ev.br (i := .ifCond .eq 103) (len := 3) (a := 305) (b := 205) (by decide +kernel) rfl Iff.rfl (fun hc => ?_) (fun hc => ?_)
      · have hx := ha hc
        clear ha hb hc
        obtain ⟨u9, hg, he, hx⟩ := bgd hx
        refine Ev.blk (is := [.aload_n 0, .aload_n 0, .getfield 9223]) (pc2 := 310) (L2 := [(2, v0), (0, s0), (9, 0), (9, 0)]) (S2 := [(2, u9), (2, v0)]) (h2 := h1) (by decide +kernel) (by subst he; rfl) (by exact hg) ?_
        clear hg he
        obtain ⟨u10, hg, he, hx⟩ := bgd hx
        refine Ev.blk (is := [.aload_n 0, .getfield 9026]) (pc2 := 314) (L2 := [(2, v0), (0, s0), (9, 0), (9, 0)]) (S2 := [(0, u10), (2, u9), (2, v0)]) (h2 := h1) (by decide +kernel) (by subst he; rfl) (by exact hg) ?_
        clear hg he
        obtain ⟨u11, hg, he, hx⟩ := bgd hx
        refine Ev.blk (is := [.iaload]) (pc2 := 315) (L2 := [(2, v0), (0, s0), (9, 0), (9, 0)]) (S2 := [(0, u11), (2, v0)]) (h2 := h1) (by decide +kernel) (by subst he; rfl) (by exact hg) ?_
        clear hg he
        refine Ev.blk (is := [.sipush 59]) (pc2 := 317) (L2 := [(2, v0), (0, s0), (9, 0), (9, 0)]) (S2 := [(0, 59), (0, u11), (2, v0)]) (h2 := h1) (by decide +kernel) rfl trivial ?_
        obtain ⟨ha, hb⟩ := bite hx
        clear hx
        refine Ev.br (i := .if_icmp .ne 7) (len := 3) (a := 320) (b := 324) (by decide +kernel) rfl Iff.rfl (fun hc => ?_) (fun hc => ?_)
        · have hx := ha hc
          clear ha hb hc
          refine Ev.blk (is := [.iconst 3]) (pc2 := 321) (L2 := [(2, v0), (0, s0), (9, 0), (9, 0)]) (S2 := [(0, 3), (2, v0)]) (h2 := h1) (by decide +kernel) rfl trivial ?_
          refine Ev.jp (i := .goto 4) (len := 3) (pc2 := 325) (by decide +kernel) rfl ?_
          obtain ⟨h12, hg, he, hx⟩ := bgd hx
          refine Ev.blk (is := [.putfield 9025]) (pc2 := 328) (L2 := [(2, v0), (0, s0), (9, 0), (9, 0)]) (S2 := []) (h2 := h12) (by decide +kernel) (by subst he; rfl) (by exact hg) ?_
          clear hg he
          obtain ⟨u13, hg, he, hx⟩ := bgd hx
          refine Ev.blk (is := [.aload_n 0, .dup, .getfield 9029]) (pc2 := 333) (L2 := [(2, v0), (0, s0), (9, 0), (9, 0)]) (S2 := [(0, u13), (2, v0)]) (h2 := h12) (by decide +kernel) (by subst he; rfl) (by exact hg) ?_
          clear hg he
          obtain ⟨h14, hg, he, hx⟩ := bgd hx
          refine Ev.blk (is := [.iconst 1, .iadd, .putfield 9029]) (pc2 := 338) (L2 := [(2, v0), (0, s0), (9, 0), (9, 0)]) (S2 := []) (h2 := h14) (by decide +kernel) (by subst he; rfl) (by exact hg) ?_
          clear hg he
          cases hx
          exact Ev.ret (i := .return_) (len := 1) (by decide +kernel) rfl (finOf (t := none) rfl (trivial))
        · have hx := hb hc
          clear ha hb hc
          obtain ⟨h15, hg, he, hx⟩ := bgd hx
          refine Ev.blk (is := [.iconst 4, .putfield 9025]) (pc2 := 328) (L2 := [(2, v0), (0, s0), (9, 0), (9, 0)]) (S2 := []) (h2 := h15) (by decide +kernel) (by subst he; rfl) (by exact hg) ?_
          clear hg he
          obtain ⟨u16, hg, he, hx⟩ := bgd hx
          refine Ev.blk (is := [.aload_n 0, .dup, .getfield 9029]) (pc2 := 333) (L2 := [(2, v0), (0, s0), (9, 0), (9, 0)]) (S2 := [(0, u16), (2, v0)]) (h2 := h15) (by decide +kernel) (by subst he; rfl) (by exact hg) ?_
          clear hg he
          obtain ⟨h17, hg, he, hx⟩ := bgd hx
          refine Ev.blk (is := [.iconst 1, .iadd, .putfield 9029]) (pc2 := 338) (L2 := [(2, v0), (0, s0), (9, 0), (9, 0)]) (S2 := []) (h2 := h17) (by decide +kernel) (by subst he; rfl) (by exact hg) ?_
          clear hg he
          cases hx
          exact Ev.ret (i := .return_) (len := 1) (by decide +kernel) rfl (finOf (t := none) rfl (trivial))
      · have hx := hb hc
        clear ha hb hc
        obtain ⟨h18, hg, he, hx⟩ := bgd hx
        refine Ev.blk (is := [.aload_n 0, .lconst 0, .putfield 9128]) (pc2 := 210) (L2 := [(2, v0), (0, s0), (9, 0), (9, 0)]) (S2 := []) (h2 := h18) (by decide +kernel) (by subst he; rfl) (by exact hg) ?_
        clear hg he
        exact y_R_goesOn_210 hd FU v0 s0 h18 _ hx
    · have hx := hb hc
      clear ha hb hc
      exact y_R_goesOn_127 hd FU v0 s0 h1 _ hx
theorem y_R_goesOn_27 {sc : AS} {d : Nat} (hd : 2 ≤ d) : ∀ (fu : Nat) (v0 : Int) (v1 : Int) (v2 : Int) (h : AH) (r : AH), R_goesOn_27 fu v0 v1 v2 h = some r → Ev sc d 204 27 [(2, v0), (0, v1), (0, v2), (9, 0)] [] h none r := by
  intro fu
  induction fu with
  | zero => intro v0 v1 v2 h r hx; unfold R_goesOn_27 at hx; cases hx
  | succ fu ih =>
    intro v0 v1 v2 h r hx
    unfold R_goesOn_27 at hx
    obtain ⟨u1, hg, he, hx⟩ := bgd hx
    refine Ev.blk (is := [.aload_n 0, .getfield 9029]) (pc2 := 31) (L2 := [(2, v0), (0, v1), (0, v2), (9, 0)]) (S2 := [(0, u1)]) (h2 := h) (by decide +kernel) (by subst he; rfl) (by exact hg) ?_
    clear hg he
    obtain ⟨u2, hg, he, hx⟩ := bgd hx
    refine Ev.blk (is := [.aload_n 0, .getfield 9024]) (pc2 := 35) (L2 := [(2, v0), (0, v1), (0, v2), (9, 0)]) (S2 := [(0, u2), (0, u1)]) (h2 := h) (by decide +kernel) (by subst he; rfl) (by exact hg) ?_
    clear hg he
    obtain ⟨ha, hb⟩ := bite hx
    clear hx
    refine Ev.br (i := .if_icmp .ge 30) (len := 3) (a := 38) (b := 65) (by decide +kernel) rfl Iff.rfl (fun hc => ?_) (fun hc => ?_)
    · have hx := ha hc
      clear ha hb hc
      obtain ⟨u3, hg, he, hx⟩ := bgd hx
      refine Ev.blk (is := [.aload_n 0, .getfield 9223]) (pc2 := 42) (L2 := [(2, v0), (0, v1), (0, v2), (9, 0)]) (S2 := [(2, u3)]) (h2 := h) (by decide +kernel) (by subst he; rfl) (by exact hg) ?_
      clear hg he
      obtain ⟨u4, hg, he, hx⟩ := bgd hx
      refine Ev.blk (is := [.aload_n 0, .getfield 9029]) (pc2 := 46) (L2 := [(2, v0), (0, v1), (0, v2), (9, 0)]) (S2 := [(0, u4), (2, u3)]) (h2 := h) (by decide +kernel) (by subst he; rfl) (by exact hg) ?_
      clear hg he
      obtain ⟨u5, hg, he, hx⟩ := bgd hx
      refine Ev.blk (is := [.iaload]) (pc2 := 47) (L2 := [(2, v0), (0, v1), (0, v2), (9, 0)]) (S2 := [(0, u5)]) (h2 := h) (by decide +kernel) (by subst he; rfl) (by exact hg) ?_
      clear hg he
      refine Ev.blk (is := [.sipush 32]) (pc2 := 49) (L2 := [(2, v0), (0, v1), (0, v2), (9, 0)]) (S2 := [(0, 32), (0, u5)]) (h2 := h) (by decide +kernel) rfl trivial ?_
      obtain ⟨ha, hb⟩ := bite hx
      clear hx
      refine Ev.br (i := .if_icmp .ne 16) (len := 3) (a := 52) (b := 65) (by decide +kernel) rfl Iff.rfl (fun hc => ?_) (fun hc => ?_)
      · have hx := ha hc
        clear ha hb hc
        obtain ⟨u6, hg, he, hx⟩ := bgd hx
        refine Ev.blk (is := [.aload_n 0, .dup, .getfield 9029]) (pc2 := 57) (L2 := [(2, v0), (0, v1), (0, v2), (9, 0)]) (S2 := [(0, u6), (2, v0)]) (h2 := h) (by decide +kernel) (by subst he; rfl) (by exact hg) ?_
        clear hg he
        obtain ⟨h7, hg, he, hx⟩ := bgd hx
        refine Ev.blk (is := [.iconst 1, .iadd, .putfield 9029]) (pc2 := 62) (L2 := [(2, v0), (0, v1), (0, v2), (9, 0)]) (S2 := []) (h2 := h7) (by decide +kernel) (by subst he; rfl) (by exact hg) ?_
        clear hg he
        refine Ev.jp (i := .goto (-35)) (len := 3) (pc2 := 27) (by decide +kernel) rfl ?_
        exact ih v0 v1 v2 h7 _ hx
      · have hx := hb hc
        clear ha hb hc
        obtain ⟨u8, hg, he, hx⟩ := bgd hx
        refine Ev.blk (is := [.aload_n 0, .aload_n 0, .getfield 9029]) (pc2 := 70) (L2 := [(2, v0), (0, v1), (0, v2), (9, 0)]) (S2 := [(0, u8), (2, v0)]) (h2 := h) (by decide +kernel) (by subst he; rfl) (by exact hg) ?_
        clear hg he
        obtain ⟨h9, hg, he, hx⟩ := bgd hx
        refine Ev.blk (is := [.putfield 9026]) (pc2 := 73) (L2 := [(2, v0), (0, v1), (0, v2), (9, 0)]) (S2 := []) (h2 := h9) (by decide +kernel) (by subst he; rfl) (by exact hg) ?_
        clear hg he
        refine Ev.blk (is := [.iload_n 1]) (pc2 := 74) (L2 := [(2, v0), (0, v1), (0, v2), (9, 0)]) (S2 := [(0, v1)]) (h2 := h9) (by decide +kernel) rfl trivial ?_
        obtain ⟨ha, hb⟩ := bite hx
        clear hx
        refine Ev.br (i := .ifCond .eq 15) (len := 3) (a := 89) (b := 77) (by decide +kernel) rfl Iff.rfl (fun hc => ?_) (fun hc => ?_)
        · have hx := ha hc
          clear ha hb hc
          refine Ev.blk (is := [.iconst 0]) (pc2 := 90) (L2 := [(2, v0), (0, v1), (0, v2), (9, 0)]) (S2 := [(0, 0)]) (h2 := h9) (by decide +kernel) rfl trivial ?_
          refine Ev.wk (L2 := [(2, v0), (9, 0), (9, 0), (9, 0)]) (wkL_of ⟨Or.inl rfl, ⟨Or.inr rfl, ⟨Or.inr rfl, ⟨Or.inl rfl, trivial⟩⟩⟩⟩) ?_
          exact y_R_goesOn_90 hd v0 0 h9 _ hx
        · have hx := hb hc
          clear ha hb hc
          obtain ⟨u10, hg, he, hx⟩ := bgd hx
          refine Ev.blk (is := [.aload_n 0, .getfield 9026]) (pc2 := 81) (L2 := [(2, v0), (0, v1), (0, v2), (9, 0)]) (S2 := [(0, u10)]) (h2 := h9) (by decide +kernel) (by subst he; rfl) (by exact hg) ?_
          clear hg he
          refine Ev.blk (is := [.iload_n 2]) (pc2 := 82) (L2 := [(2, v0), (0, v1), (0, v2), (9, 0)]) (S2 := [(0, v2), (0, u10)]) (h2 := h9) (by decide +kernel) rfl trivial ?_
          obtain ⟨ha, hb⟩ := bite hx
          clear hx
          refine Ev.br (i := .if_icmp .ne 7) (len := 3) (a := 85) (b := 89) (by decide +kernel) rfl Iff.rfl (fun hc => ?_) (fun hc => ?_)
          · have hx := ha hc
            clear ha hb hc
            refine Ev.blk (is := [.iconst 1]) (pc2 := 86) (L2 := [(2, v0), (0, v1), (0, v2), (9, 0)]) (S2 := [(0, 1)]) (h2 := h9) (by decide +kernel) rfl trivial ?_
            refine Ev.jp (i := .goto 4) (len := 3) (pc2 := 90) (by decide +kernel) rfl ?_
            refine Ev.wk (L2 := [(2, v0), (9, 0), (9, 0), (9, 0)]) (wkL_of ⟨Or.inl rfl, ⟨Or.inr rfl, ⟨Or.inr rfl, ⟨Or.inl rfl, trivial⟩⟩⟩⟩) ?_
            exact y_R_goesOn_90 hd v0 1 h9 _ hx
          · have hx := hb hc
            clear ha hb hc
            refine Ev.blk (is := [.iconst 0]) (pc2 := 90) (L2 := [(2, v0), (0, v1), (0, v2), (9, 0)]) (S2 := [(0, 0)]) (h2 := h9) (by decide +kernel) rfl trivial ?_
            refine Ev.wk (L2 := [(2, v0), (9, 0), (9, 0), (9, 0)]) (wkL_of ⟨Or.inl rfl, ⟨Or.inr rfl, ⟨Or.inr rfl, ⟨Or.inl rfl, trivial⟩⟩⟩⟩) ?_
            exact y_R_goesOn_90 hd v0 0 h9 _ hx
    · have hx := hb hc
      clear ha hb hc
      obtain ⟨u11, hg, he, hx⟩ := bgd hx
      refine Ev.blk (is := [.aload_n 0, .aload_n 0, .getfield 9029]) (pc2 := 70) (L2 := [(2, v0), (0, v1), (0, v2), (9, 0)]) (S2 := [(0, u11), (2, v0)]) (h2 := h) (by decide +kernel) (by subst he; rfl) (by exact hg) ?_
      clear hg he
      obtain ⟨h12, hg, he, hx⟩ := bgd hx
      refine Ev.blk (is := [.putfield 9026]) (pc2 := 73) (L2 := [(2, v0), (0, v1), (0, v2), (9, 0)]) (S2 := []) (h2 := h12) (by decide +kernel) (by subst he; rfl) (by exact hg) ?_
      clear hg he
      refine Ev.blk (is := [.iload_n 1]) (pc2 := 74) (L2 := [(2, v0), (0, v1), (0, v2), (9, 0)]) (S2 := [(0, v1)]) (h2 := h12) (by decide +kernel) rfl trivial ?_
      obtain ⟨ha, hb⟩ := bite hx
      clear hx
      refine Ev.br (i := .ifCond .eq 15) (len := 3) (a := 89) (b := 77) (by decide +kernel) rfl Iff.rfl (fun hc => ?_) (fun hc => ?_)
      · have hx := ha hc
        clear ha hb hc
        refine Ev.blk (is := [.iconst 0]) (pc2 := 90) (L2 := [(2, v0), (0, v1), (0, v2), (9, 0)]) (S2 := [(0, 0)]) (h2 := h12) (by decide +kernel) rfl trivial ?_
        refine Ev.wk (L2 := [(2, v0), (9, 0), (9, 0), (9, 0)]) (wkL_of ⟨Or.inl rfl, ⟨Or.inr rfl, ⟨Or.inr rfl, ⟨Or.inl rfl, trivial⟩⟩⟩⟩) ?_
        exact y_R_goesOn_90 hd v0 0 h12 _ hx
      · have hx := hb hc
        clear ha hb hc
        obtain ⟨u13, hg, he, hx⟩ := bgd hx
        refine Ev.blk (is := [.aload_n 0, .getfield 9026]) (pc2 := 81) (L2 := [(2, v0), (0, v1), (0, v2), (9, 0)]) (S2 := [(0, u13)]) (h2 := h12) (by decide +kernel) (by subst he; rfl) (by exact hg) ?_
        clear hg he
        refine Ev.blk (is := [.iload_n 2]) (pc2 := 82) (L2 := [(2, v0), (0, v1), (0, v2), (9, 0)]) (S2 := [(0, v2), (0, u13)]) (h2 := h12) (by decide +kernel) rfl trivial ?_
        obtain ⟨ha, hb⟩ := bite hx
        clear hx
        refine Ev.br (i := .if_icmp .ne 7) (len := 3) (a := 85) (b := 89) (by decide +kernel) rfl Iff.rfl (fun hc => ?_) (fun hc => ?_)
        · have hx := ha hc
          clear ha hb hc
          refine Ev.blk (is := [.iconst 1]) (pc2 := 86) (L2 := [(2, v0), (0, v1), (0, v2), (9, 0)]) (S2 := [(0, 1)]) (h2 := h12) (by decide +kernel) rfl trivial ?_
          refine Ev.jp (i := .goto 4) (len := 3) (pc2 := 90) (by decide +kernel) rfl ?_
          refine Ev.wk (L2 := [(2, v0), (9, 0), (9, 0), (9, 0)]) (wkL_of ⟨Or.inl rfl, ⟨Or.inr rfl, ⟨Or.inr rfl, ⟨Or.inl rfl, trivial⟩⟩⟩⟩) ?_
          exact y_R_goesOn_90 hd v0 1 h12 _ hx
        · have hx := hb hc
          clear ha hb hc
          refine Ev.blk (is := [.iconst 0]) (pc2 := 90) (L2 := [(2, v0), (0, v1), (0, v2), (9, 0)]) (S2 := [(0, 0)]) (h2 := h12) (by decide +kernel) rfl trivial ?_
          refine Ev.wk (L2 := [(2, v0), (9, 0), (9, 0), (9, 0)]) (wkL_of ⟨Or.inl rfl, ⟨Or.inr rfl, ⟨Or.inr rfl, ⟨Or.inl rfl, trivial⟩⟩⟩⟩) ?_
          exact y_R_goesOn_90 hd v0 0 h12 _ hx
theorem x_R_goesOn {sc : AS} {d : Nat} (hd : 3 ≤ d) {v0 : Int} {h : AH} {r : AH} (hx : R_goesOn v0 h = some r) : Runs sc d 204 [(2, v0)] h none r := by
  obtain ⟨d, rfl⟩ : ∃ e, d = e + 1 := ⟨d - 1, by omega⟩
  have hd : 2 ≤ d := by omega
  unfold R_goesOn at hx
  refine ⟨⟨aM_204, rfl, Nat.le_of_ble_eq_true rfl⟩, ?_⟩
  show Ev sc d 204 0 [(2, v0), (9, 0), (9, 0), (9, 0)] [] h none r
  obtain ⟨u1, hg, he, hx⟩ := bgd hx
  refine Ev.blk (is := [.aload_n 0, .getfield 9025]) (pc2 := 4) (L2 := [(2, v0), (9, 0), (9, 0), (9, 0)]) (S2 := [(0, u1)]) (h2 := h) (by decide +kernel) (by subst he; rfl) (by exact hg) ?_
  clear hg he
  refine Ev.blk (is := [.iconst 1]) (pc2 := 5) (L2 := [(2, v0), (9, 0), (9, 0), (9, 0)]) (S2 := [(0, 1), (0, u1)]) (h2 := h) (by decide +kernel) rfl trivial ?_
  obtain ⟨ha, hb⟩ := bite hx
  clear hx
  refine Ev.br (i := .if_icmp .eq 11) (len := 3) (a := 16) (b := 8) (by decide +kernel) rfl Iff.rfl (fun hc => ?_) (fun hc => ?_)
  · have hx := ha hc
    clear ha hb hc
    refine Ev.blk (is := [.iconst 1]) (pc2 := 17) (L2 := [(2, v0), (9, 0), (9, 0), (9, 0)]) (S2 := [(0, 1)]) (h2 := h) (by decide +kernel) rfl trivial ?_
    refine Ev.jp (i := .goto 4) (len := 3) (pc2 := 21) (by decide +kernel) rfl ?_
    obtain ⟨u2, hg, he, hx⟩ := bgd hx
    refine Ev.blk (is := [.istore_n 1, .aload_n 0, .getfield 9029]) (pc2 := 26) (L2 := [(2, v0), (0, 1), (9, 0), (9, 0)]) (S2 := [(0, u2)]) (h2 := h) (by decide +kernel) (by subst he; rfl) (by exact hg) ?_
    clear hg he
    refine Ev.blk (is := [.istore_n 2]) (pc2 := 27) (L2 := [(2, v0), (0, 1), (0, u2), (9, 0)]) (S2 := []) (h2 := h) (by decide +kernel) rfl trivial ?_
    exact y_R_goesOn_27 hd FU v0 1 u2 h _ hx
  · have hx := hb hc
    clear ha hb hc
    obtain ⟨u3, hg, he, hx⟩ := bgd hx
    refine Ev.blk (is := [.aload_n 0, .getfield 9025]) (pc2 := 12) (L2 := [(2, v0), (9, 0), (9, 0), (9, 0)]) (S2 := [(0, u3)]) (h2 := h) (by decide +kernel) (by subst he; rfl) (by exact hg) ?_
    clear hg he
    refine Ev.blk (is := [.iconst 2]) (pc2 := 13) (L2 := [(2, v0), (9, 0), (9, 0), (9, 0)]) (S2 := [(0, 2), (0, u3)]) (h2 := h) (by decide +kernel) rfl trivial ?_
    obtain ⟨ha, hb⟩ := bite hx
    clear hx
    refine Ev.br (i := .if_icmp .ne 7) (len := 3) (a := 16) (b := 20) (by decide +kernel) rfl Iff.rfl (fun hc => ?_) (fun hc => ?_)
    · have hx := ha hc
      clear ha hb hc
      refine Ev.blk (is := [.iconst 1]) (pc2 := 17) (L2 := [(2, v0), (9, 0), (9, 0), (9, 0)]) (S2 := [(0, 1)]) (h2 := h) (by decide +kernel) rfl trivial ?_
      refine Ev.jp (i := .goto 4) (len := 3) (pc2 := 21) (by decide +kernel) rfl ?_
      obtain ⟨u4, hg, he, hx⟩ := bgd hx
      refine Ev.blk (is := [.istore_n 1, .aload_n 0, .getfield 9029]) (pc2 := 26) (L2 := [(2, v0), (0, 1), (9, 0), (9, 0)]) (S2 := [(0, u4)]) (h2 := h) (by decide +kernel) (by subst he; rfl) (by exact hg) ?_
      clear hg he
      refine Ev.blk (is := [.istore_n 2]) (pc2 := 27) (L2 := [(2, v0), (0, 1), (0, u4), (9, 0)]) (S2 := []) (h2 := h) (by decide +kernel) rfl trivial ?_
      exact y_R_goesOn_27 hd FU v0 1 u4 h _ hx
    · have hx := hb hc
      clear ha hb hc
      obtain ⟨u5, hg, he, hx⟩ := bgd hx
      refine Ev.blk (is := [.iconst 0, .istore_n 1, .aload_n 0, .getfield 9029]) (pc2 := 26) (L2 := [(2, v0), (0, 0), (9, 0), (9, 0)]) (S2 := [(0, u5)]) (h2 := h) (by decide +kernel) (by subst he; rfl) (by exact hg) ?_
      clear hg he
      refine Ev.blk (is := [.istore_n 2]) (pc2 := 27) (L2 := [(2, v0), (0, 0), (0, u5), (9, 0)]) (S2 := []) (h2 := h) (by decide +kernel) rfl trivial ?_
      exact y_R_goesOn_27 hd FU v0 0 u5 h _ hx
theorem x_R_fails {sc : AS} {d : Nat} (hd : 1 ≤ d) {v0 : Int} {h : AH} {r : AH} (hx : R_fails v0 h = some r) : Runs sc d 210 [(2, v0)] h none r := by
  obtain ⟨d, rfl⟩ : ∃ e, d = e + 1 := ⟨d - 1, by omega⟩
  have hd : 0 ≤ d := by omega
  unfold R_fails at hx
  refine ⟨⟨aM_210, rfl, Nat.le_of_ble_eq_true rfl⟩, ?_⟩
  show Ev sc d 210 0 [(2, v0)] [] h none r
  obtain ⟨u1, hg, he, hx⟩ := bgd hx
  refine Ev.blk (is := [.aload_n 0, .getfield 9030]) (pc2 := 4) (L2 := [(2, v0)]) (S2 := [(0, u1)]) (h2 := h) (by decide +kernel) (by subst he; rfl) (by exact hg) ?_
  clear hg he
  refine Ev.blk (is := [.iconst (-1)]) (pc2 := 5) (L2 := [(2, v0)]) (S2 := [(0, (-1)), (0, u1)]) (h2 := h) (by decide +kernel) rfl trivial ?_
  obtain ⟨ha, hb⟩ := bite hx
  clear hx
  refine Ev.br (i := .if_icmp .ne 11) (len := 3) (a := 8) (b := 16) (by decide +kernel) rfl Iff.rfl (fun hc => ?_) (fun hc => ?_)
  · have hx := ha hc
    clear ha hb hc
    obtain ⟨u2, hg, he, hx⟩ := bgd hx
    refine Ev.blk (is := [.aload_n 0, .aload_n 0, .getfield 9026]) (pc2 := 13) (L2 := [(2, v0)]) (S2 := [(0, u2), (2, v0)]) (h2 := h) (by decide +kernel) (by subst he; rfl) (by exact hg) ?_
    clear hg he
    obtain ⟨h3, hg, he, hx⟩ := bgd hx
    refine Ev.blk (is := [.putfield 9030]) (pc2 := 16) (L2 := [(2, v0)]) (S2 := []) (h2 := h3) (by decide +kernel) (by subst he; rfl) (by exact hg) ?_
    clear hg he
    cases hx
    exact Ev.ret (i := .return_) (len := 1) (by decide +kernel) rfl (finOf (t := none) rfl (trivial))
  · have hx := hb hc
    clear ha hb hc
    cases hx
    exact Ev.ret (i := .return_) (len := 1) (by decide +kernel) rfl (finOf (t := none) rfl (trivial))
theorem y_R_needsInt_32 {sc : AS} {d : Nat} (hd : 3 ≤ d) : ∀ (v0 : Int) (v1 : Int) (h : AH) (r : (Int × AH)), R_needsInt_32 v0 v1 h = some r → Ev sc d 211 32 [(2, v0), (0, v1), (9, 0), (9, 0)] [] h (some (0, r.1)) r.2 := by
  intro v0 v1 h r hx
  unfold R_needsInt_32 at hx
  refine Ev.blk (is := [.aload_n 0]) (pc2 := 33) (L2 := [(2, v0), (0, v1), (9, 0), (9, 0)]) (S2 := [(2, v0)]) (h2 := h) (by decide +kernel) rfl trivial ?_
  obtain ⟨_, hg, -, hx⟩ := bgd hx
  obtain ⟨h2, hc, hx⟩ := bca hx
  refine Ev.call (args := [(2, v0)]) (S2 := []) (r1 := none) (h1 := h2) (i := .invokevirtual 210) (by decide +kernel) rfl rfl (Nat.le_of_ble_eq_true rfl) (Or.inr (Or.inl ⟨rfl, hg, by decide +kernel⟩)) (x_R_fails (by omega) hc) ?_
  refine Ev.blk (is := [.iload_n 1]) (pc2 := 37) (L2 := [(2, v0), (0, v1), (9, 0), (9, 0)]) (S2 := [(0, v1)]) (h2 := h2) (by decide +kernel) rfl trivial ?_
  cases hx
  exact Ev.ret (i := .ireturn) (len := 1) (by decide +kernel) rfl (finOf (t := some .int) rfl (trivial))
theorem x_R_needsInt {sc : AS} {d : Nat} (hd : 4 ≤ d) {v0 : Int} {v1 : Int} {v2 : Int} {h : AH} {r : (Int × AH)} (hx : R_needsInt v0 v1 v2 h = some r) : Runs sc d 211 [(2, v0), (0, v1), (0, v2)] h (some (0, r.1)) r.2 := by
  obtain ⟨d, rfl⟩ : ∃ e, d = e + 1 := ⟨d - 1, by omega⟩
  have hd : 3 ≤ d := by omega
  unfold R_needsInt at hx
  refine ⟨⟨aM_211, rfl, Nat.le_of_ble_eq_true rfl⟩, ?_⟩
  show Ev sc d 211 0 [(2, v0), (0, v1), (0, v2), (9, 0)] [] h (some (0, r.1)) r.2
  obtain ⟨u1, hg, he, hx⟩ := bgd hx
  refine Ev.blk (is := [.aload_n 0, .getfield 9030]) (pc2 := 4) (L2 := [(2, v0), (0, v1), (0, v2), (9, 0)]) (S2 := [(0, u1)]) (h2 := h) (by decide +kernel) (by subst he; rfl) (by exact hg) ?_
  clear hg he
  refine Ev.blk (is := [.iconst (-1)]) (pc2 := 5) (L2 := [(2, v0), (0, v1), (0, v2), (9, 0)]) (S2 := [(0, (-1)), (0, u1)]) (h2 := h) (by decide +kernel) rfl trivial ?_
  obtain ⟨ha, hb⟩ := bite hx
  clear hx
  refine Ev.br (i := .if_icmp .eq 5) (len := 3) (a := 10) (b := 8) (by decide +kernel) rfl Iff.rfl (fun hc => ?_) (fun hc => ?_)
  · have hx := ha hc
    clear ha hb hc
    obtain ⟨u2, hg, he, hx⟩ := bgd hx
    refine Ev.blk (is := [.aload_n 0, .getfield 9025]) (pc2 := 14) (L2 := [(2, v0), (0, v1), (0, v2), (9, 0)]) (S2 := [(0, u2)]) (h2 := h) (by decide +kernel) (by subst he; rfl) (by exact hg) ?_
    clear hg he
    refine Ev.blk (is := [.iconst 2]) (pc2 := 15) (L2 := [(2, v0), (0, v1), (0, v2), (9, 0)]) (S2 := [(0, 2), (0, u2)]) (h2 := h) (by decide +kernel) rfl trivial ?_
    obtain ⟨ha, hb⟩ := bite hx
    clear hx
    refine Ev.br (i := .if_icmp .ne 17) (len := 3) (a := 18) (b := 32) (by decide +kernel) rfl Iff.rfl (fun hc => ?_) (fun hc => ?_)
    · have hx := ha hc
      clear ha hb hc
      obtain ⟨u3, hg, he, hx⟩ := bgd hx
      refine Ev.blk (is := [.aload_n 0, .getfield 9128]) (pc2 := 22) (L2 := [(2, v0), (0, v1), (0, v2), (9, 0)]) (S2 := [(1, u3)]) (h2 := h) (by decide +kernel) (by subst he; rfl) (by exact hg) ?_
      clear hg he
      refine Ev.blk (is := [.iload_n 1, .i2l, .iload_n 2, .i2l]) (pc2 := 26) (L2 := [(2, v0), (0, v1), (0, v2), (9, 0)]) (S2 := [(1, v2), (1, v1), (1, u3)]) (h2 := h) (by decide +kernel) rfl trivial ?_
      obtain ⟨u4, hc, hx⟩ := bca hx
      refine Ev.call (args := [(1, u3), (1, v1), (1, v2)]) (S2 := []) (r1 := (some (0, u4))) (h1 := h) (i := .invokestatic 162) (by decide +kernel) rfl rfl (Nat.le_of_ble_eq_true rfl) (Or.inl rfl) (x_R_in (by omega) hc) ?_
      obtain ⟨ha, hb⟩ := bite hx
      clear hx
      refine Ev.br (i := .ifCond .ne 9) (len := 3) (a := 32) (b := 38) (by decide +kernel) rfl Iff.rfl (fun hc => ?_) (fun hc => ?_)
      · have hx := ha hc
        clear ha hb hc
        refine Ev.wk (L2 := [(2, v0), (0, v1), (9, 0), (9, 0)]) (wkL_of ⟨Or.inl rfl, ⟨Or.inl rfl, ⟨Or.inr rfl, ⟨Or.inl rfl, trivial⟩⟩⟩⟩) ?_
        exact y_R_needsInt_32 hd v0 v1 h _ hx
      · have hx := hb hc
        clear ha hb hc
        obtain ⟨u5, hg, he, hx⟩ := bgd hx
        refine Ev.blk (is := [.aload_n 0, .getfield 9128]) (pc2 := 42) (L2 := [(2, v0), (0, v1), (0, v2), (9, 0)]) (S2 := [(1, u5)]) (h2 := h) (by decide +kernel) (by subst he; rfl) (by exact hg) ?_
        clear hg he
        refine Ev.blk (is := [.l2i, .istore_n 3, .aload_n 0]) (pc2 := 45) (L2 := [(2, v0), (0, v1), (0, v2), (0, w32 u5)]) (S2 := [(2, v0)]) (h2 := h) (by decide +kernel) rfl trivial ?_
        obtain ⟨_, hg, -, hx⟩ := bgd hx
        obtain ⟨h7, hc, hx⟩ := bca hx
        refine Ev.call (args := [(2, v0)]) (S2 := []) (r1 := none) (h1 := h7) (i := .invokevirtual 204) (by decide +kernel) rfl rfl (Nat.le_of_ble_eq_true rfl) (Or.inr (Or.inl ⟨rfl, hg, by decide +kernel⟩)) (x_R_goesOn (by omega) hc) ?_
        refine Ev.blk (is := [.iload_n 3]) (pc2 := 49) (L2 := [(2, v0), (0, v1), (0, v2), (0, w32 u5)]) (S2 := [(0, w32 u5)]) (h2 := h7) (by decide +kernel) rfl trivial ?_
        cases hx
        exact Ev.ret (i := .ireturn) (len := 1) (by decide +kernel) rfl (finOf (t := some .int) rfl (trivial))
    · have hx := hb hc
      clear ha hb hc
      refine Ev.wk (L2 := [(2, v0), (0, v1), (9, 0), (9, 0)]) (wkL_of ⟨Or.inl rfl, ⟨Or.inl rfl, ⟨Or.inr rfl, ⟨Or.inl rfl, trivial⟩⟩⟩⟩) ?_
      exact y_R_needsInt_32 hd v0 v1 h _ hx
  · have hx := hb hc
    clear ha hb hc
    refine Ev.blk (is := [.iload_n 1]) (pc2 := 9) (L2 := [(2, v0), (0, v1), (0, v2), (9, 0)]) (S2 := [(0, v1)]) (h2 := h) (by decide +kernel) rfl trivial ?_
    cases hx
    exact Ev.ret (i := .ireturn) (len := 1) (by decide +kernel) rfl (finOf (t := some .int) rfl (trivial))
theorem y_R_needsWord_25 {sc : AS} {d : Nat} (hd : 3 ≤ d) : ∀ (v0 : Int) (h : AH) (r : AH), R_needsWord_25 v0 h = some r → Ev sc d 212 25 [(2, v0), (9, 0)] [] h none r := by
  intro v0 h r hx
  unfold R_needsWord_25 at hx
  refine Ev.blk (is := [.aload_n 0]) (pc2 := 26) (L2 := [(2, v0), (9, 0)]) (S2 := [(2, v0)]) (h2 := h) (by decide +kernel) rfl trivial ?_
  obtain ⟨_, hg, -, hx⟩ := bgd hx
  obtain ⟨h2, hc, hx⟩ := bca hx
  refine Ev.call (args := [(2, v0)]) (S2 := []) (r1 := none) (h1 := h2) (i := .invokevirtual 210) (by decide +kernel) rfl rfl (Nat.le_of_ble_eq_true rfl) (Or.inr (Or.inl ⟨rfl, hg, by decide +kernel⟩)) (x_R_fails (by omega) hc) ?_
  refine Ev.jp (i := .goto 7) (len := 3) (pc2 := 36) (by decide +kernel) rfl ?_
  cases hx
  exact Ev.ret (i := .return_) (len := 1) (by decide +kernel) rfl (finOf (t := none) rfl (trivial))
theorem x_R_needsWord {sc : AS} {d : Nat} (hd : 4 ≤ d) {v0 : Int} {v1 : Int} {h : AH} {r : AH} (hx : R_needsWord v0 v1 h = some r) : Runs sc d 212 [(2, v0), (0, v1)] h none r := by
  obtain ⟨d, rfl⟩ : ∃ e, d = e + 1 := ⟨d - 1, by omega⟩
  have hd : 3 ≤ d := by omega
  unfold R_needsWord at hx
  refine ⟨⟨aM_212, rfl, Nat.le_of_ble_eq_true rfl⟩, ?_⟩
  show Ev sc d 212 0 [(2, v0), (0, v1)] [] h none r
  obtain ⟨u1, hg, he, hx⟩ := bgd hx
  refine Ev.blk (is := [.aload_n 0, .getfield 9030]) (pc2 := 4) (L2 := [(2, v0), (0, v1)]) (S2 := [(0, u1)]) (h2 := h) (by decide +kernel) (by subst he; rfl) (by exact hg) ?_
  clear hg he
  refine Ev.blk (is := [.iconst (-1)]) (pc2 := 5) (L2 := [(2, v0), (0, v1)]) (S2 := [(0, (-1)), (0, u1)]) (h2 := h) (by decide +kernel) rfl trivial ?_
  obtain ⟨ha, hb⟩ := bite hx
  clear hx
  refine Ev.br (i := .if_icmp .eq 4) (len := 3) (a := 9) (b := 8) (by decide +kernel) rfl Iff.rfl (fun hc => ?_) (fun hc => ?_)
  · have hx := ha hc
    clear ha hb hc
    obtain ⟨u2, hg, he, hx⟩ := bgd hx
    refine Ev.blk (is := [.aload_n 0, .getfield 9025]) (pc2 := 13) (L2 := [(2, v0), (0, v1)]) (S2 := [(0, u2)]) (h2 := h) (by decide +kernel) (by subst he; rfl) (by exact hg) ?_
    clear hg he
    refine Ev.blk (is := [.iconst 1]) (pc2 := 14) (L2 := [(2, v0), (0, v1)]) (S2 := [(0, 1), (0, u2)]) (h2 := h) (by decide +kernel) rfl trivial ?_
    obtain ⟨ha, hb⟩ := bite hx
    clear hx
    refine Ev.br (i := .if_icmp .ne 11) (len := 3) (a := 17) (b := 25) (by decide +kernel) rfl Iff.rfl (fun hc => ?_) (fun hc => ?_)
    · have hx := ha hc
      clear ha hb hc
      obtain ⟨u3, hg, he, hx⟩ := bgd hx
      refine Ev.blk (is := [.aload_n 0, .getfield 9027]) (pc2 := 21) (L2 := [(2, v0), (0, v1)]) (S2 := [(0, u3)]) (h2 := h) (by decide +kernel) (by subst he; rfl) (by exact hg) ?_
      clear hg he
      refine Ev.blk (is := [.iload_n 1]) (pc2 := 22) (L2 := [(2, v0), (0, v1)]) (S2 := [(0, v1), (0, u3)]) (h2 := h) (by decide +kernel) rfl trivial ?_
      obtain ⟨ha, hb⟩ := bite hx
      clear hx
      refine Ev.br (i := .if_icmp .eq 10) (len := 3) (a := 32) (b := 25) (by decide +kernel) rfl Iff.rfl (fun hc => ?_) (fun hc => ?_)
      · have hx := ha hc
        clear ha hb hc
        refine Ev.blk (is := [.aload_n 0]) (pc2 := 33) (L2 := [(2, v0), (0, v1)]) (S2 := [(2, v0)]) (h2 := h) (by decide +kernel) rfl trivial ?_
        obtain ⟨_, hg, -, hx⟩ := bgd hx
        obtain ⟨h5, hc, hx⟩ := bca hx
        refine Ev.call (args := [(2, v0)]) (S2 := []) (r1 := none) (h1 := h5) (i := .invokevirtual 204) (by decide +kernel) rfl rfl (Nat.le_of_ble_eq_true rfl) (Or.inr (Or.inl ⟨rfl, hg, by decide +kernel⟩)) (x_R_goesOn (by omega) hc) ?_
        cases hx
        exact Ev.ret (i := .return_) (len := 1) (by decide +kernel) rfl (finOf (t := none) rfl (trivial))
      · have hx := hb hc
        clear ha hb hc
        refine Ev.wk (L2 := [(2, v0), (9, 0)]) (wkL_of ⟨Or.inl rfl, ⟨Or.inr rfl, trivial⟩⟩) ?_
        exact y_R_needsWord_25 hd v0 h _ hx
    · have hx := hb hc
      clear ha hb hc
      refine Ev.wk (L2 := [(2, v0), (9, 0)]) (wkL_of ⟨Or.inl rfl, ⟨Or.inr rfl, trivial⟩⟩) ?_
      exact y_R_needsWord_25 hd v0 h _ hx
  · have hx := hb hc
    clear ha hb hc
    cases hx
    exact Ev.ret (i := .return_) (len := 1) (by decide +kernel) rfl (finOf (t := none) rfl (trivial))
theorem x_R_hasDowns {sc : AS} {d : Nat} (hd : 1 ≤ d) {v0 : Int} {h : AH} {r : Int} (hx : R_hasDowns v0 = some r) : Runs sc d 213 [(0, v0)] h (some (0, r)) h := by
  obtain ⟨d, rfl⟩ : ∃ e, d = e + 1 := ⟨d - 1, by omega⟩
  have hd : 0 ≤ d := by omega
  unfold R_hasDowns at hx
  refine ⟨⟨aM_213, rfl, Nat.le_of_ble_eq_true rfl⟩, ?_⟩
  show Ev sc d 213 0 [(0, v0)] [] h (some (0, r)) h
  refine Ev.blk (is := [.iload_n 0, .iconst 1]) (pc2 := 2) (L2 := [(0, v0)]) (S2 := [(0, 1), (0, v0)]) (h2 := h) (by decide +kernel) rfl trivial ?_
  obtain ⟨ha, hb⟩ := bite hx
  clear hx
  refine Ev.br (i := .if_icmp .eq 13) (len := 3) (a := 15) (b := 5) (by decide +kernel) rfl Iff.rfl (fun hc => ?_) (fun hc => ?_)
  · have hx := ha hc
    clear ha hb hc
    refine Ev.blk (is := [.iconst 1]) (pc2 := 16) (L2 := [(0, v0)]) (S2 := [(0, 1)]) (h2 := h) (by decide +kernel) rfl trivial ?_
    refine Ev.jp (i := .goto 4) (len := 3) (pc2 := 20) (by decide +kernel) rfl ?_
    cases hx
    exact Ev.ret (i := .ireturn) (len := 1) (by decide +kernel) rfl (finOf (t := some .boolean) rfl (bz1))
  · have hx := hb hc
    clear ha hb hc
    refine Ev.blk (is := [.iload_n 0, .iconst 2]) (pc2 := 7) (L2 := [(0, v0)]) (S2 := [(0, 2), (0, v0)]) (h2 := h) (by decide +kernel) rfl trivial ?_
    obtain ⟨ha, hb⟩ := bite hx
    clear hx
    refine Ev.br (i := .if_icmp .eq 8) (len := 3) (a := 15) (b := 10) (by decide +kernel) rfl Iff.rfl (fun hc => ?_) (fun hc => ?_)
    · have hx := ha hc
      clear ha hb hc
      refine Ev.blk (is := [.iconst 1]) (pc2 := 16) (L2 := [(0, v0)]) (S2 := [(0, 1)]) (h2 := h) (by decide +kernel) rfl trivial ?_
      refine Ev.jp (i := .goto 4) (len := 3) (pc2 := 20) (by decide +kernel) rfl ?_
      cases hx
      exact Ev.ret (i := .ireturn) (len := 1) (by decide +kernel) rfl (finOf (t := some .boolean) rfl (bz1))
    · have hx := hb hc
      clear ha hb hc
      refine Ev.blk (is := [.iload_n 0, .iconst 4]) (pc2 := 12) (L2 := [(0, v0)]) (S2 := [(0, 4), (0, v0)]) (h2 := h) (by decide +kernel) rfl trivial ?_
      obtain ⟨ha, hb⟩ := bite hx
      clear hx
      refine Ev.br (i := .if_icmp .ne 7) (len := 3) (a := 15) (b := 19) (by decide +kernel) rfl Iff.rfl (fun hc => ?_) (fun hc => ?_)
      · have hx := ha hc
        clear ha hb hc
        refine Ev.blk (is := [.iconst 1]) (pc2 := 16) (L2 := [(0, v0)]) (S2 := [(0, 1)]) (h2 := h) (by decide +kernel) rfl trivial ?_
        refine Ev.jp (i := .goto 4) (len := 3) (pc2 := 20) (by decide +kernel) rfl ?_
        cases hx
        exact Ev.ret (i := .ireturn) (len := 1) (by decide +kernel) rfl (finOf (t := some .boolean) rfl (bz1))
      · have hx := hb hc
        clear ha hb hc
        refine Ev.blk (is := [.iconst 0]) (pc2 := 20) (L2 := [(0, v0)]) (S2 := [(0, 0)]) (h2 := h) (by decide +kernel) rfl trivial ?_
        cases hx
        exact Ev.ret (i := .ireturn) (len := 1) (by decide +kernel) rfl (finOf (t := some .boolean) rfl (bz0))
theorem y_R_readsDowns_65 {sc : AS} {d : Nat} (hd : 4 ≤ d) {k0 : Int → Int → Int → AH → Option AH} (hk0 : ∀ (v0 : Int) (v1 : Int) (v2 : Int) (h : AH) (r : AH), k0 v0 v1 v2 h = some r → Ev sc d 214 0 [(2, v0), (0, v1), (0, v2), (9, 0), (9, 0), (9, 0)] [] h none r) : ∀ (v0 : Int) (v1 : Int) (v2 : Int) (v3 : Int) (v4 : Int) (s0 : Int) (h : AH) (r : AH), R_readsDowns_65 k0 v0 v1 v2 v3 v4 s0 h = some r → Ev sc d 214 65 [(2, v0), (0, v1), (0, v2), (0, v3), (0, v4), (9, 0)] [(0, s0)] h none r := by
  intro v0 v1 v2 v3 v4 s0 h r hx
  unfold R_readsDowns_65 at hx
  obtain ⟨u1, hg, he, hx⟩ := bgd hx
  refine Ev.blk (is := [.istore 5, .aload_n 0, .getfield 9030]) (pc2 := 71) (L2 := [(2, v0), (0, v1), (0, v2), (0, v3), (0, v4), (0, s0)]) (S2 := [(0, u1)]) (h2 := h) (by decide +kernel) (by subst he; rfl) (by exact hg) ?_
  clear hg he
  refine Ev.blk (is := [.iconst (-1)]) (pc2 := 72) (L2 := [(2, v0), (0, v1), (0, v2), (0, v3), (0, v4), (0, s0)]) (S2 := [(0, (-1)), (0, u1)]) (h2 := h) (by decide +kernel) rfl trivial ?_
  obtain ⟨ha, hb⟩ := bite hx
  clear hx
  refine Ev.br (i := .if_icmp .ne 13) (len := 3) (a := 75) (b := 85) (by decide +kernel) rfl Iff.rfl (fun hc => ?_) (fun hc => ?_)
  · have hx := ha hc
    clear ha hb hc
    refine Ev.blk (is := [.aload_n 0, .iload_n 1, .iload_n 3, .iload 4, .iload 5]) (pc2 := 82) (L2 := [(2, v0), (0, v1), (0, v2), (0, v3), (0, v4), (0, s0)]) (S2 := [(0, s0), (0, v4), (0, v3), (0, v1), (2, v0)]) (h2 := h) (by decide +kernel) rfl trivial ?_
    obtain ⟨_, hg, -, hx⟩ := bgd hx
    obtain ⟨h3, hc, hx⟩ := bca hx
    refine Ev.call (args := [(2, v0), (0, v1), (0, v3), (0, v4), (0, s0)]) (S2 := []) (r1 := none) (h1 := h3) (i := .invokevirtual 191) (by decide +kernel) rfl rfl (Nat.le_of_ble_eq_true rfl) (Or.inr (Or.inl ⟨rfl, hg, by decide +kernel⟩)) (x_R_addsDown (by omega) hc) ?_
    refine Ev.jp (i := .goto (-85)) (len := 3) (pc2 := 0) (by decide +kernel) rfl ?_
    refine Ev.wk (L2 := [(2, v0), (0, v1), (0, v2), (9, 0), (9, 0), (9, 0)]) (wkL_of ⟨Or.inl rfl, ⟨Or.inl rfl, ⟨Or.inl rfl, ⟨Or.inr rfl, ⟨Or.inr rfl, ⟨Or.inr rfl, trivial⟩⟩⟩⟩⟩⟩) ?_
    exact hk0 v0 v1 v2 h3 _ hx
  · have hx := hb hc
    clear ha hb hc
    refine Ev.jp (i := .goto (-85)) (len := 3) (pc2 := 0) (by decide +kernel) rfl ?_
    refine Ev.wk (L2 := [(2, v0), (0, v1), (0, v2), (9, 0), (9, 0), (9, 0)]) (wkL_of ⟨Or.inl rfl, ⟨Or.inl rfl, ⟨Or.inl rfl, ⟨Or.inr rfl, ⟨Or.inr rfl, ⟨Or.inr rfl, trivial⟩⟩⟩⟩⟩⟩) ?_
    exact hk0 v0 v1 v2 h _ hx
theorem y_R_readsDowns_31 {sc : AS} {d : Nat} (hd : 4 ≤ d) {k0 : Int → Int → Int → AH → Option AH} (hk0 : ∀ (v0 : Int) (v1 : Int) (v2 : Int) (h : AH) (r : AH), k0 v0 v1 v2 h = some r → Ev sc d 214 0 [(2, v0), (0, v1), (0, v2), (9, 0), (9, 0), (9, 0)] [] h none r) : ∀ (v0 : Int) (v1 : Int) (v2 : Int) (h : AH) (r : AH), R_readsDowns_31 k0 v0 v1 v2 h = some r → Ev sc d 214 31 [(2, v0), (0, v1), (0, v2), (9, 0), (9, 0), (9, 0)] [] h none r := by
  intro v0 v1 v2 h r hx
  unfold R_readsDowns_31 at hx
  refine Ev.blk (is := [.aload_n 0, .iconst 2, .sipush 1000000000]) (pc2 := 36) (L2 := [(2, v0), (0, v1), (0, v2), (9, 0), (9, 0), (9, 0)]) (S2 := [(0, 1000000000), (0, 2), (2, v0)]) (h2 := h) (by decide +kernel) rfl trivial ?_
  obtain ⟨_, hg, -, hx⟩ := bgd hx
  obtain ⟨u1, hc, hx⟩ := bca hx
  refine Ev.call (args := [(2, v0), (0, 2), (0, 1000000000)]) (S2 := []) (r1 := (some (0, u1.1))) (h1 := u1.2) (i := .invokevirtual 211) (by decide +kernel) rfl rfl (Nat.le_of_ble_eq_true rfl) (Or.inr (Or.inl ⟨rfl, hg, by decide +kernel⟩)) (x_R_needsInt (by omega) hc) ?_
  refine Ev.blk (is := [.istore_n 3, .aload_n 0, .iconst 1, .sipush 30]) (pc2 := 44) (L2 := [(2, v0), (0, v1), (0, v2), (0, u1.1), (9, 0), (9, 0)]) (S2 := [(0, 30), (0, 1), (2, v0)]) (h2 := u1.2) (by decide +kernel) rfl trivial ?_
  obtain ⟨_, hg, -, hx⟩ := bgd hx
  obtain ⟨u2, hc, hx⟩ := bca hx
  refine Ev.call (args := [(2, v0), (0, 1), (0, 30)]) (S2 := []) (r1 := (some (0, u2.1))) (h1 := u2.2) (i := .invokevirtual 211) (by decide +kernel) rfl rfl (Nat.le_of_ble_eq_true rfl) (Or.inr (Or.inl ⟨rfl, hg, by decide +kernel⟩)) (x_R_needsInt (by omega) hc) ?_
  refine Ev.blk (is := [.istore 4, .iload_n 2]) (pc2 := 50) (L2 := [(2, v0), (0, v1), (0, v2), (0, u1.1), (0, u2.1), (9, 0)]) (S2 := [(0, v2)]) (h2 := u2.2) (by decide +kernel) rfl trivial ?_
  obtain ⟨ha, hb⟩ := bite hx
  clear hx
  refine Ev.br (i := .ifCond .le 7) (len := 3) (a := 53) (b := 57) (by decide +kernel) rfl Iff.rfl (fun hc => ?_) (fun hc => ?_)
  · have hx := ha hc
    clear ha hb hc
    refine Ev.blk (is := [.iload_n 2]) (pc2 := 54) (L2 := [(2, v0), (0, v1), (0, v2), (0, u1.1), (0, u2.1), (9, 0)]) (S2 := [(0, v2)]) (h2 := u2.2) (by decide +kernel) rfl trivial ?_
    refine Ev.jp (i := .goto 11) (len := 3) (pc2 := 65) (by decide +kernel) rfl ?_
    exact y_R_readsDowns_65 hd hk0 v0 v1 v2 u1.1 u2.1 v2 u2.2 _ hx
  · have hx := hb hc
    clear ha hb hc
    refine Ev.blk (is := [.aload_n 0, .iconst 2, .sipush 999]) (pc2 := 62) (L2 := [(2, v0), (0, v1), (0, v2), (0, u1.1), (0, u2.1), (9, 0)]) (S2 := [(0, 999), (0, 2), (2, v0)]) (h2 := u2.2) (by decide +kernel) rfl trivial ?_
    obtain ⟨_, hg, -, hx⟩ := bgd hx
    obtain ⟨u3, hc, hx⟩ := bca hx
    refine Ev.call (args := [(2, v0), (0, 2), (0, 999)]) (S2 := []) (r1 := (some (0, u3.1))) (h1 := u3.2) (i := .invokevirtual 211) (by decide +kernel) rfl rfl (Nat.le_of_ble_eq_true rfl) (Or.inr (Or.inl ⟨rfl, hg, by decide +kernel⟩)) (x_R_needsInt (by omega) hc) ?_
    exact y_R_readsDowns_65 hd hk0 v0 v1 v2 u1.1 u2.1 u3.1 u3.2 _ hx
theorem y_R_readsDowns_0 {sc : AS} {d : Nat} (hd : 4 ≤ d) : ∀ (fu : Nat) (v0 : Int) (v1 : Int) (v2 : Int) (h : AH) (r : AH), R_readsDowns_0 fu v0 v1 v2 h = some r → Ev sc d 214 0 [(2, v0), (0, v1), (0, v2), (9, 0), (9, 0), (9, 0)] [] h none r := by
  intro fu
  induction fu with
  | zero => intro v0 v1 v2 h r hx; unfold R_readsDowns_0 at hx; cases hx
  | succ fu ih =>
    intro v0 v1 v2 h r hx
    unfold R_readsDowns_0 at hx
    obtain ⟨u1, hg, he, hx⟩ := bgd hx
    refine Ev.blk (is := [.aload_n 0, .getfield 9030]) (pc2 := 4) (L2 := [(2, v0), (0, v1), (0, v2), (9, 0), (9, 0), (9, 0)]) (S2 := [(0, u1)]) (h2 := h) (by decide +kernel) (by subst he; rfl) (by exact hg) ?_
    clear hg he
    refine Ev.blk (is := [.iconst (-1)]) (pc2 := 5) (L2 := [(2, v0), (0, v1), (0, v2), (9, 0), (9, 0), (9, 0)]) (S2 := [(0, (-1)), (0, u1)]) (h2 := h) (by decide +kernel) rfl trivial ?_
    obtain ⟨ha, hb⟩ := bite hx
    clear hx
    refine Ev.br (i := .if_icmp .ne 83) (len := 3) (a := 8) (b := 88) (by decide +kernel) rfl Iff.rfl (fun hc => ?_) (fun hc => ?_)
    · have hx := ha hc
      clear ha hb hc
      obtain ⟨u2, hg, he, hx⟩ := bgd hx
      refine Ev.blk (is := [.aload_n 0, .getfield 9025]) (pc2 := 12) (L2 := [(2, v0), (0, v1), (0, v2), (9, 0), (9, 0), (9, 0)]) (S2 := [(0, u2)]) (h2 := h) (by decide +kernel) (by subst he; rfl) (by exact hg) ?_
      clear hg he
      refine Ev.blk (is := [.iconst 2]) (pc2 := 13) (L2 := [(2, v0), (0, v1), (0, v2), (9, 0), (9, 0), (9, 0)]) (S2 := [(0, 2), (0, u2)]) (h2 := h) (by decide +kernel) rfl trivial ?_
      obtain ⟨ha, hb⟩ := bite hx
      clear hx
      refine Ev.br (i := .if_icmp .ne 75) (len := 3) (a := 16) (b := 88) (by decide +kernel) rfl Iff.rfl (fun hc => ?_) (fun hc => ?_)
      · have hx := ha hc
        clear ha hb hc
        obtain ⟨u3, hg, he, hx⟩ := bgd hx
        refine Ev.blk (is := [.aload_n 0, .getfield 9212]) (pc2 := 20) (L2 := [(2, v0), (0, v1), (0, v2), (9, 0), (9, 0), (9, 0)]) (S2 := [(2, u3)]) (h2 := h) (by decide +kernel) (by subst he; rfl) (by exact hg) ?_
        clear hg he
        obtain ⟨u4, hg, he, hx⟩ := bgd hx
        refine Ev.blk (is := [.iload_n 1, .iaload]) (pc2 := 22) (L2 := [(2, v0), (0, v1), (0, v2), (9, 0), (9, 0), (9, 0)]) (S2 := [(0, u4)]) (h2 := h) (by decide +kernel) (by subst he; rfl) (by exact hg) ?_
        clear hg he
        refine Ev.blk (is := [.sipush 9]) (pc2 := 24) (L2 := [(2, v0), (0, v1), (0, v2), (9, 0), (9, 0), (9, 0)]) (S2 := [(0, 9), (0, u4)]) (h2 := h) (by decide +kernel) rfl trivial ?_
        obtain ⟨ha, hb⟩ := bite hx
        clear hx
        refine Ev.br (i := .if_icmp .ne 7) (len := 3) (a := 27) (b := 31) (by decide +kernel) rfl Iff.rfl (fun hc => ?_) (fun hc => ?_)
        · have hx := ha hc
          clear ha hb hc
          refine Ev.blk (is := [.aload_n 0]) (pc2 := 28) (L2 := [(2, v0), (0, v1), (0, v2), (9, 0), (9, 0), (9, 0)]) (S2 := [(2, v0)]) (h2 := h) (by decide +kernel) rfl trivial ?_
          obtain ⟨_, hg, -, hx⟩ := bgd hx
          obtain ⟨h6, hc, hx⟩ := bca hx
          refine Ev.call (args := [(2, v0)]) (S2 := []) (r1 := none) (h1 := h6) (i := .invokevirtual 210) (by decide +kernel) rfl rfl (Nat.le_of_ble_eq_true rfl) (Or.inr (Or.inl ⟨rfl, hg, by decide +kernel⟩)) (x_R_fails (by omega) hc) ?_
          exact y_R_readsDowns_31 hd ih v0 v1 v2 h6 _ hx
        · have hx := hb hc
          clear ha hb hc
          exact y_R_readsDowns_31 hd ih v0 v1 v2 h _ hx
      · have hx := hb hc
        clear ha hb hc
        cases hx
        exact Ev.ret (i := .return_) (len := 1) (by decide +kernel) rfl (finOf (t := none) rfl (trivial))
    · have hx := hb hc
      clear ha hb hc
      cases hx
      exact Ev.ret (i := .return_) (len := 1) (by decide +kernel) rfl (finOf (t := none) rfl (trivial))
theorem x_R_readsDowns {sc : AS} {d : Nat} (hd : 5 ≤ d) {v0 : Int} {v1 : Int} {v2 : Int} {h : AH} {r : AH} (hx : R_readsDowns v0 v1 v2 h = some r) : Runs sc d 214 [(2, v0), (0, v1), (0, v2)] h none r := by
  obtain ⟨d, rfl⟩ : ∃ e, d = e + 1 := ⟨d - 1, by omega⟩
  unfold R_readsDowns at hx
  refine ⟨⟨aM_214, rfl, Nat.le_of_ble_eq_true rfl⟩, ?_⟩
  refine Ev.wk (L2 := [(2, v0), (0, v1), (0, v2), (9, 0), (9, 0), (9, 0)]) (wkL_of ⟨Or.inl rfl, ⟨Or.inl rfl, ⟨Or.inl rfl, ⟨Or.inl rfl, ⟨Or.inl rfl, ⟨Or.inl rfl, trivial⟩⟩⟩⟩⟩⟩) ?_
  exact y_R_readsDowns_0 (by omega) FU v0 v1 v2 h r hx
theorem y_R_readsUps_31 {sc : AS} {d : Nat} (hd : 4 ≤ d) {k0 : Int → Int → AH → Option AH} (hk0 : ∀ (v0 : Int) (v1 : Int) (h : AH) (r : AH), k0 v0 v1 h = some r → Ev sc d 215 0 [(2, v0), (0, v1), (9, 0), (9, 0)] [] h none r) : ∀ (v0 : Int) (v1 : Int) (h : AH) (r : AH), R_readsUps_31 k0 v0 v1 h = some r → Ev sc d 215 31 [(2, v0), (0, v1), (9, 0), (9, 0)] [] h none r := by
  intro v0 v1 h r hx
  unfold R_readsUps_31 at hx
  refine Ev.blk (is := [.aload_n 0, .iconst 2, .sipush 1000000000]) (pc2 := 36) (L2 := [(2, v0), (0, v1), (9, 0), (9, 0)]) (S2 := [(0, 1000000000), (0, 2), (2, v0)]) (h2 := h) (by decide +kernel) rfl trivial ?_
  obtain ⟨_, hg, -, hx⟩ := bgd hx
  obtain ⟨u1, hc, hx⟩ := bca hx
  refine Ev.call (args := [(2, v0), (0, 2), (0, 1000000000)]) (S2 := []) (r1 := (some (0, u1.1))) (h1 := u1.2) (i := .invokevirtual 211) (by decide +kernel) rfl rfl (Nat.le_of_ble_eq_true rfl) (Or.inr (Or.inl ⟨rfl, hg, by decide +kernel⟩)) (x_R_needsInt (by omega) hc) ?_
  refine Ev.blk (is := [.istore_n 2, .aload_n 0, .iconst 1, .sipush 30]) (pc2 := 44) (L2 := [(2, v0), (0, v1), (0, u1.1), (9, 0)]) (S2 := [(0, 30), (0, 1), (2, v0)]) (h2 := u1.2) (by decide +kernel) rfl trivial ?_
  obtain ⟨_, hg, -, hx⟩ := bgd hx
  obtain ⟨u2, hc, hx⟩ := bca hx
  refine Ev.call (args := [(2, v0), (0, 1), (0, 30)]) (S2 := []) (r1 := (some (0, u2.1))) (h1 := u2.2) (i := .invokevirtual 211) (by decide +kernel) rfl rfl (Nat.le_of_ble_eq_true rfl) (Or.inr (Or.inl ⟨rfl, hg, by decide +kernel⟩)) (x_R_needsInt (by omega) hc) ?_
  obtain ⟨u3, hg, he, hx⟩ := bgd hx
  refine Ev.blk (is := [.istore_n 3, .aload_n 0, .getfield 9030]) (pc2 := 52) (L2 := [(2, v0), (0, v1), (0, u1.1), (0, u2.1)]) (S2 := [(0, u3)]) (h2 := u2.2) (by decide +kernel) (by subst he; rfl) (by exact hg) ?_
  clear hg he
  refine Ev.blk (is := [.iconst (-1)]) (pc2 := 53) (L2 := [(2, v0), (0, v1), (0, u1.1), (0, u2.1)]) (S2 := [(0, (-1)), (0, u3)]) (h2 := u2.2) (by decide +kernel) rfl trivial ?_
  obtain ⟨ha, hb⟩ := bite hx
  clear hx
  refine Ev.br (i := .if_icmp .ne 10) (len := 3) (a := 56) (b := 63) (by decide +kernel) rfl Iff.rfl (fun hc => ?_) (fun hc => ?_)
  · have hx := ha hc
    clear ha hb hc
    refine Ev.blk (is := [.aload_n 0, .iload_n 1, .iload_n 2, .iload_n 3]) (pc2 := 60) (L2 := [(2, v0), (0, v1), (0, u1.1), (0, u2.1)]) (S2 := [(0, u2.1), (0, u1.1), (0, v1), (2, v0)]) (h2 := u2.2) (by decide +kernel) rfl trivial ?_
    obtain ⟨_, hg, -, hx⟩ := bgd hx
    obtain ⟨h5, hc, hx⟩ := bca hx
    refine Ev.call (args := [(2, v0), (0, v1), (0, u1.1), (0, u2.1)]) (S2 := []) (r1 := none) (h1 := h5) (i := .invokevirtual 190) (by decide +kernel) rfl rfl (Nat.le_of_ble_eq_true rfl) (Or.inr (Or.inl ⟨rfl, hg, by decide +kernel⟩)) (x_R_addsUp (by omega) hc) ?_
    refine Ev.jp (i := .goto (-63)) (len := 3) (pc2 := 0) (by decide +kernel) rfl ?_
    refine Ev.wk (L2 := [(2, v0), (0, v1), (9, 0), (9, 0)]) (wkL_of ⟨Or.inl rfl, ⟨Or.inl rfl, ⟨Or.inr rfl, ⟨Or.inr rfl, trivial⟩⟩⟩⟩) ?_
    exact hk0 v0 v1 h5 _ hx
  · have hx := hb hc
    clear ha hb hc
    refine Ev.jp (i := .goto (-63)) (len := 3) (pc2 := 0) (by decide +kernel) rfl ?_
    refine Ev.wk (L2 := [(2, v0), (0, v1), (9, 0), (9, 0)]) (wkL_of ⟨Or.inl rfl, ⟨Or.inl rfl, ⟨Or.inr rfl, ⟨Or.inr rfl, trivial⟩⟩⟩⟩) ?_
    exact hk0 v0 v1 u2.2 _ hx
theorem y_R_readsUps_0 {sc : AS} {d : Nat} (hd : 4 ≤ d) : ∀ (fu : Nat) (v0 : Int) (v1 : Int) (h : AH) (r : AH), R_readsUps_0 fu v0 v1 h = some r → Ev sc d 215 0 [(2, v0), (0, v1), (9, 0), (9, 0)] [] h none r := by
  intro fu
  induction fu with
  | zero => intro v0 v1 h r hx; unfold R_readsUps_0 at hx; cases hx
  | succ fu ih =>
    intro v0 v1 h r hx
    unfold R_readsUps_0 at hx
    obtain ⟨u1, hg, he, hx⟩ := bgd hx
    refine Ev.blk (is := [.aload_n 0, .getfield 9030]) (pc2 := 4) (L2 := [(2, v0), (0, v1), (9, 0), (9, 0)]) (S2 := [(0, u1)]) (h2 := h) (by decide +kernel) (by subst he; rfl) (by exact hg) ?_
    clear hg he
    refine Ev.blk (is := [.iconst (-1)]) (pc2 := 5) (L2 := [(2, v0), (0, v1), (9, 0), (9, 0)]) (S2 := [(0, (-1)), (0, u1)]) (h2 := h) (by decide +kernel) rfl trivial ?_
    obtain ⟨ha, hb⟩ := bite hx
    clear hx
    refine Ev.br (i := .if_icmp .ne 61) (len := 3) (a := 8) (b := 66) (by decide +kernel) rfl Iff.rfl (fun hc => ?_) (fun hc => ?_)
    · have hx := ha hc
      clear ha hb hc
      obtain ⟨u2, hg, he, hx⟩ := bgd hx
      refine Ev.blk (is := [.aload_n 0, .getfield 9025]) (pc2 := 12) (L2 := [(2, v0), (0, v1), (9, 0), (9, 0)]) (S2 := [(0, u2)]) (h2 := h) (by decide +kernel) (by subst he; rfl) (by exact hg) ?_
      clear hg he
      refine Ev.blk (is := [.iconst 2]) (pc2 := 13) (L2 := [(2, v0), (0, v1), (9, 0), (9, 0)]) (S2 := [(0, 2), (0, u2)]) (h2 := h) (by decide +kernel) rfl trivial ?_
      obtain ⟨ha, hb⟩ := bite hx
      clear hx
      refine Ev.br (i := .if_icmp .ne 53) (len := 3) (a := 16) (b := 66) (by decide +kernel) rfl Iff.rfl (fun hc => ?_) (fun hc => ?_)
      · have hx := ha hc
        clear ha hb hc
        obtain ⟨u3, hg, he, hx⟩ := bgd hx
        refine Ev.blk (is := [.aload_n 0, .getfield 9213]) (pc2 := 20) (L2 := [(2, v0), (0, v1), (9, 0), (9, 0)]) (S2 := [(2, u3)]) (h2 := h) (by decide +kernel) (by subst he; rfl) (by exact hg) ?_
        clear hg he
        obtain ⟨u4, hg, he, hx⟩ := bgd hx
        refine Ev.blk (is := [.iload_n 1, .iaload]) (pc2 := 22) (L2 := [(2, v0), (0, v1), (9, 0), (9, 0)]) (S2 := [(0, u4)]) (h2 := h) (by decide +kernel) (by subst he; rfl) (by exact hg) ?_
        clear hg he
        refine Ev.blk (is := [.sipush 9]) (pc2 := 24) (L2 := [(2, v0), (0, v1), (9, 0), (9, 0)]) (S2 := [(0, 9), (0, u4)]) (h2 := h) (by decide +kernel) rfl trivial ?_
        obtain ⟨ha, hb⟩ := bite hx
        clear hx
        refine Ev.br (i := .if_icmp .ne 7) (len := 3) (a := 27) (b := 31) (by decide +kernel) rfl Iff.rfl (fun hc => ?_) (fun hc => ?_)
        · have hx := ha hc
          clear ha hb hc
          refine Ev.blk (is := [.aload_n 0]) (pc2 := 28) (L2 := [(2, v0), (0, v1), (9, 0), (9, 0)]) (S2 := [(2, v0)]) (h2 := h) (by decide +kernel) rfl trivial ?_
          obtain ⟨_, hg, -, hx⟩ := bgd hx
          obtain ⟨h6, hc, hx⟩ := bca hx
          refine Ev.call (args := [(2, v0)]) (S2 := []) (r1 := none) (h1 := h6) (i := .invokevirtual 210) (by decide +kernel) rfl rfl (Nat.le_of_ble_eq_true rfl) (Or.inr (Or.inl ⟨rfl, hg, by decide +kernel⟩)) (x_R_fails (by omega) hc) ?_
          exact y_R_readsUps_31 hd ih v0 v1 h6 _ hx
        · have hx := hb hc
          clear ha hb hc
          exact y_R_readsUps_31 hd ih v0 v1 h _ hx
      · have hx := hb hc
        clear ha hb hc
        cases hx
        exact Ev.ret (i := .return_) (len := 1) (by decide +kernel) rfl (finOf (t := none) rfl (trivial))
    · have hx := hb hc
      clear ha hb hc
      cases hx
      exact Ev.ret (i := .return_) (len := 1) (by decide +kernel) rfl (finOf (t := none) rfl (trivial))
theorem x_R_readsUps {sc : AS} {d : Nat} (hd : 5 ≤ d) {v0 : Int} {v1 : Int} {h : AH} {r : AH} (hx : R_readsUps v0 v1 h = some r) : Runs sc d 215 [(2, v0), (0, v1)] h none r := by
  obtain ⟨d, rfl⟩ : ∃ e, d = e + 1 := ⟨d - 1, by omega⟩
  unfold R_readsUps at hx
  refine ⟨⟨aM_215, rfl, Nat.le_of_ble_eq_true rfl⟩, ?_⟩
  refine Ev.wk (L2 := [(2, v0), (0, v1), (9, 0), (9, 0)]) (wkL_of ⟨Or.inl rfl, ⟨Or.inl rfl, ⟨Or.inl rfl, ⟨Or.inl rfl, trivial⟩⟩⟩⟩) ?_
  exact y_R_readsUps_0 (by omega) FU v0 v1 h r hx
theorem y_R_readsLine_165 {sc : AS} {d : Nat} (hd : 5 ≤ d) : ∀ (v0 : Int) (h : AH) (r : AH), R_readsLine_165 v0 h = some r → Ev sc d 209 165 [(2, v0), (9, 0), (9, 0), (9, 0), (9, 0)] [] h none r := by
  intro v0 h r hx
  unfold R_readsLine_165 at hx
  obtain ⟨u1, hg, he, hx⟩ := bgd hx
  refine Ev.blk (is := [.aload_n 0, .getfield 9030]) (pc2 := 169) (L2 := [(2, v0), (9, 0), (9, 0), (9, 0), (9, 0)]) (S2 := [(0, u1)]) (h2 := h) (by decide +kernel) (by subst he; rfl) (by exact hg) ?_
  clear hg he
  refine Ev.blk (is := [.iconst (-1)]) (pc2 := 170) (L2 := [(2, v0), (9, 0), (9, 0), (9, 0), (9, 0)]) (S2 := [(0, (-1)), (0, u1)]) (h2 := h) (by decide +kernel) rfl trivial ?_
  obtain ⟨ha, hb⟩ := bite hx
  clear hx
  refine Ev.br (i := .if_icmp .eq 4) (len := 3) (a := 174) (b := 173) (by decide +kernel) rfl Iff.rfl (fun hc => ?_) (fun hc => ?_)
  · have hx := ha hc
    clear ha hb hc
    obtain ⟨u2, hg, he, hx⟩ := bgd hx
    refine Ev.blk (is := [.aload_n 0, .getfield 9025]) (pc2 := 178) (L2 := [(2, v0), (9, 0), (9, 0), (9, 0), (9, 0)]) (S2 := [(0, u2)]) (h2 := h) (by decide +kernel) (by subst he; rfl) (by exact hg) ?_
    clear hg he
    refine Ev.blk (is := [.iconst 3]) (pc2 := 179) (L2 := [(2, v0), (9, 0), (9, 0), (9, 0), (9, 0)]) (S2 := [(0, 3), (0, u2)]) (h2 := h) (by decide +kernel) rfl trivial ?_
    obtain ⟨ha, hb⟩ := bite hx
    clear hx
    refine Ev.br (i := .if_icmp .ne 10) (len := 3) (a := 182) (b := 189) (by decide +kernel) rfl Iff.rfl (fun hc => ?_) (fun hc => ?_)
    · have hx := ha hc
      clear ha hb hc
      refine Ev.blk (is := [.aload_n 0]) (pc2 := 183) (L2 := [(2, v0), (9, 0), (9, 0), (9, 0), (9, 0)]) (S2 := [(2, v0)]) (h2 := h) (by decide +kernel) rfl trivial ?_
      obtain ⟨_, hg, -, hx⟩ := bgd hx
      obtain ⟨h4, hc, hx⟩ := bca hx
      refine Ev.call (args := [(2, v0)]) (S2 := []) (r1 := none) (h1 := h4) (i := .invokevirtual 204) (by decide +kernel) rfl rfl (Nat.le_of_ble_eq_true rfl) (Or.inr (Or.inl ⟨rfl, hg, by decide +kernel⟩)) (x_R_goesOn (by omega) hc) ?_
      refine Ev.jp (i := .goto 7) (len := 3) (pc2 := 193) (by decide +kernel) rfl ?_
      cases hx
      exact Ev.ret (i := .return_) (len := 1) (by decide +kernel) rfl (finOf (t := none) rfl (trivial))
    · have hx := hb hc
      clear ha hb hc
      refine Ev.blk (is := [.aload_n 0]) (pc2 := 190) (L2 := [(2, v0), (9, 0), (9, 0), (9, 0), (9, 0)]) (S2 := [(2, v0)]) (h2 := h) (by decide +kernel) rfl trivial ?_
      obtain ⟨_, hg, -, hx⟩ := bgd hx
      obtain ⟨h6, hc, hx⟩ := bca hx
      refine Ev.call (args := [(2, v0)]) (S2 := []) (r1 := none) (h1 := h6) (i := .invokevirtual 210) (by decide +kernel) rfl rfl (Nat.le_of_ble_eq_true rfl) (Or.inr (Or.inl ⟨rfl, hg, by decide +kernel⟩)) (x_R_fails (by omega) hc) ?_
      cases hx
      exact Ev.ret (i := .return_) (len := 1) (by decide +kernel) rfl (finOf (t := none) rfl (trivial))
  · have hx := hb hc
    clear ha hb hc
    cases hx
    exact Ev.ret (i := .return_) (len := 1) (by decide +kernel) rfl (finOf (t := none) rfl (trivial))
theorem y_R_readsLine_153 {sc : AS} {d : Nat} (hd : 5 ≤ d) : ∀ (v0 : Int) (v1 : Int) (v2 : Int) (h : AH) (r : AH), R_readsLine_153 v0 v1 v2 h = some r → Ev sc d 209 153 [(2, v0), (0, v1), (0, v2), (9, 0), (9, 0)] [] h none r := by
  intro v0 v1 v2 h r hx
  unfold R_readsLine_153 at hx
  refine Ev.blk (is := [.iload_n 2]) (pc2 := 154) (L2 := [(2, v0), (0, v1), (0, v2), (9, 0), (9, 0)]) (S2 := [(0, v2)]) (h2 := h) (by decide +kernel) rfl trivial ?_
  obtain ⟨u1, hc, hx⟩ := bca hx
  refine Ev.call (args := [(0, v2)]) (S2 := []) (r1 := (some (0, u1))) (h1 := h) (i := .invokestatic 180) (by decide +kernel) rfl rfl (Nat.le_of_ble_eq_true rfl) (Or.inl rfl) (x_R_hasPair (by omega) hc) ?_
  obtain ⟨ha, hb⟩ := bite hx
  clear hx
  refine Ev.br (i := .ifCond .eq 8) (len := 3) (a := 165) (b := 160) (by decide +kernel) rfl Iff.rfl (fun hc => ?_) (fun hc => ?_)
  · have hx := ha hc
    clear ha hb hc
    refine Ev.wk (L2 := [(2, v0), (9, 0), (9, 0), (9, 0), (9, 0)]) (wkL_of ⟨Or.inl rfl, ⟨Or.inr rfl, ⟨Or.inr rfl, ⟨Or.inl rfl, ⟨Or.inl rfl, trivial⟩⟩⟩⟩⟩) ?_
    exact y_R_readsLine_165 hd v0 h _ hx
  · have hx := hb hc
    clear ha hb hc
    refine Ev.blk (is := [.aload_n 0, .iload_n 1]) (pc2 := 162) (L2 := [(2, v0), (0, v1), (0, v2), (9, 0), (9, 0)]) (S2 := [(0, v1), (2, v0)]) (h2 := h) (by decide +kernel) rfl trivial ?_
    obtain ⟨_, hg, -, hx⟩ := bgd hx
    obtain ⟨h3, hc, hx⟩ := bca hx
    refine Ev.call (args := [(2, v0), (0, v1)]) (S2 := []) (r1 := none) (h1 := h3) (i := .invokevirtual 215) (by decide +kernel) rfl rfl (Nat.le_of_ble_eq_true rfl) (Or.inr (Or.inl ⟨rfl, hg, by decide +kernel⟩)) (x_R_readsUps (by omega) hc) ?_
    refine Ev.wk (L2 := [(2, v0), (9, 0), (9, 0), (9, 0), (9, 0)]) (wkL_of ⟨Or.inl rfl, ⟨Or.inr rfl, ⟨Or.inr rfl, ⟨Or.inl rfl, ⟨Or.inl rfl, trivial⟩⟩⟩⟩⟩) ?_
    exact y_R_readsLine_165 hd v0 h3 _ hx
theorem y_R_readsLine_142 {sc : AS} {d : Nat} (hd : 5 ≤ d) : ∀ (v0 : Int) (v1 : Int) (v2 : Int) (h : AH) (r : AH), R_readsLine_142 v0 v1 v2 h = some r → Ev sc d 209 142 [(2, v0), (0, v1), (0, v2), (9, 0), (9, 0)] [] h none r := by
  intro v0 v1 v2 h r hx
  unfold R_readsLine_142 at hx
  refine Ev.blk (is := [.iload_n 2, .iconst 4]) (pc2 := 144) (L2 := [(2, v0), (0, v1), (0, v2), (9, 0), (9, 0)]) (S2 := [(0, 4), (0, v2)]) (h2 := h) (by decide +kernel) rfl trivial ?_
  obtain ⟨ha, hb⟩ := bite hx
  clear hx
  refine Ev.br (i := .if_icmp .ne 9) (len := 3) (a := 147) (b := 153) (by decide +kernel) rfl Iff.rfl (fun hc => ?_) (fun hc => ?_)
  · have hx := ha hc
    clear ha hb hc
    refine Ev.blk (is := [.aload_n 0, .sipush 9]) (pc2 := 150) (L2 := [(2, v0), (0, v1), (0, v2), (9, 0), (9, 0)]) (S2 := [(0, 9), (2, v0)]) (h2 := h) (by decide +kernel) rfl trivial ?_
    obtain ⟨_, hg, -, hx⟩ := bgd hx
    obtain ⟨h2, hc, hx⟩ := bca hx
    refine Ev.call (args := [(2, v0), (0, 9)]) (S2 := []) (r1 := none) (h1 := h2) (i := .invokevirtual 212) (by decide +kernel) rfl rfl (Nat.le_of_ble_eq_true rfl) (Or.inr (Or.inl ⟨rfl, hg, by decide +kernel⟩)) (x_R_needsWord (by omega) hc) ?_
    exact y_R_readsLine_153 hd v0 v1 v2 h2 _ hx
  · have hx := hb hc
    clear ha hb hc
    exact y_R_readsLine_153 hd v0 v1 v2 h _ hx
theorem y_R_readsLine_128 {sc : AS} {d : Nat} (hd : 5 ≤ d) : ∀ (v0 : Int) (v1 : Int) (v2 : Int) (v4 : Int) (h : AH) (r : AH), R_readsLine_128 v0 v1 v2 v4 h = some r → Ev sc d 209 128 [(2, v0), (0, v1), (0, v2), (9, 0), (0, v4)] [] h none r := by
  intro v0 v1 v2 v4 h r hx
  unfold R_readsLine_128 at hx
  refine Ev.blk (is := [.iload_n 2]) (pc2 := 129) (L2 := [(2, v0), (0, v1), (0, v2), (9, 0), (0, v4)]) (S2 := [(0, v2)]) (h2 := h) (by decide +kernel) rfl trivial ?_
  obtain ⟨u1, hc, hx⟩ := bca hx
  refine Ev.call (args := [(0, v2)]) (S2 := []) (r1 := (some (0, u1))) (h1 := h) (i := .invokestatic 213) (by decide +kernel) rfl rfl (Nat.le_of_ble_eq_true rfl) (Or.inl rfl) (x_R_hasDowns (by omega) hc) ?_
  obtain ⟨ha, hb⟩ := bite hx
  clear hx
  refine Ev.br (i := .ifCond .eq 10) (len := 3) (a := 142) (b := 135) (by decide +kernel) rfl Iff.rfl (fun hc => ?_) (fun hc => ?_)
  · have hx := ha hc
    clear ha hb hc
    refine Ev.wk (L2 := [(2, v0), (0, v1), (0, v2), (9, 0), (9, 0)]) (wkL_of ⟨Or.inl rfl, ⟨Or.inl rfl, ⟨Or.inl rfl, ⟨Or.inl rfl, ⟨Or.inr rfl, trivial⟩⟩⟩⟩⟩) ?_
    exact y_R_readsLine_142 hd v0 v1 v2 h _ hx
  · have hx := hb hc
    clear ha hb hc
    refine Ev.blk (is := [.aload_n 0, .iload_n 1, .iload 4]) (pc2 := 139) (L2 := [(2, v0), (0, v1), (0, v2), (9, 0), (0, v4)]) (S2 := [(0, v4), (0, v1), (2, v0)]) (h2 := h) (by decide +kernel) rfl trivial ?_
    obtain ⟨_, hg, -, hx⟩ := bgd hx
    obtain ⟨h3, hc, hx⟩ := bca hx
    refine Ev.call (args := [(2, v0), (0, v1), (0, v4)]) (S2 := []) (r1 := none) (h1 := h3) (i := .invokevirtual 214) (by decide +kernel) rfl rfl (Nat.le_of_ble_eq_true rfl) (Or.inr (Or.inl ⟨rfl, hg, by decide +kernel⟩)) (x_R_readsDowns (by omega) hc) ?_
    refine Ev.wk (L2 := [(2, v0), (0, v1), (0, v2), (9, 0), (9, 0)]) (wkL_of ⟨Or.inl rfl, ⟨Or.inl rfl, ⟨Or.inl rfl, ⟨Or.inl rfl, ⟨Or.inr rfl, trivial⟩⟩⟩⟩⟩) ?_
    exact y_R_readsLine_142 hd v0 v1 v2 h3 _ hx
theorem y_R_readsLine_125 {sc : AS} {d : Nat} (hd : 5 ≤ d) : ∀ (v0 : Int) (v1 : Int) (v2 : Int) (v4 : Int) (s0 : Int) (s1 : Int) (h : AH) (r : AH), R_readsLine_125 v0 v1 v2 v4 s0 s1 h = some r → Ev sc d 209 125 [(2, v0), (0, v1), (0, v2), (9, 0), (0, v4)] [(0, s0), (2, s1)] h none r := by
  intro v0 v1 v2 v4 s0 s1 h r hx
  unfold R_readsLine_125 at hx
  obtain ⟨_, hg, -, hx⟩ := bgd hx
  obtain ⟨h2, hc, hx⟩ := bca hx
  refine Ev.call (args := [(2, s1), (0, s0)]) (S2 := []) (r1 := none) (h1 := h2) (i := .invokevirtual 212) (by decide +kernel) rfl rfl (Nat.le_of_ble_eq_true rfl) (Or.inr (Or.inl ⟨rfl, hg, by decide +kernel⟩)) (x_R_needsWord (by omega) hc) ?_
  exact y_R_readsLine_128 hd v0 v1 v2 v4 h2 _ hx
theorem y_R_readsLine_69 {sc : AS} {d : Nat} (hd : 5 ≤ d) : ∀ (v0 : Int) (v1 : Int) (v2 : Int) (v4 : Int) (h : AH) (r : AH), R_readsLine_69 v0 v1 v2 v4 h = some r → Ev sc d 209 69 [(2, v0), (0, v1), (0, v2), (9, 0), (0, v4)] [] h none r := by
  intro v0 v1 v2 v4 h r hx
  unfold R_readsLine_69 at hx
  refine Ev.blk (is := [.iload_n 2]) (pc2 := 70) (L2 := [(2, v0), (0, v1), (0, v2), (9, 0), (0, v4)]) (S2 := [(0, v2)]) (h2 := h) (by decide +kernel) rfl trivial ?_
  obtain ⟨u1, hc, hx⟩ := bca hx
  refine Ev.call (args := [(0, v2)]) (S2 := []) (r1 := (some (0, u1))) (h1 := h) (i := .invokestatic 180) (by decide +kernel) rfl rfl (Nat.le_of_ble_eq_true rfl) (Or.inl rfl) (x_R_hasPair (by omega) hc) ?_
  obtain ⟨ha, hb⟩ := bite hx
  clear hx
  refine Ev.br (i := .ifCond .eq 35) (len := 3) (a := 108) (b := 76) (by decide +kernel) rfl Iff.rfl (fun hc => ?_) (fun hc => ?_)
  · have hx := ha hc
    clear ha hb hc
    refine Ev.blk (is := [.iload_n 2]) (pc2 := 109) (L2 := [(2, v0), (0, v1), (0, v2), (9, 0), (0, v4)]) (S2 := [(0, v2)]) (h2 := h) (by decide +kernel) rfl trivial ?_
    obtain ⟨ha, hb⟩ := bite hx
    clear hx
    refine Ev.br (i := .ifCond .eq 19) (len := 3) (a := 128) (b := 112) (by decide +kernel) rfl Iff.rfl (fun hc => ?_) (fun hc => ?_)
    · have hx := ha hc
      clear ha hb hc
      exact y_R_readsLine_128 hd v0 v1 v2 v4 h _ hx
    · have hx := hb hc
      clear ha hb hc
      refine Ev.blk (is := [.aload_n 0, .iload_n 2, .iconst 4]) (pc2 := 115) (L2 := [(2, v0), (0, v1), (0, v2), (9, 0), (0, v4)]) (S2 := [(0, 4), (0, v2), (2, v0)]) (h2 := h) (by decide +kernel) rfl trivial ?_
      obtain ⟨ha, hb⟩ := bite hx
      clear hx
      refine Ev.br (i := .if_icmp .ne 8) (len := 3) (a := 118) (b := 123) (by decide +kernel) rfl Iff.rfl (fun hc => ?_) (fun hc => ?_)
      · have hx := ha hc
        clear ha hb hc
        refine Ev.blk (is := [.sipush 8]) (pc2 := 120) (L2 := [(2, v0), (0, v1), (0, v2), (9, 0), (0, v4)]) (S2 := [(0, 8), (2, v0)]) (h2 := h) (by decide +kernel) rfl trivial ?_
        refine Ev.jp (i := .goto 5) (len := 3) (pc2 := 125) (by decide +kernel) rfl ?_
        exact y_R_readsLine_125 hd v0 v1 v2 v4 8 v0 h _ hx
      · have hx := hb hc
        clear ha hb hc
        refine Ev.blk (is := [.sipush 6]) (pc2 := 125) (L2 := [(2, v0), (0, v1), (0, v2), (9, 0), (0, v4)]) (S2 := [(0, 6), (2, v0)]) (h2 := h) (by decide +kernel) rfl trivial ?_
        exact y_R_readsLine_125 hd v0 v1 v2 v4 6 v0 h _ hx
  · have hx := hb hc
    clear ha hb hc
    refine Ev.blk (is := [.aload_n 0, .sipush 7]) (pc2 := 79) (L2 := [(2, v0), (0, v1), (0, v2), (9, 0), (0, v4)]) (S2 := [(0, 7), (2, v0)]) (h2 := h) (by decide +kernel) rfl trivial ?_
    obtain ⟨_, hg, -, hx⟩ := bgd hx
    obtain ⟨h3, hc, hx⟩ := bca hx
    refine Ev.call (args := [(2, v0), (0, 7)]) (S2 := []) (r1 := none) (h1 := h3) (i := .invokevirtual 212) (by decide +kernel) rfl rfl (Nat.le_of_ble_eq_true rfl) (Or.inr (Or.inl ⟨rfl, hg, by decide +kernel⟩)) (x_R_needsWord (by omega) hc) ?_
    obtain ⟨u4, hg, he, hx⟩ := bgd hx
    refine Ev.blk (is := [.aload_n 0, .getfield 9210]) (pc2 := 86) (L2 := [(2, v0), (0, v1), (0, v2), (9, 0), (0, v4)]) (S2 := [(2, u4)]) (h2 := h3) (by decide +kernel) (by subst he; rfl) (by exact hg) ?_
    clear hg he
    refine Ev.blk (is := [.iload_n 1, .aload_n 0, .iconst 1, .sipush 99]) (pc2 := 91) (L2 := [(2, v0), (0, v1), (0, v2), (9, 0), (0, v4)]) (S2 := [(0, 99), (0, 1), (2, v0), (0, v1), (2, u4)]) (h2 := h3) (by decide +kernel) rfl trivial ?_
    obtain ⟨_, hg, -, hx⟩ := bgd hx
    obtain ⟨u5, hc, hx⟩ := bca hx
    refine Ev.call (args := [(2, v0), (0, 1), (0, 99)]) (S2 := [(0, v1), (2, u4)]) (r1 := (some (0, u5.1))) (h1 := u5.2) (i := .invokevirtual 211) (by decide +kernel) rfl rfl (Nat.le_of_ble_eq_true rfl) (Or.inr (Or.inl ⟨rfl, hg, by decide +kernel⟩)) (x_R_needsInt (by omega) hc) ?_
    obtain ⟨h6, hg, he, hx⟩ := bgd hx
    refine Ev.blk (is := [.iastore]) (pc2 := 95) (L2 := [(2, v0), (0, v1), (0, v2), (9, 0), (0, v4)]) (S2 := []) (h2 := h6) (by decide +kernel) (by subst he; rfl) (by exact hg) ?_
    clear hg he
    obtain ⟨u7, hg, he, hx⟩ := bgd hx
    refine Ev.blk (is := [.aload_n 0, .getfield 9211]) (pc2 := 99) (L2 := [(2, v0), (0, v1), (0, v2), (9, 0), (0, v4)]) (S2 := [(2, u7)]) (h2 := h6) (by decide +kernel) (by subst he; rfl) (by exact hg) ?_
    clear hg he
    refine Ev.blk (is := [.iload_n 1, .aload_n 0, .iconst 1, .sipush 99]) (pc2 := 104) (L2 := [(2, v0), (0, v1), (0, v2), (9, 0), (0, v4)]) (S2 := [(0, 99), (0, 1), (2, v0), (0, v1), (2, u7)]) (h2 := h6) (by decide +kernel) rfl trivial ?_
    obtain ⟨_, hg, -, hx⟩ := bgd hx
    obtain ⟨u8, hc, hx⟩ := bca hx
    refine Ev.call (args := [(2, v0), (0, 1), (0, 99)]) (S2 := [(0, v1), (2, u7)]) (r1 := (some (0, u8.1))) (h1 := u8.2) (i := .invokevirtual 211) (by decide +kernel) rfl rfl (Nat.le_of_ble_eq_true rfl) (Or.inr (Or.inl ⟨rfl, hg, by decide +kernel⟩)) (x_R_needsInt (by omega) hc) ?_
    obtain ⟨h9, hg, he, hx⟩ := bgd hx
    refine Ev.blk (is := [.iastore]) (pc2 := 108) (L2 := [(2, v0), (0, v1), (0, v2), (9, 0), (0, v4)]) (S2 := []) (h2 := h9) (by decide +kernel) (by subst he; rfl) (by exact hg) ?_
    clear hg he
    refine Ev.blk (is := [.iload_n 2]) (pc2 := 109) (L2 := [(2, v0), (0, v1), (0, v2), (9, 0), (0, v4)]) (S2 := [(0, v2)]) (h2 := h9) (by decide +kernel) rfl trivial ?_
    obtain ⟨ha, hb⟩ := bite hx
    clear hx
    refine Ev.br (i := .ifCond .eq 19) (len := 3) (a := 128) (b := 112) (by decide +kernel) rfl Iff.rfl (fun hc => ?_) (fun hc => ?_)
    · have hx := ha hc
      clear ha hb hc
      exact y_R_readsLine_128 hd v0 v1 v2 v4 h9 _ hx
    · have hx := hb hc
      clear ha hb hc
      refine Ev.blk (is := [.aload_n 0, .iload_n 2, .iconst 4]) (pc2 := 115) (L2 := [(2, v0), (0, v1), (0, v2), (9, 0), (0, v4)]) (S2 := [(0, 4), (0, v2), (2, v0)]) (h2 := h9) (by decide +kernel) rfl trivial ?_
      obtain ⟨ha, hb⟩ := bite hx
      clear hx
      refine Ev.br (i := .if_icmp .ne 8) (len := 3) (a := 118) (b := 123) (by decide +kernel) rfl Iff.rfl (fun hc => ?_) (fun hc => ?_)
      · have hx := ha hc
        clear ha hb hc
        refine Ev.blk (is := [.sipush 8]) (pc2 := 120) (L2 := [(2, v0), (0, v1), (0, v2), (9, 0), (0, v4)]) (S2 := [(0, 8), (2, v0)]) (h2 := h9) (by decide +kernel) rfl trivial ?_
        refine Ev.jp (i := .goto 5) (len := 3) (pc2 := 125) (by decide +kernel) rfl ?_
        exact y_R_readsLine_125 hd v0 v1 v2 v4 8 v0 h9 _ hx
      · have hx := hb hc
        clear ha hb hc
        refine Ev.blk (is := [.sipush 6]) (pc2 := 125) (L2 := [(2, v0), (0, v1), (0, v2), (9, 0), (0, v4)]) (S2 := [(0, 6), (2, v0)]) (h2 := h9) (by decide +kernel) rfl trivial ?_
        exact y_R_readsLine_125 hd v0 v1 v2 v4 6 v0 h9 _ hx
theorem y_R_readsLine_16 {sc : AS} {d : Nat} (hd : 5 ≤ d) : ∀ (v0 : Int) (h : AH) (r : AH), R_readsLine_16 v0 h = some r → Ev sc d 209 16 [(2, v0), (9, 0), (9, 0), (9, 0), (9, 0)] [] h none r := by
  intro v0 h r hx
  unfold R_readsLine_16 at hx
  refine Ev.blk (is := [.aload_n 0]) (pc2 := 17) (L2 := [(2, v0), (9, 0), (9, 0), (9, 0), (9, 0)]) (S2 := [(2, v0)]) (h2 := h) (by decide +kernel) rfl trivial ?_
  obtain ⟨_, hg, -, hx⟩ := bgd hx
  obtain ⟨h2, hc, hx⟩ := bca hx
  refine Ev.call (args := [(2, v0)]) (S2 := []) (r1 := none) (h1 := h2) (i := .invokevirtual 210) (by decide +kernel) rfl rfl (Nat.le_of_ble_eq_true rfl) (Or.inr (Or.inl ⟨rfl, hg, by decide +kernel⟩)) (x_R_fails (by omega) hc) ?_
  cases hx
  exact Ev.ret (i := .return_) (len := 1) (by decide +kernel) rfl (finOf (t := none) rfl (trivial))
theorem x_R_readsLine {sc : AS} {d : Nat} (hd : 6 ≤ d) {v0 : Int} {v1 : Int} {h : AH} {r : AH} (hx : R_readsLine v0 v1 h = some r) : Runs sc d 209 [(2, v0), (0, v1)] h none r := by
  obtain ⟨d, rfl⟩ : ∃ e, d = e + 1 := ⟨d - 1, by omega⟩
  have hd : 5 ≤ d := by omega
  unfold R_readsLine at hx
  refine ⟨⟨aM_209, rfl, Nat.le_of_ble_eq_true rfl⟩, ?_⟩
  show Ev sc d 209 0 [(2, v0), (0, v1), (9, 0), (9, 0), (9, 0)] [] h none r
  obtain ⟨u1, hg, he, hx⟩ := bgd hx
  refine Ev.blk (is := [.aload_n 0, .getfield 9025]) (pc2 := 4) (L2 := [(2, v0), (0, v1), (9, 0), (9, 0), (9, 0)]) (S2 := [(0, u1)]) (h2 := h) (by decide +kernel) (by subst he; rfl) (by exact hg) ?_
  clear hg he
  refine Ev.blk (is := [.iconst 1]) (pc2 := 5) (L2 := [(2, v0), (0, v1), (9, 0), (9, 0), (9, 0)]) (S2 := [(0, 1), (0, u1)]) (h2 := h) (by decide +kernel) rfl trivial ?_
  obtain ⟨ha, hb⟩ := bite hx
  clear hx
  refine Ev.br (i := .if_icmp .ne 11) (len := 3) (a := 8) (b := 16) (by decide +kernel) rfl Iff.rfl (fun hc => ?_) (fun hc => ?_)
  · have hx := ha hc
    clear ha hb hc
    obtain ⟨u2, hg, he, hx⟩ := bgd hx
    refine Ev.blk (is := [.aload_n 0, .getfield 9027]) (pc2 := 12) (L2 := [(2, v0), (0, v1), (9, 0), (9, 0), (9, 0)]) (S2 := [(0, u2)]) (h2 := h) (by decide +kernel) (by subst he; rfl) (by exact hg) ?_
    clear hg he
    refine Ev.blk (is := [.iconst 4]) (pc2 := 13) (L2 := [(2, v0), (0, v1), (9, 0), (9, 0), (9, 0)]) (S2 := [(0, 4), (0, u2)]) (h2 := h) (by decide +kernel) rfl trivial ?_
    obtain ⟨ha, hb⟩ := bite hx
    clear hx
    refine Ev.br (i := .if_icmp .le 8) (len := 3) (a := 16) (b := 21) (by decide +kernel) rfl Iff.rfl (fun hc => ?_) (fun hc => ?_)
    · have hx := ha hc
      clear ha hb hc
      refine Ev.wk (L2 := [(2, v0), (9, 0), (9, 0), (9, 0), (9, 0)]) (wkL_of ⟨Or.inl rfl, ⟨Or.inr rfl, ⟨Or.inl rfl, ⟨Or.inl rfl, ⟨Or.inl rfl, trivial⟩⟩⟩⟩⟩) ?_
      exact y_R_readsLine_16 hd v0 h _ hx
    · have hx := hb hc
      clear ha hb hc
      obtain ⟨u3, hg, he, hx⟩ := bgd hx
      refine Ev.blk (is := [.aload_n 0, .getfield 9027]) (pc2 := 25) (L2 := [(2, v0), (0, v1), (9, 0), (9, 0), (9, 0)]) (S2 := [(0, u3)]) (h2 := h) (by decide +kernel) (by subst he; rfl) (by exact hg) ?_
      clear hg he
      refine Ev.blk (is := [.istore_n 2, .aload_n 0]) (pc2 := 27) (L2 := [(2, v0), (0, v1), (0, u3), (9, 0), (9, 0)]) (S2 := [(2, v0)]) (h2 := h) (by decide +kernel) rfl trivial ?_
      obtain ⟨_, hg, -, hx⟩ := bgd hx
      obtain ⟨h5, hc, hx⟩ := bca hx
      refine Ev.call (args := [(2, v0)]) (S2 := []) (r1 := none) (h1 := h5) (i := .invokevirtual 204) (by decide +kernel) rfl rfl (Nat.le_of_ble_eq_true rfl) (Or.inr (Or.inl ⟨rfl, hg, by decide +kernel⟩)) (x_R_goesOn (by omega) hc) ?_
      refine Ev.blk (is := [.aload_n 0, .iconst 2, .sipush 1000000000]) (pc2 := 35) (L2 := [(2, v0), (0, v1), (0, u3), (9, 0), (9, 0)]) (S2 := [(0, 1000000000), (0, 2), (2, v0)]) (h2 := h5) (by decide +kernel) rfl trivial ?_
      obtain ⟨_, hg, -, hx⟩ := bgd hx
      obtain ⟨u6, hc, hx⟩ := bca hx
      refine Ev.call (args := [(2, v0), (0, 2), (0, 1000000000)]) (S2 := []) (r1 := (some (0, u6.1))) (h1 := u6.2) (i := .invokevirtual 211) (by decide +kernel) rfl rfl (Nat.le_of_ble_eq_true rfl) (Or.inr (Or.inl ⟨rfl, hg, by decide +kernel⟩)) (x_R_needsInt (by omega) hc) ?_
      refine Ev.blk (is := [.istore_n 3, .aload_n 0, .iload_n 1, .iload_n 3, .iload_n 2]) (pc2 := 43) (L2 := [(2, v0), (0, v1), (0, u3), (0, u6.1), (9, 0)]) (S2 := [(0, u3), (0, u6.1), (0, v1), (2, v0)]) (h2 := u6.2) (by decide +kernel) rfl trivial ?_
      obtain ⟨_, hg, -, hx⟩ := bgd hx
      obtain ⟨h8, hc, hx⟩ := bca hx
      refine Ev.call (args := [(2, v0), (0, v1), (0, u6.1), (0, u3)]) (S2 := []) (r1 := none) (h1 := h8) (i := .invokevirtual 186) (by decide +kernel) rfl rfl (Nat.le_of_ble_eq_true rfl) (Or.inr (Or.inl ⟨rfl, hg, by decide +kernel⟩)) (x_R_begins (by omega) hc) ?_
      refine Ev.blk (is := [.iconst 0, .istore 4, .iload_n 2, .iconst 1]) (pc2 := 51) (L2 := [(2, v0), (0, v1), (0, u3), (0, u6.1), (0, 0)]) (S2 := [(0, 1), (0, u3)]) (h2 := h8) (by decide +kernel) rfl trivial ?_
      obtain ⟨ha, hb⟩ := bite hx
      clear hx
      refine Ev.br (i := .if_icmp .ne 18) (len := 3) (a := 54) (b := 69) (by decide +kernel) rfl Iff.rfl (fun hc => ?_) (fun hc => ?_)
      · have hx := ha hc
        clear ha hb hc
        refine Ev.blk (is := [.aload_n 0, .iconst 5]) (pc2 := 56) (L2 := [(2, v0), (0, v1), (0, u3), (0, u6.1), (0, 0)]) (S2 := [(0, 5), (2, v0)]) (h2 := h8) (by decide +kernel) rfl trivial ?_
        obtain ⟨_, hg, -, hx⟩ := bgd hx
        obtain ⟨h10, hc, hx⟩ := bca hx
        refine Ev.call (args := [(2, v0), (0, 5)]) (S2 := []) (r1 := none) (h1 := h10) (i := .invokevirtual 212) (by decide +kernel) rfl rfl (Nat.le_of_ble_eq_true rfl) (Or.inr (Or.inl ⟨rfl, hg, by decide +kernel⟩)) (x_R_needsWord (by omega) hc) ?_
        refine Ev.blk (is := [.aload_n 0, .iconst 2, .sipush 999]) (pc2 := 64) (L2 := [(2, v0), (0, v1), (0, u3), (0, u6.1), (0, 0)]) (S2 := [(0, 999), (0, 2), (2, v0)]) (h2 := h10) (by decide +kernel) rfl trivial ?_
        obtain ⟨_, hg, -, hx⟩ := bgd hx
        obtain ⟨u11, hc, hx⟩ := bca hx
        refine Ev.call (args := [(2, v0), (0, 2), (0, 999)]) (S2 := []) (r1 := (some (0, u11.1))) (h1 := u11.2) (i := .invokevirtual 211) (by decide +kernel) rfl rfl (Nat.le_of_ble_eq_true rfl) (Or.inr (Or.inl ⟨rfl, hg, by decide +kernel⟩)) (x_R_needsInt (by omega) hc) ?_
        refine Ev.blk (is := [.istore 4]) (pc2 := 69) (L2 := [(2, v0), (0, v1), (0, u3), (0, u6.1), (0, u11.1)]) (S2 := []) (h2 := u11.2) (by decide +kernel) rfl trivial ?_
        refine Ev.wk (L2 := [(2, v0), (0, v1), (0, u3), (9, 0), (0, u11.1)]) (wkL_of ⟨Or.inl rfl, ⟨Or.inl rfl, ⟨Or.inl rfl, ⟨Or.inr rfl, ⟨Or.inl rfl, trivial⟩⟩⟩⟩⟩) ?_
        exact y_R_readsLine_69 hd v0 v1 u3 u11.1 u11.2 _ hx
      · have hx := hb hc
        clear ha hb hc
        refine Ev.wk (L2 := [(2, v0), (0, v1), (0, u3), (9, 0), (0, 0)]) (wkL_of ⟨Or.inl rfl, ⟨Or.inl rfl, ⟨Or.inl rfl, ⟨Or.inr rfl, ⟨Or.inl rfl, trivial⟩⟩⟩⟩⟩) ?_
        exact y_R_readsLine_69 hd v0 v1 u3 0 h8 _ hx
  · have hx := hb hc
    clear ha hb hc
    refine Ev.wk (L2 := [(2, v0), (9, 0), (9, 0), (9, 0), (9, 0)]) (wkL_of ⟨Or.inl rfl, ⟨Or.inr rfl, ⟨Or.inl rfl, ⟨Or.inl rfl, ⟨Or.inl rfl, trivial⟩⟩⟩⟩⟩) ?_
    exact y_R_readsLine_16 hd v0 h _ hx
theorem y_R_read_52 {sc : AS} {d : Nat} (hd : 6 ≤ d) : ∀ (v0 : Int) (v1 : Int) (h : AH) (r : (Int × AH)), R_read_52 v0 v1 h = some r → Ev sc d 203 52 [(2, v0), (0, v1)] [] h (some (0, r.1)) r.2 := by
  intro v0 v1 h r hx
  unfold R_read_52 at hx
  obtain ⟨h1, hg, he, hx⟩ := bgd hx
  refine Ev.blk (is := [.aload_n 0, .iconst 0, .putfield 9024]) (pc2 := 57) (L2 := [(2, v0), (0, v1)]) (S2 := []) (h2 := h1) (by decide +kernel) (by subst he; rfl) (by exact hg) ?_
  clear hg he
  obtain ⟨u2, hg, he, hx⟩ := bgd hx
  refine Ev.blk (is := [.aload_n 0, .getfield 9030]) (pc2 := 61) (L2 := [(2, v0), (0, v1)]) (S2 := [(0, u2)]) (h2 := h1) (by decide +kernel) (by subst he; rfl) (by exact hg) ?_
  clear hg he
  refine Ev.blk (is := [.iconst (-1)]) (pc2 := 62) (L2 := [(2, v0), (0, v1)]) (S2 := [(0, (-1)), (0, u2)]) (h2 := h1) (by decide +kernel) rfl trivial ?_
  obtain ⟨ha, hb⟩ := bite hx
  clear hx
  refine Ev.br (i := .if_icmp .eq 11) (len := 3) (a := 73) (b := 65) (by decide +kernel) rfl Iff.rfl (fun hc => ?_) (fun hc => ?_)
  · have hx := ha hc
    clear ha hb hc
    obtain ⟨u3, hg, he, hx⟩ := bgd hx
    refine Ev.blk (is := [.aload_n 0, .getfield 9007]) (pc2 := 77) (L2 := [(2, v0), (0, v1)]) (S2 := [(0, u3)]) (h2 := h1) (by decide +kernel) (by subst he; rfl) (by exact hg) ?_
    clear hg he
    refine Ev.blk (is := [.iload_n 1, .iadd, .sipush 60]) (pc2 := 81) (L2 := [(2, v0), (0, v1)]) (S2 := [(0, 60), (0, w32 (u3 + v1))]) (h2 := h1) (by decide +kernel) rfl trivial ?_
    obtain ⟨ha, hb⟩ := bite hx
    clear hx
    refine Ev.br (i := .if_icmp .le 6) (len := 3) (a := 84) (b := 87) (by decide +kernel) rfl Iff.rfl (fun hc => ?_) (fun hc => ?_)
    · have hx := ha hc
      clear ha hb hc
      refine Ev.blk (is := [.sipush (-3)]) (pc2 := 86) (L2 := [(2, v0), (0, v1)]) (S2 := [(0, (-3))]) (h2 := h1) (by decide +kernel) rfl trivial ?_
      cases hx
      exact Ev.ret (i := .ireturn) (len := 1) (by decide +kernel) rfl (finOf (t := some .int) rfl (trivial))
    · have hx := hb hc
      clear ha hb hc
      obtain ⟨u4, hg, he, hx⟩ := bgd hx
      refine Ev.blk (is := [.aload_n 0, .dup, .getfield 9007]) (pc2 := 92) (L2 := [(2, v0), (0, v1)]) (S2 := [(0, u4), (2, v0)]) (h2 := h1) (by decide +kernel) (by subst he; rfl) (by exact hg) ?_
      clear hg he
      obtain ⟨h5, hg, he, hx⟩ := bgd hx
      refine Ev.blk (is := [.iload_n 1, .iadd, .putfield 9007]) (pc2 := 97) (L2 := [(2, v0), (0, v1)]) (S2 := []) (h2 := h5) (by decide +kernel) (by subst he; rfl) (by exact hg) ?_
      clear hg he
      refine Ev.blk (is := [.iload_n 1]) (pc2 := 98) (L2 := [(2, v0), (0, v1)]) (S2 := [(0, v1)]) (h2 := h5) (by decide +kernel) rfl trivial ?_
      cases hx
      exact Ev.ret (i := .ireturn) (len := 1) (by decide +kernel) rfl (finOf (t := some .int) rfl (trivial))
  · have hx := hb hc
    clear ha hb hc
    obtain ⟨u6, hg, he, hx⟩ := bgd hx
    refine Ev.blk (is := [.sipush (-4), .aload_n 0, .getfield 9030]) (pc2 := 71) (L2 := [(2, v0), (0, v1)]) (S2 := [(0, u6), (0, (-4))]) (h2 := h1) (by decide +kernel) (by subst he; rfl) (by exact hg) ?_
    clear hg he
    refine Ev.blk (is := [.isub]) (pc2 := 72) (L2 := [(2, v0), (0, v1)]) (S2 := [(0, w32 ((-4) - u6))]) (h2 := h1) (by decide +kernel) rfl trivial ?_
    cases hx
    exact Ev.ret (i := .ireturn) (len := 1) (by decide +kernel) rfl (finOf (t := some .int) rfl (trivial))
theorem y_R_read_21 {sc : AS} {d : Nat} (hd : 6 ≤ d) : ∀ (fu : Nat) (v0 : Int) (v1 : Int) (h : AH) (r : (Int × AH)), R_read_21 fu v0 v1 h = some r → Ev sc d 203 21 [(2, v0), (0, v1)] [] h (some (0, r.1)) r.2 := by
  intro fu
  induction fu with
  | zero => intro v0 v1 h r hx; unfold R_read_21 at hx; cases hx
  | succ fu ih =>
    intro v0 v1 h r hx
    unfold R_read_21 at hx
    obtain ⟨u1, hg, he, hx⟩ := bgd hx
    refine Ev.blk (is := [.aload_n 0, .getfield 9030]) (pc2 := 25) (L2 := [(2, v0), (0, v1)]) (S2 := [(0, u1)]) (h2 := h) (by decide +kernel) (by subst he; rfl) (by exact hg) ?_
    clear hg he
    refine Ev.blk (is := [.iconst (-1)]) (pc2 := 26) (L2 := [(2, v0), (0, v1)]) (S2 := [(0, (-1)), (0, u1)]) (h2 := h) (by decide +kernel) rfl trivial ?_
    obtain ⟨ha, hb⟩ := bite hx
    clear hx
    refine Ev.br (i := .if_icmp .ne 26) (len := 3) (a := 29) (b := 52) (by decide +kernel) rfl Iff.rfl (fun hc => ?_) (fun hc => ?_)
    · have hx := ha hc
      clear ha hb hc
      obtain ⟨u2, hg, he, hx⟩ := bgd hx
      refine Ev.blk (is := [.aload_n 0, .getfield 9025]) (pc2 := 33) (L2 := [(2, v0), (0, v1)]) (S2 := [(0, u2)]) (h2 := h) (by decide +kernel) (by subst he; rfl) (by exact hg) ?_
      clear hg he
      obtain ⟨ha, hb⟩ := bite hx
      clear hx
      refine Ev.br (i := .ifCond .eq 19) (len := 3) (a := 52) (b := 36) (by decide +kernel) rfl Iff.rfl (fun hc => ?_) (fun hc => ?_)
      · have hx := ha hc
        clear ha hb hc
        exact y_R_read_52 hd v0 v1 h _ hx
      · have hx := hb hc
        clear ha hb hc
        obtain ⟨u3, hg, he, hx⟩ := bgd hx
        refine Ev.blk (is := [.aload_n 0, .aload_n 0, .getfield 9007]) (pc2 := 41) (L2 := [(2, v0), (0, v1)]) (S2 := [(0, u3), (2, v0)]) (h2 := h) (by decide +kernel) (by subst he; rfl) (by exact hg) ?_
        clear hg he
        refine Ev.blk (is := [.iload_n 1, .iadd]) (pc2 := 43) (L2 := [(2, v0), (0, v1)]) (S2 := [(0, w32 (u3 + v1)), (2, v0)]) (h2 := h) (by decide +kernel) rfl trivial ?_
        obtain ⟨_, hg, -, hx⟩ := bgd hx
        obtain ⟨h5, hc, hx⟩ := bca hx
        refine Ev.call (args := [(2, v0), (0, w32 (u3 + v1))]) (S2 := []) (r1 := none) (h1 := h5) (i := .invokevirtual 209) (by decide +kernel) rfl rfl (Nat.le_of_ble_eq_true rfl) (Or.inr (Or.inl ⟨rfl, hg, by decide +kernel⟩)) (x_R_readsLine (by omega) hc) ?_
        refine Ev.blk (is := [.iinc 1 1]) (pc2 := 49) (L2 := [(2, v0), (0, w32 (v1 + 1))]) (S2 := []) (h2 := h5) (by decide +kernel) rfl trivial ?_
        refine Ev.jp (i := .goto (-28)) (len := 3) (pc2 := 21) (by decide +kernel) rfl ?_
        exact ih v0 (w32 (v1 + 1)) h5 _ hx
    · have hx := hb hc
      clear ha hb hc
      exact y_R_read_52 hd v0 v1 h _ hx
theorem x_R_read {sc : AS} {d : Nat} (hd : 7 ≤ d) {v0 : Int} {h : AH} {r : (Int × AH)} (hx : R_read v0 h = some r) : Runs sc d 203 [(2, v0)] h (some (0, r.1)) r.2 := by
  obtain ⟨d, rfl⟩ : ∃ e, d = e + 1 := ⟨d - 1, by omega⟩
  have hd : 6 ≤ d := by omega
  unfold R_read at hx
  refine ⟨⟨aM_203, rfl, Nat.le_of_ble_eq_true rfl⟩, ?_⟩
  show Ev sc d 203 0 [(2, v0), (9, 0)] [] h (some (0, r.1)) r.2
  obtain ⟨h1, hg, he, hx⟩ := bgd hx
  refine Ev.blk (is := [.aload_n 0, .iconst 0, .putfield 9029]) (pc2 := 5) (L2 := [(2, v0), (9, 0)]) (S2 := []) (h2 := h1) (by decide +kernel) (by subst he; rfl) (by exact hg) ?_
  clear hg he
  obtain ⟨h2, hg, he, hx⟩ := bgd hx
  refine Ev.blk (is := [.aload_n 0, .iconst 3, .putfield 9025]) (pc2 := 10) (L2 := [(2, v0), (9, 0)]) (S2 := []) (h2 := h2) (by decide +kernel) (by subst he; rfl) (by exact hg) ?_
  clear hg he
  obtain ⟨h3, hg, he, hx⟩ := bgd hx
  refine Ev.blk (is := [.aload_n 0, .iconst (-1), .putfield 9030]) (pc2 := 15) (L2 := [(2, v0), (9, 0)]) (S2 := []) (h2 := h3) (by decide +kernel) (by subst he; rfl) (by exact hg) ?_
  clear hg he
  refine Ev.blk (is := [.iconst 0, .istore_n 1, .aload_n 0]) (pc2 := 18) (L2 := [(2, v0), (0, 0)]) (S2 := [(2, v0)]) (h2 := h3) (by decide +kernel) rfl trivial ?_
  obtain ⟨_, hg, -, hx⟩ := bgd hx
  obtain ⟨h5, hc, hx⟩ := bca hx
  refine Ev.call (args := [(2, v0)]) (S2 := []) (r1 := none) (h1 := h5) (i := .invokevirtual 204) (by decide +kernel) rfl rfl (Nat.le_of_ble_eq_true rfl) (Or.inr (Or.inl ⟨rfl, hg, by decide +kernel⟩)) (x_R_goesOn (by omega) hc) ?_
  exact y_R_read_21 hd FU v0 0 h5 _ hx
theorem x_R_writesSign {sc : AS} {d : Nat} (hd : 1 ≤ d) {v0 : Int} {v1 : Int} {h : AH} {r : AH} (hx : R_writesSign v0 v1 h = some r) : Runs sc d 219 [(2, v0), (0, v1)] h none r := by
  obtain ⟨d, rfl⟩ : ∃ e, d = e + 1 := ⟨d - 1, by omega⟩
  have hd : 0 ≤ d := by omega
  unfold R_writesSign at hx
  refine ⟨⟨aM_219, rfl, Nat.le_of_ble_eq_true rfl⟩, ?_⟩
  show Ev sc d 219 0 [(2, v0), (0, v1)] [] h none r
  obtain ⟨u1, hg, he, hx⟩ := bgd hx
  refine Ev.blk (is := [.aload_n 0, .getfield 9232]) (pc2 := 4) (L2 := [(2, v0), (0, v1)]) (S2 := [(2, u1)]) (h2 := h) (by decide +kernel) (by subst he; rfl) (by exact hg) ?_
  clear hg he
  obtain ⟨u2, hg, he, hx⟩ := bgd hx
  refine Ev.blk (is := [.aload_n 0, .getfield 9033]) (pc2 := 8) (L2 := [(2, v0), (0, v1)]) (S2 := [(0, u2), (2, u1)]) (h2 := h) (by decide +kernel) (by subst he; rfl) (by exact hg) ?_
  clear hg he
  obtain ⟨h3, hg, he, hx⟩ := bgd hx
  refine Ev.blk (is := [.iload_n 1, .iastore]) (pc2 := 10) (L2 := [(2, v0), (0, v1)]) (S2 := []) (h2 := h3) (by decide +kernel) (by subst he; rfl) (by exact hg) ?_
  clear hg he
  obtain ⟨u4, hg, he, hx⟩ := bgd hx
  refine Ev.blk (is := [.aload_n 0, .dup, .getfield 9033]) (pc2 := 15) (L2 := [(2, v0), (0, v1)]) (S2 := [(0, u4), (2, v0)]) (h2 := h3) (by decide +kernel) (by subst he; rfl) (by exact hg) ?_
  clear hg he
  obtain ⟨h5, hg, he, hx⟩ := bgd hx
  refine Ev.blk (is := [.iconst 1, .iadd, .putfield 9033]) (pc2 := 20) (L2 := [(2, v0), (0, v1)]) (S2 := []) (h2 := h5) (by decide +kernel) (by subst he; rfl) (by exact hg) ?_
  clear hg he
  cases hx
  exact Ev.ret (i := .return_) (len := 1) (by decide +kernel) rfl (finOf (t := none) rfl (trivial))
theorem y_R_writesWord_19 {sc : AS} {d : Nat} (hd : 1 ≤ d) : ∀ (fu : Nat) (v0 : Int) (v2 : Int) (h : AH) (r : AH), R_writesWord_19 fu v0 v2 h = some r → Ev sc d 218 19 [(2, v0), (9, 0), (0, v2)] [] h none r := by
  intro fu
  induction fu with
  | zero => intro v0 v2 h r hx; unfold R_writesWord_19 at hx; cases hx
  | succ fu ih =>
    intro v0 v2 h r hx
    unfold R_writesWord_19 at hx
    obtain ⟨u1, hg, he, hx⟩ := bgd hx
    refine Ev.blk (is := [.aload_n 0, .getfield 9231]) (pc2 := 23) (L2 := [(2, v0), (9, 0), (0, v2)]) (S2 := [(2, u1)]) (h2 := h) (by decide +kernel) (by subst he; rfl) (by exact hg) ?_
    clear hg he
    obtain ⟨u2, hg, he, hx⟩ := bgd hx
    refine Ev.blk (is := [.iload_n 2, .baload]) (pc2 := 25) (L2 := [(2, v0), (9, 0), (0, v2)]) (S2 := [(0, u2)]) (h2 := h) (by decide +kernel) (by subst he; rfl) (by exact hg) ?_
    clear hg he
    obtain ⟨ha, hb⟩ := bite hx
    clear hx
    refine Ev.br (i := .ifCond .eq 19) (len := 3) (a := 44) (b := 28) (by decide +kernel) rfl Iff.rfl (fun hc => ?_) (fun hc => ?_)
    · have hx := ha hc
      clear ha hb hc
      cases hx
      exact Ev.ret (i := .return_) (len := 1) (by decide +kernel) rfl (finOf (t := none) rfl (trivial))
    · have hx := hb hc
      clear ha hb hc
      obtain ⟨u3, hg, he, hx⟩ := bgd hx
      refine Ev.blk (is := [.aload_n 0, .aload_n 0, .getfield 9231]) (pc2 := 33) (L2 := [(2, v0), (9, 0), (0, v2)]) (S2 := [(2, u3), (2, v0)]) (h2 := h) (by decide +kernel) (by subst he; rfl) (by exact hg) ?_
      clear hg he
      obtain ⟨u4, hg, he, hx⟩ := bgd hx
      refine Ev.blk (is := [.iload_n 2, .baload]) (pc2 := 35) (L2 := [(2, v0), (9, 0), (0, v2)]) (S2 := [(0, u4), (2, v0)]) (h2 := h) (by decide +kernel) (by subst he; rfl) (by exact hg) ?_
      clear hg he
      obtain ⟨_, hg, -, hx⟩ := bgd hx
      obtain ⟨h6, hc, hx⟩ := bca hx
      refine Ev.call (args := [(2, v0), (0, u4)]) (S2 := []) (r1 := none) (h1 := h6) (i := .invokevirtual 219) (by decide +kernel) rfl rfl (Nat.le_of_ble_eq_true rfl) (Or.inr (Or.inl ⟨rfl, hg, by decide +kernel⟩)) (x_R_writesSign (by omega) hc) ?_
      refine Ev.blk (is := [.iinc 2 1]) (pc2 := 41) (L2 := [(2, v0), (9, 0), (0, w32 (v2 + 1))]) (S2 := []) (h2 := h6) (by decide +kernel) rfl trivial ?_
      refine Ev.jp (i := .goto (-22)) (len := 3) (pc2 := 19) (by decide +kernel) rfl ?_
      exact ih v0 (w32 (v2 + 1)) h6 _ hx
theorem y_R_writesWord_13 {sc : AS} {d : Nat} (hd : 1 ≤ d) : ∀ (v0 : Int) (v1 : Int) (h : AH) (r : AH), R_writesWord_13 v0 v1 h = some r → Ev sc d 218 13 [(2, v0), (0, v1), (9, 0)] [] h none r := by
  intro v0 v1 h r hx
  unfold R_writesWord_13 at hx
  refine Ev.blk (is := [.aload_n 0, .iload_n 1]) (pc2 := 15) (L2 := [(2, v0), (0, v1), (9, 0)]) (S2 := [(0, v1), (2, v0)]) (h2 := h) (by decide +kernel) rfl trivial ?_
  obtain ⟨_, hg, -, hx⟩ := bgd hx
  obtain ⟨u1, hc, hx⟩ := bca hx
  refine Ev.call (args := [(2, v0), (0, v1)]) (S2 := []) (r1 := (some (0, u1))) (h1 := h) (i := .invokevirtual 207) (by decide +kernel) rfl rfl (Nat.le_of_ble_eq_true rfl) (Or.inr (Or.inl ⟨rfl, hg, by decide +kernel⟩)) (x_R_wordFrom (by omega) hc) ?_
  refine Ev.blk (is := [.istore_n 2]) (pc2 := 19) (L2 := [(2, v0), (0, v1), (0, u1)]) (S2 := []) (h2 := h) (by decide +kernel) rfl trivial ?_
  refine Ev.wk (L2 := [(2, v0), (9, 0), (0, u1)]) (wkL_of ⟨Or.inl rfl, ⟨Or.inr rfl, ⟨Or.inl rfl, trivial⟩⟩⟩) ?_
  exact y_R_writesWord_19 hd FU v0 u1 h _ hx
theorem x_R_writesWord {sc : AS} {d : Nat} (hd : 2 ≤ d) {v0 : Int} {v1 : Int} {h : AH} {r : AH} (hx : R_writesWord v0 v1 h = some r) : Runs sc d 218 [(2, v0), (0, v1)] h none r := by
  obtain ⟨d, rfl⟩ : ∃ e, d = e + 1 := ⟨d - 1, by omega⟩
  have hd : 1 ≤ d := by omega
  unfold R_writesWord at hx
  refine ⟨⟨aM_218, rfl, Nat.le_of_ble_eq_true rfl⟩, ?_⟩
  show Ev sc d 218 0 [(2, v0), (0, v1), (9, 0)] [] h none r
  obtain ⟨u1, hg, he, hx⟩ := bgd hx
  refine Ev.blk (is := [.aload_n 0, .getfield 9033]) (pc2 := 4) (L2 := [(2, v0), (0, v1), (9, 0)]) (S2 := [(0, u1)]) (h2 := h) (by decide +kernel) (by subst he; rfl) (by exact hg) ?_
  clear hg he
  obtain ⟨ha, hb⟩ := bite hx
  clear hx
  refine Ev.br (i := .ifCond .le 9) (len := 3) (a := 7) (b := 13) (by decide +kernel) rfl Iff.rfl (fun hc => ?_) (fun hc => ?_)
  · have hx := ha hc
    clear ha hb hc
    refine Ev.blk (is := [.aload_n 0, .sipush 32]) (pc2 := 10) (L2 := [(2, v0), (0, v1), (9, 0)]) (S2 := [(0, 32), (2, v0)]) (h2 := h) (by decide +kernel) rfl trivial ?_
    obtain ⟨_, hg, -, hx⟩ := bgd hx
    obtain ⟨h3, hc, hx⟩ := bca hx
    refine Ev.call (args := [(2, v0), (0, 32)]) (S2 := []) (r1 := none) (h1 := h3) (i := .invokevirtual 219) (by decide +kernel) rfl rfl (Nat.le_of_ble_eq_true rfl) (Or.inr (Or.inl ⟨rfl, hg, by decide +kernel⟩)) (x_R_writesSign (by omega) hc) ?_
    exact y_R_writesWord_13 hd v0 v1 h3 _ hx
  · have hx := hb hc
    clear ha hb hc
    exact y_R_writesWord_13 hd v0 v1 h _ hx
theorem y_R_writes_24 {sc : AS} {d : Nat} (hd : 1 ≤ d) : ∀ (fu : Nat) (v0 : Int) (v1 : Int) (v2 : Int) (h : AH) (r : AH), R_writes_24 fu v0 v1 v2 h = some r → Ev sc d 220 24 [(2, v0), (0, v1), (0, v2)] [] h none r := by
  intro fu
  induction fu with
  | zero => intro v0 v1 v2 h r hx; unfold R_writes_24 at hx; cases hx
  | succ fu ih =>
    intro v0 v1 v2 h r hx
    unfold R_writes_24 at hx
    refine Ev.blk (is := [.iload_n 2]) (pc2 := 25) (L2 := [(2, v0), (0, v1), (0, v2)]) (S2 := [(0, v2)]) (h2 := h) (by decide +kernel) rfl trivial ?_
    obtain ⟨ha, hb⟩ := bite hx
    clear hx
    refine Ev.br (i := .ifCond .le 24) (len := 3) (a := 28) (b := 49) (by decide +kernel) rfl Iff.rfl (fun hc => ?_) (fun hc => ?_)
    · have hx := ha hc
      clear ha hb hc
      obtain ⟨u1, hg, he, hx⟩ := bgd hx
      refine Ev.blk (is := [.aload_n 0, .sipush 48, .iload_n 1, .iload_n 2, .idiv]) (pc2 := 34) (L2 := [(2, v0), (0, v1), (0, v2)]) (S2 := [(0, u1), (0, 48), (2, v0)]) (h2 := h) (by decide +kernel) (by subst he; rfl) (by exact hg) ?_
      clear hg he
      obtain ⟨u2, hg, he, hx⟩ := bgd hx
      refine Ev.blk (is := [.sipush 10, .irem]) (pc2 := 37) (L2 := [(2, v0), (0, v1), (0, v2)]) (S2 := [(0, u2), (0, 48), (2, v0)]) (h2 := h) (by decide +kernel) (by subst he; rfl) (by exact hg) ?_
      clear hg he
      refine Ev.blk (is := [.iadd]) (pc2 := 38) (L2 := [(2, v0), (0, v1), (0, v2)]) (S2 := [(0, w32 (48 + u2)), (2, v0)]) (h2 := h) (by decide +kernel) rfl trivial ?_
      obtain ⟨_, hg, -, hx⟩ := bgd hx
      obtain ⟨h4, hc, hx⟩ := bca hx
      refine Ev.call (args := [(2, v0), (0, w32 (48 + u2))]) (S2 := []) (r1 := none) (h1 := h4) (i := .invokevirtual 219) (by decide +kernel) rfl rfl (Nat.le_of_ble_eq_true rfl) (Or.inr (Or.inl ⟨rfl, hg, by decide +kernel⟩)) (x_R_writesSign (by omega) hc) ?_
      obtain ⟨u5, hg, he, hx⟩ := bgd hx
      refine Ev.blk (is := [.iload_n 2, .sipush 10, .idiv]) (pc2 := 45) (L2 := [(2, v0), (0, v1), (0, v2)]) (S2 := [(0, u5)]) (h2 := h4) (by decide +kernel) (by subst he; rfl) (by exact hg) ?_
      clear hg he
      refine Ev.blk (is := [.istore_n 2]) (pc2 := 46) (L2 := [(2, v0), (0, v1), (0, u5)]) (S2 := []) (h2 := h4) (by decide +kernel) rfl trivial ?_
      refine Ev.jp (i := .goto (-22)) (len := 3) (pc2 := 24) (by decide +kernel) rfl ?_
      exact ih v0 v1 u5 h4 _ hx
    · have hx := hb hc
      clear ha hb hc
      cases hx
      exact Ev.ret (i := .return_) (len := 1) (by decide +kernel) rfl (finOf (t := none) rfl (trivial))
theorem y_R_writes_8 {sc : AS} {d : Nat} (hd : 1 ≤ d) : ∀ (fu : Nat) (v0 : Int) (v1 : Int) (v2 : Int) (h : AH) (r : AH), R_writes_8 fu v0 v1 v2 h = some r → Ev sc d 220 8 [(2, v0), (0, v1), (0, v2)] [] h none r := by
  intro fu
  induction fu with
  | zero => intro v0 v1 v2 h r hx; unfold R_writes_8 at hx; cases hx
  | succ fu ih =>
    intro v0 v1 v2 h r hx
    unfold R_writes_8 at hx
    obtain ⟨u1, hg, he, hx⟩ := bgd hx
    refine Ev.blk (is := [.iload_n 1, .iload_n 2, .idiv]) (pc2 := 11) (L2 := [(2, v0), (0, v1), (0, v2)]) (S2 := [(0, u1)]) (h2 := h) (by decide +kernel) (by subst he; rfl) (by exact hg) ?_
    clear hg he
    refine Ev.blk (is := [.sipush 9]) (pc2 := 13) (L2 := [(2, v0), (0, v1), (0, v2)]) (S2 := [(0, 9), (0, u1)]) (h2 := h) (by decide +kernel) rfl trivial ?_
    obtain ⟨ha, hb⟩ := bite hx
    clear hx
    refine Ev.br (i := .if_icmp .le 11) (len := 3) (a := 16) (b := 24) (by decide +kernel) rfl Iff.rfl (fun hc => ?_) (fun hc => ?_)
    · have hx := ha hc
      clear ha hb hc
      refine Ev.blk (is := [.iload_n 2, .sipush 10, .imul, .istore_n 2]) (pc2 := 21) (L2 := [(2, v0), (0, v1), (0, w32 (v2 * 10))]) (S2 := []) (h2 := h) (by decide +kernel) rfl trivial ?_
      refine Ev.jp (i := .goto (-13)) (len := 3) (pc2 := 8) (by decide +kernel) rfl ?_
      exact ih v0 v1 (w32 (v2 * 10)) h _ hx
    · have hx := hb hc
      clear ha hb hc
      exact y_R_writes_24 hd FU v0 v1 v2 h _ hx
theorem x_R_writes {sc : AS} {d : Nat} (hd : 2 ≤ d) {v0 : Int} {v1 : Int} {h : AH} {r : AH} (hx : R_writes v0 v1 h = some r) : Runs sc d 220 [(2, v0), (0, v1)] h none r := by
  obtain ⟨d, rfl⟩ : ∃ e, d = e + 1 := ⟨d - 1, by omega⟩
  have hd : 1 ≤ d := by omega
  unfold R_writes at hx
  refine ⟨⟨aM_220, rfl, Nat.le_of_ble_eq_true rfl⟩, ?_⟩
  show Ev sc d 220 0 [(2, v0), (0, v1), (9, 0)] [] h none r
  refine Ev.blk (is := [.aload_n 0, .sipush 32]) (pc2 := 3) (L2 := [(2, v0), (0, v1), (9, 0)]) (S2 := [(0, 32), (2, v0)]) (h2 := h) (by decide +kernel) rfl trivial ?_
  obtain ⟨_, hg, -, hx⟩ := bgd hx
  obtain ⟨h2, hc, hx⟩ := bca hx
  refine Ev.call (args := [(2, v0), (0, 32)]) (S2 := []) (r1 := none) (h1 := h2) (i := .invokevirtual 219) (by decide +kernel) rfl rfl (Nat.le_of_ble_eq_true rfl) (Or.inr (Or.inl ⟨rfl, hg, by decide +kernel⟩)) (x_R_writesSign (by omega) hc) ?_
  refine Ev.blk (is := [.iconst 1, .istore_n 2]) (pc2 := 8) (L2 := [(2, v0), (0, v1), (0, 1)]) (S2 := []) (h2 := h2) (by decide +kernel) rfl trivial ?_
  exact y_R_writes_8 hd FU v0 v1 1 h2 _ hx
theorem y_R_writesLine_193 {sc : AS} {d : Nat} (hd : 2 ≤ d) : ∀ (fu : Nat) (v0 : Int) (v1 : Int) (v3 : Int) (h : AH) (r : AH), R_writesLine_193 fu v0 v1 v3 h = some r → Ev sc d 217 193 [(2, v0), (0, v1), (9, 0), (0, v3)] [] h none r := by
  intro fu
  induction fu with
  | zero => intro v0 v1 v3 h r hx; unfold R_writesLine_193 at hx; cases hx
  | succ fu ih =>
    intro v0 v1 v3 h r hx
    unfold R_writesLine_193 at hx
    obtain ⟨u1, hg, he, hx⟩ := bgd hx
    refine Ev.blk (is := [.iload_n 3, .sipush 9, .iload_n 1, .imul, .aload_n 0, .getfield 9213]) (pc2 := 202) (L2 := [(2, v0), (0, v1), (9, 0), (0, v3)]) (S2 := [(2, u1), (0, w32 (9 * v1)), (0, v3)]) (h2 := h) (by decide +kernel) (by subst he; rfl) (by exact hg) ?_
    clear hg he
    obtain ⟨u2, hg, he, hx⟩ := bgd hx
    refine Ev.blk (is := [.iload_n 1, .iaload]) (pc2 := 204) (L2 := [(2, v0), (0, v1), (9, 0), (0, v3)]) (S2 := [(0, u2), (0, w32 (9 * v1)), (0, v3)]) (h2 := h) (by decide +kernel) (by subst he; rfl) (by exact hg) ?_
    clear hg he
    refine Ev.blk (is := [.iadd]) (pc2 := 205) (L2 := [(2, v0), (0, v1), (9, 0), (0, v3)]) (S2 := [(0, w32 ((w32 (9 * v1)) + u2)), (0, v3)]) (h2 := h) (by decide +kernel) rfl trivial ?_
    obtain ⟨ha, hb⟩ := bite hx
    clear hx
    refine Ev.br (i := .if_icmp .ge 29) (len := 3) (a := 208) (b := 234) (by decide +kernel) rfl Iff.rfl (fun hc => ?_) (fun hc => ?_)
    · have hx := ha hc
      clear ha hb hc
      obtain ⟨u3, hg, he, hx⟩ := bgd hx
      refine Ev.blk (is := [.aload_n 0, .aload_n 0, .getfield 9217]) (pc2 := 213) (L2 := [(2, v0), (0, v1), (9, 0), (0, v3)]) (S2 := [(2, u3), (2, v0)]) (h2 := h) (by decide +kernel) (by subst he; rfl) (by exact hg) ?_
      clear hg he
      obtain ⟨u4, hg, he, hx⟩ := bgd hx
      refine Ev.blk (is := [.iload_n 3, .iaload]) (pc2 := 215) (L2 := [(2, v0), (0, v1), (9, 0), (0, v3)]) (S2 := [(0, u4), (2, v0)]) (h2 := h) (by decide +kernel) (by subst he; rfl) (by exact hg) ?_
      clear hg he
      obtain ⟨_, hg, -, hx⟩ := bgd hx
      obtain ⟨h6, hc, hx⟩ := bca hx
      refine Ev.call (args := [(2, v0), (0, u4)]) (S2 := []) (r1 := none) (h1 := h6) (i := .invokevirtual 220) (by decide +kernel) rfl rfl (Nat.le_of_ble_eq_true rfl) (Or.inr (Or.inl ⟨rfl, hg, by decide +kernel⟩)) (x_R_writes (by omega) hc) ?_
      obtain ⟨u7, hg, he, hx⟩ := bgd hx
      refine Ev.blk (is := [.aload_n 0, .aload_n 0, .getfield 9218]) (pc2 := 223) (L2 := [(2, v0), (0, v1), (9, 0), (0, v3)]) (S2 := [(2, u7), (2, v0)]) (h2 := h6) (by decide +kernel) (by subst he; rfl) (by exact hg) ?_
      clear hg he
      obtain ⟨u8, hg, he, hx⟩ := bgd hx
      refine Ev.blk (is := [.iload_n 3, .iaload]) (pc2 := 225) (L2 := [(2, v0), (0, v1), (9, 0), (0, v3)]) (S2 := [(0, u8), (2, v0)]) (h2 := h6) (by decide +kernel) (by subst he; rfl) (by exact hg) ?_
      clear hg he
      obtain ⟨_, hg, -, hx⟩ := bgd hx
      obtain ⟨h10, hc, hx⟩ := bca hx
      refine Ev.call (args := [(2, v0), (0, u8)]) (S2 := []) (r1 := none) (h1 := h10) (i := .invokevirtual 220) (by decide +kernel) rfl rfl (Nat.le_of_ble_eq_true rfl) (Or.inr (Or.inl ⟨rfl, hg, by decide +kernel⟩)) (x_R_writes (by omega) hc) ?_
      refine Ev.blk (is := [.iinc 3 1]) (pc2 := 231) (L2 := [(2, v0), (0, v1), (9, 0), (0, w32 (v3 + 1))]) (S2 := []) (h2 := h10) (by decide +kernel) rfl trivial ?_
      refine Ev.jp (i := .goto (-38)) (len := 3) (pc2 := 193) (by decide +kernel) rfl ?_
      exact ih v0 v1 (w32 (v3 + 1)) h10 _ hx
    · have hx := hb hc
      clear ha hb hc
      refine Ev.blk (is := [.aload_n 0, .sipush 59]) (pc2 := 237) (L2 := [(2, v0), (0, v1), (9, 0), (0, v3)]) (S2 := [(0, 59), (2, v0)]) (h2 := h) (by decide +kernel) rfl trivial ?_
      obtain ⟨_, hg, -, hx⟩ := bgd hx
      obtain ⟨h12, hc, hx⟩ := bca hx
      refine Ev.call (args := [(2, v0), (0, 59)]) (S2 := []) (r1 := none) (h1 := h12) (i := .invokevirtual 219) (by decide +kernel) rfl rfl (Nat.le_of_ble_eq_true rfl) (Or.inr (Or.inl ⟨rfl, hg, by decide +kernel⟩)) (x_R_writesSign (by omega) hc) ?_
      cases hx
      exact Ev.ret (i := .return_) (len := 1) (by decide +kernel) rfl (finOf (t := none) rfl (trivial))
theorem y_R_writesLine_121 {sc : AS} {d : Nat} (hd : 2 ≤ d) : ∀ (fu : Nat) (v0 : Int) (v1 : Int) (v2 : Int) (v3 : Int) (h : AH) (r : AH), R_writesLine_121 fu v0 v1 v2 v3 h = some r → Ev sc d 217 121 [(2, v0), (0, v1), (0, v2), (0, v3)] [] h none r := by
  intro fu
  induction fu with
  | zero => intro v0 v1 v2 v3 h r hx; unfold R_writesLine_121 at hx; cases hx
  | succ fu ih =>
    intro v0 v1 v2 v3 h r hx
    unfold R_writesLine_121 at hx
    obtain ⟨u1, hg, he, hx⟩ := bgd hx
    refine Ev.blk (is := [.iload_n 3, .sipush 9, .iload_n 1, .imul, .aload_n 0, .getfield 9212]) (pc2 := 130) (L2 := [(2, v0), (0, v1), (0, v2), (0, v3)]) (S2 := [(2, u1), (0, w32 (9 * v1)), (0, v3)]) (h2 := h) (by decide +kernel) (by subst he; rfl) (by exact hg) ?_
    clear hg he
    obtain ⟨u2, hg, he, hx⟩ := bgd hx
    refine Ev.blk (is := [.iload_n 1, .iaload]) (pc2 := 132) (L2 := [(2, v0), (0, v1), (0, v2), (0, v3)]) (S2 := [(0, u2), (0, w32 (9 * v1)), (0, v3)]) (h2 := h) (by decide +kernel) (by subst he; rfl) (by exact hg) ?_
    clear hg he
    refine Ev.blk (is := [.iadd]) (pc2 := 133) (L2 := [(2, v0), (0, v1), (0, v2), (0, v3)]) (S2 := [(0, w32 ((w32 (9 * v1)) + u2)), (0, v3)]) (h2 := h) (by decide +kernel) rfl trivial ?_
    obtain ⟨ha, hb⟩ := bite hx
    clear hx
    refine Ev.br (i := .if_icmp .ge 44) (len := 3) (a := 136) (b := 177) (by decide +kernel) rfl Iff.rfl (fun hc => ?_) (fun hc => ?_)
    · have hx := ha hc
      clear ha hb hc
      obtain ⟨u3, hg, he, hx⟩ := bgd hx
      refine Ev.blk (is := [.aload_n 0, .aload_n 0, .getfield 9214]) (pc2 := 141) (L2 := [(2, v0), (0, v1), (0, v2), (0, v3)]) (S2 := [(2, u3), (2, v0)]) (h2 := h) (by decide +kernel) (by subst he; rfl) (by exact hg) ?_
      clear hg he
      obtain ⟨u4, hg, he, hx⟩ := bgd hx
      refine Ev.blk (is := [.iload_n 3, .iaload]) (pc2 := 143) (L2 := [(2, v0), (0, v1), (0, v2), (0, v3)]) (S2 := [(0, u4), (2, v0)]) (h2 := h) (by decide +kernel) (by subst he; rfl) (by exact hg) ?_
      clear hg he
      obtain ⟨_, hg, -, hx⟩ := bgd hx
      obtain ⟨h6, hc, hx⟩ := bca hx
      refine Ev.call (args := [(2, v0), (0, u4)]) (S2 := []) (r1 := none) (h1 := h6) (i := .invokevirtual 220) (by decide +kernel) rfl rfl (Nat.le_of_ble_eq_true rfl) (Or.inr (Or.inl ⟨rfl, hg, by decide +kernel⟩)) (x_R_writes (by omega) hc) ?_
      obtain ⟨u7, hg, he, hx⟩ := bgd hx
      refine Ev.blk (is := [.aload_n 0, .aload_n 0, .getfield 9215]) (pc2 := 151) (L2 := [(2, v0), (0, v1), (0, v2), (0, v3)]) (S2 := [(2, u7), (2, v0)]) (h2 := h6) (by decide +kernel) (by subst he; rfl) (by exact hg) ?_
      clear hg he
      obtain ⟨u8, hg, he, hx⟩ := bgd hx
      refine Ev.blk (is := [.iload_n 3, .iaload]) (pc2 := 153) (L2 := [(2, v0), (0, v1), (0, v2), (0, v3)]) (S2 := [(0, u8), (2, v0)]) (h2 := h6) (by decide +kernel) (by subst he; rfl) (by exact hg) ?_
      clear hg he
      obtain ⟨_, hg, -, hx⟩ := bgd hx
      obtain ⟨h10, hc, hx⟩ := bca hx
      refine Ev.call (args := [(2, v0), (0, u8)]) (S2 := []) (r1 := none) (h1 := h10) (i := .invokevirtual 220) (by decide +kernel) rfl rfl (Nat.le_of_ble_eq_true rfl) (Or.inr (Or.inl ⟨rfl, hg, by decide +kernel⟩)) (x_R_writes (by omega) hc) ?_
      refine Ev.blk (is := [.iload_n 2, .iconst 1]) (pc2 := 158) (L2 := [(2, v0), (0, v1), (0, v2), (0, v3)]) (S2 := [(0, 1), (0, v2)]) (h2 := h10) (by decide +kernel) rfl trivial ?_
      obtain ⟨ha, hb⟩ := bite hx
      clear hx
      refine Ev.br (i := .if_icmp .eq 13) (len := 3) (a := 171) (b := 161) (by decide +kernel) rfl Iff.rfl (fun hc => ?_) (fun hc => ?_)
      · have hx := ha hc
        clear ha hb hc
        refine Ev.blk (is := [.iinc 3 1]) (pc2 := 174) (L2 := [(2, v0), (0, v1), (0, v2), (0, w32 (v3 + 1))]) (S2 := []) (h2 := h10) (by decide +kernel) rfl trivial ?_
        refine Ev.jp (i := .goto (-53)) (len := 3) (pc2 := 121) (by decide +kernel) rfl ?_
        exact ih v0 v1 v2 (w32 (v3 + 1)) h10 _ hx
      · have hx := hb hc
        clear ha hb hc
        obtain ⟨u11, hg, he, hx⟩ := bgd hx
        refine Ev.blk (is := [.aload_n 0, .aload_n 0, .getfield 9216]) (pc2 := 166) (L2 := [(2, v0), (0, v1), (0, v2), (0, v3)]) (S2 := [(2, u11), (2, v0)]) (h2 := h10) (by decide +kernel) (by subst he; rfl) (by exact hg) ?_
        clear hg he
        obtain ⟨u12, hg, he, hx⟩ := bgd hx
        refine Ev.blk (is := [.iload_n 3, .iaload]) (pc2 := 168) (L2 := [(2, v0), (0, v1), (0, v2), (0, v3)]) (S2 := [(0, u12), (2, v0)]) (h2 := h10) (by decide +kernel) (by subst he; rfl) (by exact hg) ?_
        clear hg he
        obtain ⟨_, hg, -, hx⟩ := bgd hx
        obtain ⟨h14, hc, hx⟩ := bca hx
        refine Ev.call (args := [(2, v0), (0, u12)]) (S2 := []) (r1 := none) (h1 := h14) (i := .invokevirtual 220) (by decide +kernel) rfl rfl (Nat.le_of_ble_eq_true rfl) (Or.inr (Or.inl ⟨rfl, hg, by decide +kernel⟩)) (x_R_writes (by omega) hc) ?_
        refine Ev.blk (is := [.iinc 3 1]) (pc2 := 174) (L2 := [(2, v0), (0, v1), (0, v2), (0, w32 (v3 + 1))]) (S2 := []) (h2 := h14) (by decide +kernel) rfl trivial ?_
        refine Ev.jp (i := .goto (-53)) (len := 3) (pc2 := 121) (by decide +kernel) rfl ?_
        exact ih v0 v1 v2 (w32 (v3 + 1)) h14 _ hx
    · have hx := hb hc
      clear ha hb hc
      refine Ev.blk (is := [.iload_n 2, .iconst 4]) (pc2 := 179) (L2 := [(2, v0), (0, v1), (0, v2), (0, v3)]) (S2 := [(0, 4), (0, v2)]) (h2 := h) (by decide +kernel) rfl trivial ?_
      obtain ⟨ha, hb⟩ := bite hx
      clear hx
      refine Ev.br (i := .if_icmp .ne 9) (len := 3) (a := 182) (b := 188) (by decide +kernel) rfl Iff.rfl (fun hc => ?_) (fun hc => ?_)
      · have hx := ha hc
        clear ha hb hc
        refine Ev.blk (is := [.aload_n 0, .sipush 9]) (pc2 := 185) (L2 := [(2, v0), (0, v1), (0, v2), (0, v3)]) (S2 := [(0, 9), (2, v0)]) (h2 := h) (by decide +kernel) rfl trivial ?_
        obtain ⟨_, hg, -, hx⟩ := bgd hx
        obtain ⟨h16, hc, hx⟩ := bca hx
        refine Ev.call (args := [(2, v0), (0, 9)]) (S2 := []) (r1 := none) (h1 := h16) (i := .invokevirtual 218) (by decide +kernel) rfl rfl (Nat.le_of_ble_eq_true rfl) (Or.inr (Or.inl ⟨rfl, hg, by decide +kernel⟩)) (x_R_writesWord (by omega) hc) ?_
        refine Ev.blk (is := [.sipush 9, .iload_n 1, .imul, .istore_n 3]) (pc2 := 193) (L2 := [(2, v0), (0, v1), (0, v2), (0, w32 (9 * v1))]) (S2 := []) (h2 := h16) (by decide +kernel) rfl trivial ?_
        refine Ev.wk (L2 := [(2, v0), (0, v1), (9, 0), (0, w32 (9 * v1))]) (wkL_of ⟨Or.inl rfl, ⟨Or.inl rfl, ⟨Or.inr rfl, ⟨Or.inl rfl, trivial⟩⟩⟩⟩) ?_
        exact y_R_writesLine_193 hd FU v0 v1 (w32 (9 * v1)) h16 _ hx
      · have hx := hb hc
        clear ha hb hc
        refine Ev.blk (is := [.sipush 9, .iload_n 1, .imul, .istore_n 3]) (pc2 := 193) (L2 := [(2, v0), (0, v1), (0, v2), (0, w32 (9 * v1))]) (S2 := []) (h2 := h) (by decide +kernel) rfl trivial ?_
        refine Ev.wk (L2 := [(2, v0), (0, v1), (9, 0), (0, w32 (9 * v1))]) (wkL_of ⟨Or.inl rfl, ⟨Or.inl rfl, ⟨Or.inr rfl, ⟨Or.inl rfl, trivial⟩⟩⟩⟩) ?_
        exact y_R_writesLine_193 hd FU v0 v1 (w32 (9 * v1)) h _ hx
theorem y_R_writesLine_113 {sc : AS} {d : Nat} (hd : 2 ≤ d) : ∀ (v0 : Int) (v1 : Int) (v2 : Int) (s0 : Int) (s1 : Int) (h : AH) (r : AH), R_writesLine_113 v0 v1 v2 s0 s1 h = some r → Ev sc d 217 113 [(2, v0), (0, v1), (0, v2), (9, 0)] [(0, s0), (2, s1)] h none r := by
  intro v0 v1 v2 s0 s1 h r hx
  unfold R_writesLine_113 at hx
  obtain ⟨_, hg, -, hx⟩ := bgd hx
  obtain ⟨h2, hc, hx⟩ := bca hx
  refine Ev.call (args := [(2, s1), (0, s0)]) (S2 := []) (r1 := none) (h1 := h2) (i := .invokevirtual 218) (by decide +kernel) rfl rfl (Nat.le_of_ble_eq_true rfl) (Or.inr (Or.inl ⟨rfl, hg, by decide +kernel⟩)) (x_R_writesWord (by omega) hc) ?_
  refine Ev.blk (is := [.sipush 9, .iload_n 1, .imul, .istore_n 3]) (pc2 := 121) (L2 := [(2, v0), (0, v1), (0, v2), (0, w32 (9 * v1))]) (S2 := []) (h2 := h2) (by decide +kernel) rfl trivial ?_
  exact y_R_writesLine_121 hd FU v0 v1 v2 (w32 (9 * v1)) h2 _ hx
theorem y_R_writesLine_63 {sc : AS} {d : Nat} (hd : 2 ≤ d) : ∀ (v0 : Int) (v1 : Int) (v2 : Int) (h : AH) (r : AH), R_writesLine_63 v0 v1 v2 h = some r → Ev sc d 217 63 [(2, v0), (0, v1), (0, v2), (9, 0)] [] h none r := by
  intro v0 v1 v2 h r hx
  unfold R_writesLine_63 at hx
  refine Ev.blk (is := [.iload_n 2]) (pc2 := 64) (L2 := [(2, v0), (0, v1), (0, v2), (9, 0)]) (S2 := [(0, v2)]) (h2 := h) (by decide +kernel) rfl trivial ?_
  obtain ⟨u1, hc, hx⟩ := bca hx
  refine Ev.call (args := [(0, v2)]) (S2 := []) (r1 := (some (0, u1))) (h1 := h) (i := .invokestatic 180) (by decide +kernel) rfl rfl (Nat.le_of_ble_eq_true rfl) (Or.inl rfl) (x_R_hasPair (by omega) hc) ?_
  obtain ⟨ha, hb⟩ := bite hx
  clear hx
  refine Ev.br (i := .ifCond .eq 29) (len := 3) (a := 96) (b := 70) (by decide +kernel) rfl Iff.rfl (fun hc => ?_) (fun hc => ?_)
  · have hx := ha hc
    clear ha hb hc
    refine Ev.blk (is := [.iload_n 2]) (pc2 := 97) (L2 := [(2, v0), (0, v1), (0, v2), (9, 0)]) (S2 := [(0, v2)]) (h2 := h) (by decide +kernel) rfl trivial ?_
    obtain ⟨ha, hb⟩ := bite hx
    clear hx
    refine Ev.br (i := .ifCond .eq 19) (len := 3) (a := 116) (b := 100) (by decide +kernel) rfl Iff.rfl (fun hc => ?_) (fun hc => ?_)
    · have hx := ha hc
      clear ha hb hc
      refine Ev.blk (is := [.sipush 9, .iload_n 1, .imul, .istore_n 3]) (pc2 := 121) (L2 := [(2, v0), (0, v1), (0, v2), (0, w32 (9 * v1))]) (S2 := []) (h2 := h) (by decide +kernel) rfl trivial ?_
      exact y_R_writesLine_121 hd FU v0 v1 v2 (w32 (9 * v1)) h _ hx
    · have hx := hb hc
      clear ha hb hc
      refine Ev.blk (is := [.aload_n 0, .iload_n 2, .iconst 4]) (pc2 := 103) (L2 := [(2, v0), (0, v1), (0, v2), (9, 0)]) (S2 := [(0, 4), (0, v2), (2, v0)]) (h2 := h) (by decide +kernel) rfl trivial ?_
      obtain ⟨ha, hb⟩ := bite hx
      clear hx
      refine Ev.br (i := .if_icmp .ne 8) (len := 3) (a := 106) (b := 111) (by decide +kernel) rfl Iff.rfl (fun hc => ?_) (fun hc => ?_)
      · have hx := ha hc
        clear ha hb hc
        refine Ev.blk (is := [.sipush 8]) (pc2 := 108) (L2 := [(2, v0), (0, v1), (0, v2), (9, 0)]) (S2 := [(0, 8), (2, v0)]) (h2 := h) (by decide +kernel) rfl trivial ?_
        refine Ev.jp (i := .goto 5) (len := 3) (pc2 := 113) (by decide +kernel) rfl ?_
        exact y_R_writesLine_113 hd v0 v1 v2 8 v0 h _ hx
      · have hx := hb hc
        clear ha hb hc
        refine Ev.blk (is := [.sipush 6]) (pc2 := 113) (L2 := [(2, v0), (0, v1), (0, v2), (9, 0)]) (S2 := [(0, 6), (2, v0)]) (h2 := h) (by decide +kernel) rfl trivial ?_
        exact y_R_writesLine_113 hd v0 v1 v2 6 v0 h _ hx
  · have hx := hb hc
    clear ha hb hc
    refine Ev.blk (is := [.aload_n 0, .sipush 7]) (pc2 := 73) (L2 := [(2, v0), (0, v1), (0, v2), (9, 0)]) (S2 := [(0, 7), (2, v0)]) (h2 := h) (by decide +kernel) rfl trivial ?_
    obtain ⟨_, hg, -, hx⟩ := bgd hx
    obtain ⟨h3, hc, hx⟩ := bca hx
    refine Ev.call (args := [(2, v0), (0, 7)]) (S2 := []) (r1 := none) (h1 := h3) (i := .invokevirtual 218) (by decide +kernel) rfl rfl (Nat.le_of_ble_eq_true rfl) (Or.inr (Or.inl ⟨rfl, hg, by decide +kernel⟩)) (x_R_writesWord (by omega) hc) ?_
    obtain ⟨u4, hg, he, hx⟩ := bgd hx
    refine Ev.blk (is := [.aload_n 0, .aload_n 0, .getfield 9210]) (pc2 := 81) (L2 := [(2, v0), (0, v1), (0, v2), (9, 0)]) (S2 := [(2, u4), (2, v0)]) (h2 := h3) (by decide +kernel) (by subst he; rfl) (by exact hg) ?_
    clear hg he
    obtain ⟨u5, hg, he, hx⟩ := bgd hx
    refine Ev.blk (is := [.iload_n 1, .iaload]) (pc2 := 83) (L2 := [(2, v0), (0, v1), (0, v2), (9, 0)]) (S2 := [(0, u5), (2, v0)]) (h2 := h3) (by decide +kernel) (by subst he; rfl) (by exact hg) ?_
    clear hg he
    obtain ⟨_, hg, -, hx⟩ := bgd hx
    obtain ⟨h7, hc, hx⟩ := bca hx
    refine Ev.call (args := [(2, v0), (0, u5)]) (S2 := []) (r1 := none) (h1 := h7) (i := .invokevirtual 220) (by decide +kernel) rfl rfl (Nat.le_of_ble_eq_true rfl) (Or.inr (Or.inl ⟨rfl, hg, by decide +kernel⟩)) (x_R_writes (by omega) hc) ?_
    obtain ⟨u8, hg, he, hx⟩ := bgd hx
    refine Ev.blk (is := [.aload_n 0, .aload_n 0, .getfield 9211]) (pc2 := 91) (L2 := [(2, v0), (0, v1), (0, v2), (9, 0)]) (S2 := [(2, u8), (2, v0)]) (h2 := h7) (by decide +kernel) (by subst he; rfl) (by exact hg) ?_
    clear hg he
    obtain ⟨u9, hg, he, hx⟩ := bgd hx
    refine Ev.blk (is := [.iload_n 1, .iaload]) (pc2 := 93) (L2 := [(2, v0), (0, v1), (0, v2), (9, 0)]) (S2 := [(0, u9), (2, v0)]) (h2 := h7) (by decide +kernel) (by subst he; rfl) (by exact hg) ?_
    clear hg he
    obtain ⟨_, hg, -, hx⟩ := bgd hx
    obtain ⟨h11, hc, hx⟩ := bca hx
    refine Ev.call (args := [(2, v0), (0, u9)]) (S2 := []) (r1 := none) (h1 := h11) (i := .invokevirtual 220) (by decide +kernel) rfl rfl (Nat.le_of_ble_eq_true rfl) (Or.inr (Or.inl ⟨rfl, hg, by decide +kernel⟩)) (x_R_writes (by omega) hc) ?_
    refine Ev.blk (is := [.iload_n 2]) (pc2 := 97) (L2 := [(2, v0), (0, v1), (0, v2), (9, 0)]) (S2 := [(0, v2)]) (h2 := h11) (by decide +kernel) rfl trivial ?_
    obtain ⟨ha, hb⟩ := bite hx
    clear hx
    refine Ev.br (i := .ifCond .eq 19) (len := 3) (a := 116) (b := 100) (by decide +kernel) rfl Iff.rfl (fun hc => ?_) (fun hc => ?_)
    · have hx := ha hc
      clear ha hb hc
      refine Ev.blk (is := [.sipush 9, .iload_n 1, .imul, .istore_n 3]) (pc2 := 121) (L2 := [(2, v0), (0, v1), (0, v2), (0, w32 (9 * v1))]) (S2 := []) (h2 := h11) (by decide +kernel) rfl trivial ?_
      exact y_R_writesLine_121 hd FU v0 v1 v2 (w32 (9 * v1)) h11 _ hx
    · have hx := hb hc
      clear ha hb hc
      refine Ev.blk (is := [.aload_n 0, .iload_n 2, .iconst 4]) (pc2 := 103) (L2 := [(2, v0), (0, v1), (0, v2), (9, 0)]) (S2 := [(0, 4), (0, v2), (2, v0)]) (h2 := h11) (by decide +kernel) rfl trivial ?_
      obtain ⟨ha, hb⟩ := bite hx
      clear hx
      refine Ev.br (i := .if_icmp .ne 8) (len := 3) (a := 106) (b := 111) (by decide +kernel) rfl Iff.rfl (fun hc => ?_) (fun hc => ?_)
      · have hx := ha hc
        clear ha hb hc
        refine Ev.blk (is := [.sipush 8]) (pc2 := 108) (L2 := [(2, v0), (0, v1), (0, v2), (9, 0)]) (S2 := [(0, 8), (2, v0)]) (h2 := h11) (by decide +kernel) rfl trivial ?_
        refine Ev.jp (i := .goto 5) (len := 3) (pc2 := 113) (by decide +kernel) rfl ?_
        exact y_R_writesLine_113 hd v0 v1 v2 8 v0 h11 _ hx
      · have hx := hb hc
        clear ha hb hc
        refine Ev.blk (is := [.sipush 6]) (pc2 := 113) (L2 := [(2, v0), (0, v1), (0, v2), (9, 0)]) (S2 := [(0, 6), (2, v0)]) (h2 := h11) (by decide +kernel) rfl trivial ?_
        exact y_R_writesLine_113 hd v0 v1 v2 6 v0 h11 _ hx
theorem y_R_writesLine_60 {sc : AS} {d : Nat} (hd : 2 ≤ d) : ∀ (v0 : Int) (v1 : Int) (v2 : Int) (s0 : Int) (s1 : Int) (h : AH) (r : AH), R_writesLine_60 v0 v1 v2 s0 s1 h = some r → Ev sc d 217 60 [(2, v0), (0, v1), (0, v2), (9, 0)] [(0, s0), (2, s1)] h none r := by
  intro v0 v1 v2 s0 s1 h r hx
  unfold R_writesLine_60 at hx
  obtain ⟨_, hg, -, hx⟩ := bgd hx
  obtain ⟨h2, hc, hx⟩ := bca hx
  refine Ev.call (args := [(2, s1), (0, s0)]) (S2 := []) (r1 := none) (h1 := h2) (i := .invokevirtual 220) (by decide +kernel) rfl rfl (Nat.le_of_ble_eq_true rfl) (Or.inr (Or.inl ⟨rfl, hg, by decide +kernel⟩)) (x_R_writes (by omega) hc) ?_
  exact y_R_writesLine_63 hd v0 v1 v2 h2 _ hx
theorem x_R_writesLine {sc : AS} {d : Nat} (hd : 3 ≤ d) {v0 : Int} {v1 : Int} {h : AH} {r : AH} (hx : R_writesLine v0 v1 h = some r) : Runs sc d 217 [(2, v0), (0, v1)] h none r := by
  obtain ⟨d, rfl⟩ : ∃ e, d = e + 1 := ⟨d - 1, by omega⟩
  have hd : 2 ≤ d := by omega
  unfold R_writesLine at hx
  refine ⟨⟨aM_217, rfl, Nat.le_of_ble_eq_true rfl⟩, ?_⟩
  show Ev sc d 217 0 [(2, v0), (0, v1), (9, 0), (9, 0)] [] h none r
  obtain ⟨u1, hg, he, hx⟩ := bgd hx
  refine Ev.blk (is := [.aload_n 0, .getfield 9209]) (pc2 := 4) (L2 := [(2, v0), (0, v1), (9, 0), (9, 0)]) (S2 := [(2, u1)]) (h2 := h) (by decide +kernel) (by subst he; rfl) (by exact hg) ?_
  clear hg he
  obtain ⟨u2, hg, he, hx⟩ := bgd hx
  refine Ev.blk (is := [.iload_n 1, .iaload]) (pc2 := 6) (L2 := [(2, v0), (0, v1), (9, 0), (9, 0)]) (S2 := [(0, u2)]) (h2 := h) (by decide +kernel) (by subst he; rfl) (by exact hg) ?_
  clear hg he
  obtain ⟨h3, hg, he, hx⟩ := bgd hx
  refine Ev.blk (is := [.istore_n 2, .aload_n 0, .iconst 0, .putfield 9033]) (pc2 := 12) (L2 := [(2, v0), (0, v1), (0, u2), (9, 0)]) (S2 := []) (h2 := h3) (by decide +kernel) (by subst he; rfl) (by exact hg) ?_
  clear hg he
  refine Ev.blk (is := [.aload_n 0, .iload_n 2]) (pc2 := 14) (L2 := [(2, v0), (0, v1), (0, u2), (9, 0)]) (S2 := [(0, u2), (2, v0)]) (h2 := h3) (by decide +kernel) rfl trivial ?_
  obtain ⟨_, hg, -, hx⟩ := bgd hx
  obtain ⟨h5, hc, hx⟩ := bca hx
  refine Ev.call (args := [(2, v0), (0, u2)]) (S2 := []) (r1 := none) (h1 := h5) (i := .invokevirtual 218) (by decide +kernel) rfl rfl (Nat.le_of_ble_eq_true rfl) (Or.inr (Or.inl ⟨rfl, hg, by decide +kernel⟩)) (x_R_writesWord (by omega) hc) ?_
  obtain ⟨u6, hg, he, hx⟩ := bgd hx
  refine Ev.blk (is := [.aload_n 0, .aload_n 0, .getfield 9208]) (pc2 := 22) (L2 := [(2, v0), (0, v1), (0, u2), (9, 0)]) (S2 := [(2, u6), (2, v0)]) (h2 := h5) (by decide +kernel) (by subst he; rfl) (by exact hg) ?_
  clear hg he
  obtain ⟨u7, hg, he, hx⟩ := bgd hx
  refine Ev.blk (is := [.iload_n 1, .iaload]) (pc2 := 24) (L2 := [(2, v0), (0, v1), (0, u2), (9, 0)]) (S2 := [(0, u7), (2, v0)]) (h2 := h5) (by decide +kernel) (by subst he; rfl) (by exact hg) ?_
  clear hg he
  obtain ⟨_, hg, -, hx⟩ := bgd hx
  obtain ⟨h9, hc, hx⟩ := bca hx
  refine Ev.call (args := [(2, v0), (0, u7)]) (S2 := []) (r1 := none) (h1 := h9) (i := .invokevirtual 220) (by decide +kernel) rfl rfl (Nat.le_of_ble_eq_true rfl) (Or.inr (Or.inl ⟨rfl, hg, by decide +kernel⟩)) (x_R_writes (by omega) hc) ?_
  refine Ev.blk (is := [.iload_n 2, .iconst 1]) (pc2 := 29) (L2 := [(2, v0), (0, v1), (0, u2), (9, 0)]) (S2 := [(0, 1), (0, u2)]) (h2 := h9) (by decide +kernel) rfl trivial ?_
  obtain ⟨ha, hb⟩ := bite hx
  clear hx
  refine Ev.br (i := .if_icmp .ne 34) (len := 3) (a := 32) (b := 63) (by decide +kernel) rfl Iff.rfl (fun hc => ?_) (fun hc => ?_)
  · have hx := ha hc
    clear ha hb hc
    refine Ev.blk (is := [.aload_n 0, .iconst 5]) (pc2 := 34) (L2 := [(2, v0), (0, v1), (0, u2), (9, 0)]) (S2 := [(0, 5), (2, v0)]) (h2 := h9) (by decide +kernel) rfl trivial ?_
    obtain ⟨_, hg, -, hx⟩ := bgd hx
    obtain ⟨h11, hc, hx⟩ := bca hx
    refine Ev.call (args := [(2, v0), (0, 5)]) (S2 := []) (r1 := none) (h1 := h11) (i := .invokevirtual 218) (by decide +kernel) rfl rfl (Nat.le_of_ble_eq_true rfl) (Or.inr (Or.inl ⟨rfl, hg, by decide +kernel⟩)) (x_R_writesWord (by omega) hc) ?_
    obtain ⟨u12, hg, he, hx⟩ := bgd hx
    refine Ev.blk (is := [.aload_n 0, .aload_n 0, .getfield 9212]) (pc2 := 42) (L2 := [(2, v0), (0, v1), (0, u2), (9, 0)]) (S2 := [(2, u12), (2, v0)]) (h2 := h11) (by decide +kernel) (by subst he; rfl) (by exact hg) ?_
    clear hg he
    obtain ⟨u13, hg, he, hx⟩ := bgd hx
    refine Ev.blk (is := [.iload_n 1, .iaload]) (pc2 := 44) (L2 := [(2, v0), (0, v1), (0, u2), (9, 0)]) (S2 := [(0, u13), (2, v0)]) (h2 := h11) (by decide +kernel) (by subst he; rfl) (by exact hg) ?_
    clear hg he
    obtain ⟨ha, hb⟩ := bite hx
    clear hx
    refine Ev.br (i := .ifCond .ne 7) (len := 3) (a := 47) (b := 51) (by decide +kernel) rfl Iff.rfl (fun hc => ?_) (fun hc => ?_)
    · have hx := ha hc
      clear ha hb hc
      refine Ev.blk (is := [.iconst 2]) (pc2 := 48) (L2 := [(2, v0), (0, v1), (0, u2), (9, 0)]) (S2 := [(0, 2), (2, v0)]) (h2 := h11) (by decide +kernel) rfl trivial ?_
      refine Ev.jp (i := .goto 12) (len := 3) (pc2 := 60) (by decide +kernel) rfl ?_
      exact y_R_writesLine_60 hd v0 v1 u2 2 v0 h11 _ hx
    · have hx := hb hc
      clear ha hb hc
      obtain ⟨u14, hg, he, hx⟩ := bgd hx
      refine Ev.blk (is := [.aload_n 0, .getfield 9216]) (pc2 := 55) (L2 := [(2, v0), (0, v1), (0, u2), (9, 0)]) (S2 := [(2, u14), (2, v0)]) (h2 := h11) (by decide +kernel) (by subst he; rfl) (by exact hg) ?_
      clear hg he
      obtain ⟨u15, hg, he, hx⟩ := bgd hx
      refine Ev.blk (is := [.sipush 9, .iload_n 1, .imul, .iaload]) (pc2 := 60) (L2 := [(2, v0), (0, v1), (0, u2), (9, 0)]) (S2 := [(0, u15), (2, v0)]) (h2 := h11) (by decide +kernel) (by subst he; rfl) (by exact hg) ?_
      clear hg he
      exact y_R_writesLine_60 hd v0 v1 u2 u15 v0 h11 _ hx
  · have hx := hb hc
    clear ha hb hc
    exact y_R_writesLine_63 hd v0 v1 u2 h9 _ hx
theorem x_R_spell {sc : AS} {d : Nat} (hd : 4 ≤ d) {v0 : Int} {v1 : Int} {v2 : Int} {h : AH} {r : (Int × AH)} (hx : R_spell v0 v1 v2 h = some r) : Runs sc d 216 [(2, v0), (0, v1), (0, v2)] h (some (0, r.1)) r.2 := by
  obtain ⟨d, rfl⟩ : ∃ e, d = e + 1 := ⟨d - 1, by omega⟩
  have hd : 3 ≤ d := by omega
  unfold R_spell at hx
  refine ⟨⟨aM_216, rfl, Nat.le_of_ble_eq_true rfl⟩, ?_⟩
  show Ev sc d 216 0 [(2, v0), (0, v1), (0, v2)] [] h (some (0, r.1)) r.2
  refine Ev.blk (is := [.aload_n 0, .iload_n 1]) (pc2 := 2) (L2 := [(2, v0), (0, v1), (0, v2)]) (S2 := [(0, v1), (2, v0)]) (h2 := h) (by decide +kernel) rfl trivial ?_
  obtain ⟨_, hg, -, hx⟩ := bgd hx
  obtain ⟨u1, hc, hx⟩ := bca hx
  refine Ev.call (args := [(2, v0), (0, v1)]) (S2 := []) (r1 := (some (0, u1))) (h1 := h) (i := .invokevirtual 198) (by decide +kernel) rfl rfl (Nat.le_of_ble_eq_true rfl) (Or.inr (Or.inl ⟨rfl, hg, by decide +kernel⟩)) (x_R_isLine (by omega) hc) ?_
  obtain ⟨ha, hb⟩ := bite hx
  clear hx
  refine Ev.br (i := .ifCond .eq 8) (len := 3) (a := 13) (b := 8) (by decide +kernel) rfl Iff.rfl (fun hc => ?_) (fun hc => ?_)
  · have hx := ha hc
    clear ha hb hc
    refine Ev.blk (is := [.iconst (-1)]) (pc2 := 14) (L2 := [(2, v0), (0, v1), (0, v2)]) (S2 := [(0, (-1))]) (h2 := h) (by decide +kernel) rfl trivial ?_
    cases hx
    exact Ev.ret (i := .ireturn) (len := 1) (by decide +kernel) rfl (finOf (t := some .int) rfl (trivial))
  · have hx := hb hc
    clear ha hb hc
    refine Ev.blk (is := [.iload_n 2, .iconst (-1)]) (pc2 := 10) (L2 := [(2, v0), (0, v1), (0, v2)]) (S2 := [(0, (-1)), (0, v2)]) (h2 := h) (by decide +kernel) rfl trivial ?_
    obtain ⟨ha, hb⟩ := bite hx
    clear hx
    refine Ev.br (i := .if_icmp .ge 5) (len := 3) (a := 13) (b := 15) (by decide +kernel) rfl Iff.rfl (fun hc => ?_) (fun hc => ?_)
    · have hx := ha hc
      clear ha hb hc
      refine Ev.blk (is := [.iconst (-1)]) (pc2 := 14) (L2 := [(2, v0), (0, v1), (0, v2)]) (S2 := [(0, (-1))]) (h2 := h) (by decide +kernel) rfl trivial ?_
      cases hx
      exact Ev.ret (i := .ireturn) (len := 1) (by decide +kernel) rfl (finOf (t := some .int) rfl (trivial))
    · have hx := hb hc
      clear ha hb hc
      refine Ev.blk (is := [.aload_n 0, .iload_n 1]) (pc2 := 17) (L2 := [(2, v0), (0, v1), (0, v2)]) (S2 := [(0, v1), (2, v0)]) (h2 := h) (by decide +kernel) rfl trivial ?_
      obtain ⟨_, hg, -, hx⟩ := bgd hx
      obtain ⟨h3, hc, hx⟩ := bca hx
      refine Ev.call (args := [(2, v0), (0, v1)]) (S2 := []) (r1 := none) (h1 := h3) (i := .invokevirtual 217) (by decide +kernel) rfl rfl (Nat.le_of_ble_eq_true rfl) (Or.inr (Or.inl ⟨rfl, hg, by decide +kernel⟩)) (x_R_writesLine (by omega) hc) ?_
      refine Ev.blk (is := [.iload_n 2, .iconst (-1)]) (pc2 := 22) (L2 := [(2, v0), (0, v1), (0, v2)]) (S2 := [(0, (-1)), (0, v2)]) (h2 := h3) (by decide +kernel) rfl trivial ?_
      obtain ⟨ha, hb⟩ := bite hx
      clear hx
      refine Ev.br (i := .if_icmp .ne 10) (len := 3) (a := 25) (b := 32) (by decide +kernel) rfl Iff.rfl (fun hc => ?_) (fun hc => ?_)
      · have hx := ha hc
        clear ha hb hc
        obtain ⟨u4, hg, he, hx⟩ := bgd hx
        refine Ev.blk (is := [.aload_n 0, .getfield 9033]) (pc2 := 29) (L2 := [(2, v0), (0, v1), (0, v2)]) (S2 := [(0, u4)]) (h2 := h3) (by decide +kernel) (by subst he; rfl) (by exact hg) ?_
        clear hg he
        refine Ev.jp (i := .goto 21) (len := 3) (pc2 := 50) (by decide +kernel) rfl ?_
        cases hx
        exact Ev.ret (i := .ireturn) (len := 1) (by decide +kernel) rfl (finOf (t := some .int) rfl (trivial))
      · have hx := hb hc
        clear ha hb hc
        obtain ⟨u5, hg, he, hx⟩ := bgd hx
        refine Ev.blk (is := [.iload_n 2, .aload_n 0, .getfield 9033]) (pc2 := 37) (L2 := [(2, v0), (0, v1), (0, v2)]) (S2 := [(0, u5), (0, v2)]) (h2 := h3) (by decide +kernel) (by subst he; rfl) (by exact hg) ?_
        clear hg he
        obtain ⟨ha, hb⟩ := bite hx
        clear hx
        refine Ev.br (i := .if_icmp .ge 12) (len := 3) (a := 40) (b := 49) (by decide +kernel) rfl Iff.rfl (fun hc => ?_) (fun hc => ?_)
        · have hx := ha hc
          clear ha hb hc
          obtain ⟨u6, hg, he, hx⟩ := bgd hx
          refine Ev.blk (is := [.aload_n 0, .getfield 9232]) (pc2 := 44) (L2 := [(2, v0), (0, v1), (0, v2)]) (S2 := [(2, u6)]) (h2 := h3) (by decide +kernel) (by subst he; rfl) (by exact hg) ?_
          clear hg he
          obtain ⟨u7, hg, he, hx⟩ := bgd hx
          refine Ev.blk (is := [.iload_n 2, .iaload]) (pc2 := 46) (L2 := [(2, v0), (0, v1), (0, v2)]) (S2 := [(0, u7)]) (h2 := h3) (by decide +kernel) (by subst he; rfl) (by exact hg) ?_
          clear hg he
          refine Ev.jp (i := .goto 4) (len := 3) (pc2 := 50) (by decide +kernel) rfl ?_
          cases hx
          exact Ev.ret (i := .ireturn) (len := 1) (by decide +kernel) rfl (finOf (t := some .int) rfl (trivial))
        · have hx := hb hc
          clear ha hb hc
          refine Ev.blk (is := [.iconst (-1)]) (pc2 := 50) (L2 := [(2, v0), (0, v1), (0, v2)]) (S2 := [(0, (-1))]) (h2 := h3) (by decide +kernel) rfl trivial ?_
          cases hx
          exact Ev.ret (i := .ireturn) (len := 1) (by decide +kernel) rfl (finOf (t := some .int) rfl (trivial))
theorem y_R_set_100 {sc : AS} {d : Nat} (hd : 2 ≤ d) : ∀ (v0 : Int) (v1 : Int) (v2 : Int) (v3 : Int) (s0 : Int) (h : AH) (r : (Int × AH)), R_set_100 v0 v1 v2 v3 s0 h = some r → Ev sc d 221 100 [(2, v0), (0, v1), (0, v2), (0, v3), (9, 0)] [(0, s0)] h (some (0, r.1)) r.2 := by
  intro v0 v1 v2 v3 s0 h r hx
  unfold R_set_100 at hx
  refine Ev.blk (is := [.istore 4, .iload_n 2]) (pc2 := 103) (L2 := [(2, v0), (0, v1), (0, v2), (0, v3), (0, s0)]) (S2 := [(0, v2)]) (h2 := h) (by decide +kernel) rfl trivial ?_
  obtain ⟨ha, hb⟩ := bite hx
  clear hx
  refine Ev.br (i := .ifCond .ne 13) (len := 3) (a := 106) (b := 116) (by decide +kernel) rfl Iff.rfl (fun hc => ?_) (fun hc => ?_)
  · have hx := ha hc
    clear ha hb hc
    obtain ⟨u1, hg, he, hx⟩ := bgd hx
    refine Ev.blk (is := [.aload_n 0, .getfield 9208]) (pc2 := 110) (L2 := [(2, v0), (0, v1), (0, v2), (0, v3), (0, s0)]) (S2 := [(2, u1)]) (h2 := h) (by decide +kernel) (by subst he; rfl) (by exact hg) ?_
    clear hg he
    obtain ⟨h2, hg, he, hx⟩ := bgd hx
    refine Ev.blk (is := [.iload_n 1, .iload_n 3, .iastore]) (pc2 := 113) (L2 := [(2, v0), (0, v1), (0, v2), (0, v3), (0, s0)]) (S2 := []) (h2 := h2) (by decide +kernel) (by subst he; rfl) (by exact hg) ?_
    clear hg he
    refine Ev.jp (i := .goto 25) (len := 3) (pc2 := 138) (by decide +kernel) rfl ?_
    refine Ev.blk (is := [.iload 4]) (pc2 := 140) (L2 := [(2, v0), (0, v1), (0, v2), (0, v3), (0, s0)]) (S2 := [(0, s0)]) (h2 := h2) (by decide +kernel) rfl trivial ?_
    cases hx
    exact Ev.ret (i := .ireturn) (len := 1) (by decide +kernel) rfl (finOf (t := some .int) rfl (trivial))
  · have hx := hb hc
    clear ha hb hc
    refine Ev.blk (is := [.iload_n 2, .iconst 1]) (pc2 := 118) (L2 := [(2, v0), (0, v1), (0, v2), (0, v3), (0, s0)]) (S2 := [(0, 1), (0, v2)]) (h2 := h) (by decide +kernel) rfl trivial ?_
    obtain ⟨ha, hb⟩ := bite hx
    clear hx
    refine Ev.br (i := .if_icmp .ne 13) (len := 3) (a := 121) (b := 131) (by decide +kernel) rfl Iff.rfl (fun hc => ?_) (fun hc => ?_)
    · have hx := ha hc
      clear ha hb hc
      obtain ⟨u3, hg, he, hx⟩ := bgd hx
      refine Ev.blk (is := [.aload_n 0, .getfield 9210]) (pc2 := 125) (L2 := [(2, v0), (0, v1), (0, v2), (0, v3), (0, s0)]) (S2 := [(2, u3)]) (h2 := h) (by decide +kernel) (by subst he; rfl) (by exact hg) ?_
      clear hg he
      obtain ⟨h4, hg, he, hx⟩ := bgd hx
      refine Ev.blk (is := [.iload_n 1, .iload_n 3, .iastore]) (pc2 := 128) (L2 := [(2, v0), (0, v1), (0, v2), (0, v3), (0, s0)]) (S2 := []) (h2 := h4) (by decide +kernel) (by subst he; rfl) (by exact hg) ?_
      clear hg he
      refine Ev.jp (i := .goto 10) (len := 3) (pc2 := 138) (by decide +kernel) rfl ?_
      refine Ev.blk (is := [.iload 4]) (pc2 := 140) (L2 := [(2, v0), (0, v1), (0, v2), (0, v3), (0, s0)]) (S2 := [(0, s0)]) (h2 := h4) (by decide +kernel) rfl trivial ?_
      cases hx
      exact Ev.ret (i := .ireturn) (len := 1) (by decide +kernel) rfl (finOf (t := some .int) rfl (trivial))
    · have hx := hb hc
      clear ha hb hc
      obtain ⟨u5, hg, he, hx⟩ := bgd hx
      refine Ev.blk (is := [.aload_n 0, .getfield 9211]) (pc2 := 135) (L2 := [(2, v0), (0, v1), (0, v2), (0, v3), (0, s0)]) (S2 := [(2, u5)]) (h2 := h) (by decide +kernel) (by subst he; rfl) (by exact hg) ?_
      clear hg he
      obtain ⟨h6, hg, he, hx⟩ := bgd hx
      refine Ev.blk (is := [.iload_n 1, .iload_n 3, .iastore]) (pc2 := 138) (L2 := [(2, v0), (0, v1), (0, v2), (0, v3), (0, s0)]) (S2 := []) (h2 := h6) (by decide +kernel) (by subst he; rfl) (by exact hg) ?_
      clear hg he
      refine Ev.blk (is := [.iload 4]) (pc2 := 140) (L2 := [(2, v0), (0, v1), (0, v2), (0, v3), (0, s0)]) (S2 := [(0, s0)]) (h2 := h6) (by decide +kernel) rfl trivial ?_
      cases hx
      exact Ev.ret (i := .ireturn) (len := 1) (by decide +kernel) rfl (finOf (t := some .int) rfl (trivial))
theorem y_R_set_67 {sc : AS} {d : Nat} (hd : 2 ≤ d) : ∀ (v0 : Int) (v1 : Int) (v2 : Int) (v3 : Int) (h : AH) (r : (Int × AH)), R_set_67 v0 v1 v2 v3 h = some r → Ev sc d 221 67 [(2, v0), (0, v1), (0, v2), (0, v3), (9, 0)] [] h (some (0, r.1)) r.2 := by
  intro v0 v1 v2 v3 h r hx
  unfold R_set_67 at hx
  refine Ev.blk (is := [.iload_n 2]) (pc2 := 68) (L2 := [(2, v0), (0, v1), (0, v2), (0, v3), (9, 0)]) (S2 := [(0, v2)]) (h2 := h) (by decide +kernel) rfl trivial ?_
  obtain ⟨ha, hb⟩ := bite hx
  clear hx
  refine Ev.br (i := .ifCond .ne 12) (len := 3) (a := 71) (b := 80) (by decide +kernel) rfl Iff.rfl (fun hc => ?_) (fun hc => ?_)
  · have hx := ha hc
    clear ha hb hc
    obtain ⟨u1, hg, he, hx⟩ := bgd hx
    refine Ev.blk (is := [.aload_n 0, .getfield 9208]) (pc2 := 75) (L2 := [(2, v0), (0, v1), (0, v2), (0, v3), (9, 0)]) (S2 := [(2, u1)]) (h2 := h) (by decide +kernel) (by subst he; rfl) (by exact hg) ?_
    clear hg he
    obtain ⟨u2, hg, he, hx⟩ := bgd hx
    refine Ev.blk (is := [.iload_n 1, .iaload]) (pc2 := 77) (L2 := [(2, v0), (0, v1), (0, v2), (0, v3), (9, 0)]) (S2 := [(0, u2)]) (h2 := h) (by decide +kernel) (by subst he; rfl) (by exact hg) ?_
    clear hg he
    refine Ev.jp (i := .goto 23) (len := 3) (pc2 := 100) (by decide +kernel) rfl ?_
    exact y_R_set_100 hd v0 v1 v2 v3 u2 h _ hx
  · have hx := hb hc
    clear ha hb hc
    refine Ev.blk (is := [.iload_n 2, .iconst 1]) (pc2 := 82) (L2 := [(2, v0), (0, v1), (0, v2), (0, v3), (9, 0)]) (S2 := [(0, 1), (0, v2)]) (h2 := h) (by decide +kernel) rfl trivial ?_
    obtain ⟨ha, hb⟩ := bite hx
    clear hx
    refine Ev.br (i := .if_icmp .ne 12) (len := 3) (a := 85) (b := 94) (by decide +kernel) rfl Iff.rfl (fun hc => ?_) (fun hc => ?_)
    · have hx := ha hc
      clear ha hb hc
      obtain ⟨u3, hg, he, hx⟩ := bgd hx
      refine Ev.blk (is := [.aload_n 0, .getfield 9210]) (pc2 := 89) (L2 := [(2, v0), (0, v1), (0, v2), (0, v3), (9, 0)]) (S2 := [(2, u3)]) (h2 := h) (by decide +kernel) (by subst he; rfl) (by exact hg) ?_
      clear hg he
      obtain ⟨u4, hg, he, hx⟩ := bgd hx
      refine Ev.blk (is := [.iload_n 1, .iaload]) (pc2 := 91) (L2 := [(2, v0), (0, v1), (0, v2), (0, v3), (9, 0)]) (S2 := [(0, u4)]) (h2 := h) (by decide +kernel) (by subst he; rfl) (by exact hg) ?_
      clear hg he
      refine Ev.jp (i := .goto 9) (len := 3) (pc2 := 100) (by decide +kernel) rfl ?_
      exact y_R_set_100 hd v0 v1 v2 v3 u4 h _ hx
    · have hx := hb hc
      clear ha hb hc
      obtain ⟨u5, hg, he, hx⟩ := bgd hx
      refine Ev.blk (is := [.aload_n 0, .getfield 9211]) (pc2 := 98) (L2 := [(2, v0), (0, v1), (0, v2), (0, v3), (9, 0)]) (S2 := [(2, u5)]) (h2 := h) (by decide +kernel) (by subst he; rfl) (by exact hg) ?_
      clear hg he
      obtain ⟨u6, hg, he, hx⟩ := bgd hx
      refine Ev.blk (is := [.iload_n 1, .iaload]) (pc2 := 100) (L2 := [(2, v0), (0, v1), (0, v2), (0, v3), (9, 0)]) (S2 := [(0, u6)]) (h2 := h) (by decide +kernel) (by subst he; rfl) (by exact hg) ?_
      clear hg he
      exact y_R_set_100 hd v0 v1 v2 v3 u6 h _ hx
theorem y_R_set_38 {sc : AS} {d : Nat} (hd : 2 ≤ d) : ∀ (v0 : Int) (v1 : Int) (v2 : Int) (v3 : Int) (h : AH) (r : (Int × AH)), R_set_38 v0 v1 v2 v3 h = some r → Ev sc d 221 38 [(2, v0), (0, v1), (0, v2), (0, v3), (9, 0)] [] h (some (0, r.1)) r.2 := by
  intro v0 v1 v2 v3 h r hx
  unfold R_set_38 at hx
  refine Ev.blk (is := [.iload_n 2]) (pc2 := 39) (L2 := [(2, v0), (0, v1), (0, v2), (0, v3), (9, 0)]) (S2 := [(0, v2)]) (h2 := h) (by decide +kernel) rfl trivial ?_
  obtain ⟨ha, hb⟩ := bite hx
  clear hx
  refine Ev.br (i := .ifCond .ne 14) (len := 3) (a := 42) (b := 53) (by decide +kernel) rfl Iff.rfl (fun hc => ?_) (fun hc => ?_)
  · have hx := ha hc
    clear ha hb hc
    refine Ev.blk (is := [.iload_n 3, .i2l]) (pc2 := 44) (L2 := [(2, v0), (0, v1), (0, v2), (0, v3), (9, 0)]) (S2 := [(1, v3)]) (h2 := h) (by decide +kernel) rfl trivial ?_
    obtain ⟨u1, hc, hx⟩ := bca hx
    refine Ev.call (args := [(1, v3)]) (S2 := []) (r1 := (some (0, u1))) (h1 := h) (i := .invokestatic 163) (by decide +kernel) rfl rfl (Nat.le_of_ble_eq_true rfl) (Or.inl rfl) (x_R_isNumber (by omega) hc) ?_
    obtain ⟨ha, hb⟩ := bite hx
    clear hx
    refine Ev.br (i := .ifCond .ne 20) (len := 3) (a := 50) (b := 67) (by decide +kernel) rfl Iff.rfl (fun hc => ?_) (fun hc => ?_)
    · have hx := ha hc
      clear ha hb hc
      refine Ev.jp (i := .goto 15) (len := 3) (pc2 := 65) (by decide +kernel) rfl ?_
      refine Ev.blk (is := [.iconst (-1)]) (pc2 := 66) (L2 := [(2, v0), (0, v1), (0, v2), (0, v3), (9, 0)]) (S2 := [(0, (-1))]) (h2 := h) (by decide +kernel) rfl trivial ?_
      cases hx
      exact Ev.ret (i := .ireturn) (len := 1) (by decide +kernel) rfl (finOf (t := some .int) rfl (trivial))
    · have hx := hb hc
      clear ha hb hc
      exact y_R_set_67 hd v0 v1 v2 v3 h _ hx
  · have hx := hb hc
    clear ha hb hc
    refine Ev.blk (is := [.iload_n 3, .i2l, .lconst 1, .jsr_w 99]) (pc2 := 59) (L2 := [(2, v0), (0, v1), (0, v2), (0, v3), (9, 0)]) (S2 := [(1, 99), (1, 1), (1, v3)]) (h2 := h) (by decide +kernel) rfl trivial ?_
    obtain ⟨u2, hc, hx⟩ := bca hx
    refine Ev.call (args := [(1, v3), (1, 1), (1, 99)]) (S2 := []) (r1 := (some (0, u2))) (h1 := h) (i := .invokestatic 162) (by decide +kernel) rfl rfl (Nat.le_of_ble_eq_true rfl) (Or.inl rfl) (x_R_in (by omega) hc) ?_
    obtain ⟨ha, hb⟩ := bite hx
    clear hx
    refine Ev.br (i := .ifCond .ne 5) (len := 3) (a := 65) (b := 67) (by decide +kernel) rfl Iff.rfl (fun hc => ?_) (fun hc => ?_)
    · have hx := ha hc
      clear ha hb hc
      refine Ev.blk (is := [.iconst (-1)]) (pc2 := 66) (L2 := [(2, v0), (0, v1), (0, v2), (0, v3), (9, 0)]) (S2 := [(0, (-1))]) (h2 := h) (by decide +kernel) rfl trivial ?_
      cases hx
      exact Ev.ret (i := .ireturn) (len := 1) (by decide +kernel) rfl (finOf (t := some .int) rfl (trivial))
    · have hx := hb hc
      clear ha hb hc
      exact y_R_set_67 hd v0 v1 v2 v3 h _ hx
theorem x_R_set {sc : AS} {d : Nat} (hd : 3 ≤ d) {v0 : Int} {v1 : Int} {v2 : Int} {v3 : Int} {h : AH} {r : (Int × AH)} (hx : R_set v0 v1 v2 v3 h = some r) : Runs sc d 221 [(2, v0), (0, v1), (0, v2), (0, v3)] h (some (0, r.1)) r.2 := by
  obtain ⟨d, rfl⟩ : ∃ e, d = e + 1 := ⟨d - 1, by omega⟩
  have hd : 2 ≤ d := by omega
  unfold R_set at hx
  refine ⟨⟨aM_221, rfl, Nat.le_of_ble_eq_true rfl⟩, ?_⟩
  show Ev sc d 221 0 [(2, v0), (0, v1), (0, v2), (0, v3), (9, 0)] [] h (some (0, r.1)) r.2
  refine Ev.blk (is := [.aload_n 0, .iload_n 1]) (pc2 := 2) (L2 := [(2, v0), (0, v1), (0, v2), (0, v3), (9, 0)]) (S2 := [(0, v1), (2, v0)]) (h2 := h) (by decide +kernel) rfl trivial ?_
  obtain ⟨_, hg, -, hx⟩ := bgd hx
  obtain ⟨u1, hc, hx⟩ := bca hx
  refine Ev.call (args := [(2, v0), (0, v1)]) (S2 := []) (r1 := (some (0, u1))) (h1 := h) (i := .invokevirtual 198) (by decide +kernel) rfl rfl (Nat.le_of_ble_eq_true rfl) (Or.inr (Or.inl ⟨rfl, hg, by decide +kernel⟩)) (x_R_isLine (by omega) hc) ?_
  obtain ⟨ha, hb⟩ := bite hx
  clear hx
  refine Ev.br (i := .ifCond .eq 31) (len := 3) (a := 36) (b := 8) (by decide +kernel) rfl Iff.rfl (fun hc => ?_) (fun hc => ?_)
  · have hx := ha hc
    clear ha hb hc
    refine Ev.blk (is := [.iconst (-1)]) (pc2 := 37) (L2 := [(2, v0), (0, v1), (0, v2), (0, v3), (9, 0)]) (S2 := [(0, (-1))]) (h2 := h) (by decide +kernel) rfl trivial ?_
    cases hx
    exact Ev.ret (i := .ireturn) (len := 1) (by decide +kernel) rfl (finOf (t := some .int) rfl (trivial))
  · have hx := hb hc
    clear ha hb hc
    refine Ev.blk (is := [.iload_n 2, .i2l, .lconst 0, .jsr_w 2]) (pc2 := 14) (L2 := [(2, v0), (0, v1), (0, v2), (0, v3), (9, 0)]) (S2 := [(1, 2), (1, 0), (1, v2)]) (h2 := h) (by decide +kernel) rfl trivial ?_
    obtain ⟨u2, hc, hx⟩ := bca hx
    refine Ev.call (args := [(1, v2), (1, 0), (1, 2)]) (S2 := []) (r1 := (some (0, u2))) (h1 := h) (i := .invokestatic 162) (by decide +kernel) rfl rfl (Nat.le_of_ble_eq_true rfl) (Or.inl rfl) (x_R_in (by omega) hc) ?_
    obtain ⟨ha, hb⟩ := bite hx
    clear hx
    refine Ev.br (i := .ifCond .eq 19) (len := 3) (a := 36) (b := 20) (by decide +kernel) rfl Iff.rfl (fun hc => ?_) (fun hc => ?_)
    · have hx := ha hc
      clear ha hb hc
      refine Ev.blk (is := [.iconst (-1)]) (pc2 := 37) (L2 := [(2, v0), (0, v1), (0, v2), (0, v3), (9, 0)]) (S2 := [(0, (-1))]) (h2 := h) (by decide +kernel) rfl trivial ?_
      cases hx
      exact Ev.ret (i := .ireturn) (len := 1) (by decide +kernel) rfl (finOf (t := some .int) rfl (trivial))
    · have hx := hb hc
      clear ha hb hc
      refine Ev.blk (is := [.iload_n 2]) (pc2 := 21) (L2 := [(2, v0), (0, v1), (0, v2), (0, v3), (9, 0)]) (S2 := [(0, v2)]) (h2 := h) (by decide +kernel) rfl trivial ?_
      obtain ⟨ha, hb⟩ := bite hx
      clear hx
      refine Ev.br (i := .ifCond .le 17) (len := 3) (a := 24) (b := 38) (by decide +kernel) rfl Iff.rfl (fun hc => ?_) (fun hc => ?_)
      · have hx := ha hc
        clear ha hb hc
        obtain ⟨u3, hg, he, hx⟩ := bgd hx
        refine Ev.blk (is := [.aload_n 0, .getfield 9209]) (pc2 := 28) (L2 := [(2, v0), (0, v1), (0, v2), (0, v3), (9, 0)]) (S2 := [(2, u3)]) (h2 := h) (by decide +kernel) (by subst he; rfl) (by exact hg) ?_
        clear hg he
        obtain ⟨u4, hg, he, hx⟩ := bgd hx
        refine Ev.blk (is := [.iload_n 1, .iaload]) (pc2 := 30) (L2 := [(2, v0), (0, v1), (0, v2), (0, v3), (9, 0)]) (S2 := [(0, u4)]) (h2 := h) (by decide +kernel) (by subst he; rfl) (by exact hg) ?_
        clear hg he
        obtain ⟨u5, hc, hx⟩ := bca hx
        refine Ev.call (args := [(0, u4)]) (S2 := []) (r1 := (some (0, u5))) (h1 := h) (i := .invokestatic 180) (by decide +kernel) rfl rfl (Nat.le_of_ble_eq_true rfl) (Or.inl rfl) (x_R_hasPair (by omega) hc) ?_
        obtain ⟨ha, hb⟩ := bite hx
        clear hx
        refine Ev.br (i := .ifCond .ne 5) (len := 3) (a := 36) (b := 38) (by decide +kernel) rfl Iff.rfl (fun hc => ?_) (fun hc => ?_)
        · have hx := ha hc
          clear ha hb hc
          refine Ev.blk (is := [.iconst (-1)]) (pc2 := 37) (L2 := [(2, v0), (0, v1), (0, v2), (0, v3), (9, 0)]) (S2 := [(0, (-1))]) (h2 := h) (by decide +kernel) rfl trivial ?_
          cases hx
          exact Ev.ret (i := .ireturn) (len := 1) (by decide +kernel) rfl (finOf (t := some .int) rfl (trivial))
        · have hx := hb hc
          clear ha hb hc
          exact y_R_set_38 hd v0 v1 v2 v3 h _ hx
      · have hx := hb hc
        clear ha hb hc
        exact y_R_set_38 hd v0 v1 v2 v3 h _ hx
