/-! the methods run as their shallow functions say -/
theorem y_R_laysRows_118 {sc : AS} {d : Nat} (hd : 4 ≤ d) : ∀ (fu : Nat) (v0 : Int) (v1 : Int) (v4 : Int) (h : AH) (r : AH), R_laysRows_118 fu v0 v1 v4 h = some r → Ev sc d 187 118 [(2, v0), (0, v1), (9, 0), (9, 0), (0, v4)] [] h none r := by
  intro fu
  induction fu with
  | zero => intro v0 v1 v4 h r hx; unfold R_laysRows_118 at hx; cases hx
  | succ fu ih =>
    intro v0 v1 v4 h r hx
    unfold R_laysRows_118 at hx
    refine Ev.blk (is := [.iload 4]) (pc2 := 120) (L2 := [(2, v0), (0, v1), (9, 0), (9, 0), (0, v4)]) (S2 := [(0, v4)]) (h2 := h) (by decide +kernel) rfl trivial ?_
    obtain ⟨ha, hb⟩ := bite hx
    clear hx
    refine Ev.br (i := .ifCond .lt 26) (len := 3) (a := 146) (b := 123) (by decide +kernel) rfl Iff.rfl (fun hc => ?_) (fun hc => ?_)
    · have hx := ha hc
      clear ha hb hc
      refine Ev.jp (i := .goto 14) (len := 3) (pc2 := 160) (by decide +kernel) rfl ?_
      cases hx
      exact Ev.ret (i := .return_) (len := 1) (by decide +kernel) rfl (finOf (t := none) rfl (trivial))
    · have hx := hb hc
      clear ha hb hc
      refine Ev.blk (is := [.aload_n 0, .iload_n 1]) (pc2 := 125) (L2 := [(2, v0), (0, v1), (9, 0), (9, 0), (0, v4)]) (S2 := [(0, v1), (2, v0)]) (h2 := h) (by decide +kernel) rfl trivial ?_
      obtain ⟨_, hg, -, hx⟩ := bgd hx
      obtain ⟨u1, hc, hx⟩ := bca hx
      refine Ev.call (args := [(2, v0), (0, v1)]) (S2 := []) (r1 := (some (0, u1))) (h1 := h) (i := .invokevirtual 174) (by decide +kernel) rfl rfl (Nat.le_of_ble_eq_true rfl) (Or.inr (Or.inl ⟨rfl, hg, by decide +kernel⟩)) (x_R_isEnough (by omega) hc) ?_
      obtain ⟨ha, hb⟩ := bite hx
      clear hx
      refine Ev.br (i := .ifCond .ne 18) (len := 3) (a := 131) (b := 146) (by decide +kernel) rfl Iff.rfl (fun hc => ?_) (fun hc => ?_)
      · have hx := ha hc
        clear ha hb hc
        refine Ev.blk (is := [.aload_n 0, .iload_n 1, .iconst 0, .iload 4, .iconst 2]) (pc2 := 137) (L2 := [(2, v0), (0, v1), (9, 0), (9, 0), (0, v4)]) (S2 := [(0, 2), (0, v4), (0, 0), (0, v1), (2, v0)]) (h2 := h) (by decide +kernel) rfl trivial ?_
        obtain ⟨_, hg, -, hx⟩ := bgd hx
        obtain ⟨h3, hc, hx⟩ := bca hx
        refine Ev.call (args := [(2, v0), (0, v1), (0, 0), (0, v4), (0, 2)]) (S2 := []) (r1 := none) (h1 := h3) (i := .invokevirtual 189) (by decide +kernel) rfl rfl (Nat.le_of_ble_eq_true rfl) (Or.inr (Or.inl ⟨rfl, hg, by decide +kernel⟩)) (x_R_rowsOf (by omega) hc) ?_
        refine Ev.blk (is := [.iinc 4 (-1)]) (pc2 := 143) (L2 := [(2, v0), (0, v1), (9, 0), (9, 0), (0, w32 (v4 + (-1)))]) (S2 := []) (h2 := h3) (by decide +kernel) rfl trivial ?_
        refine Ev.jp (i := .goto (-25)) (len := 3) (pc2 := 118) (by decide +kernel) rfl ?_
        exact ih v0 v1 (w32 (v4 + (-1))) h3 _ hx
      · have hx := hb hc
        clear ha hb hc
        refine Ev.jp (i := .goto 14) (len := 3) (pc2 := 160) (by decide +kernel) rfl ?_
        cases hx
        exact Ev.ret (i := .return_) (len := 1) (by decide +kernel) rfl (finOf (t := none) rfl (trivial))
theorem y_R_laysRows_82 {sc : AS} {d : Nat} (hd : 4 ≤ d) {k61 : Int → Int → Int → Int → AH → Option AH} (hk61 : ∀ (v0 : Int) (v1 : Int) (v2 : Int) (v4 : Int) (h : AH) (r : AH), k61 v0 v1 v2 v4 h = some r → Ev sc d 187 61 [(2, v0), (0, v1), (0, v2), (9, 0), (0, v4)] [] h none r) : ∀ (v0 : Int) (v1 : Int) (v2 : Int) (v4 : Int) (s0 : Int) (s1 : Int) (s2 : Int) (h : AH) (r : AH), R_laysRows_82 k61 v0 v1 v2 v4 s0 s1 s2 h = some r → Ev sc d 187 82 [(2, v0), (0, v1), (0, v2), (9, 0), (0, v4)] [(0, s0), (0, s1), (2, s2)] h none r := by
  intro v0 v1 v2 v4 s0 s1 s2 h r hx
  unfold R_laysRows_82 at hx
  refine Ev.blk (is := [.iload 4, .iconst 2]) (pc2 := 85) (L2 := [(2, v0), (0, v1), (0, v2), (9, 0), (0, v4)]) (S2 := [(0, 2), (0, v4), (0, s0), (0, s1), (2, s2)]) (h2 := h) (by decide +kernel) rfl trivial ?_
  obtain ⟨_, hg, -, hx⟩ := bgd hx
  obtain ⟨h2, hc, hx⟩ := bca hx
  refine Ev.call (args := [(2, s2), (0, s1), (0, s0), (0, v4), (0, 2)]) (S2 := []) (r1 := none) (h1 := h2) (i := .invokevirtual 189) (by decide +kernel) rfl rfl (Nat.le_of_ble_eq_true rfl) (Or.inr (Or.inl ⟨rfl, hg, by decide +kernel⟩)) (x_R_rowsOf (by omega) hc) ?_
  refine Ev.blk (is := [.iinc 4 1]) (pc2 := 91) (L2 := [(2, v0), (0, v1), (0, v2), (9, 0), (0, w32 (v4 + 1))]) (S2 := []) (h2 := h2) (by decide +kernel) rfl trivial ?_
  refine Ev.jp (i := .goto (-30)) (len := 3) (pc2 := 61) (by decide +kernel) rfl ?_
  exact hk61 v0 v1 v2 (w32 (v4 + 1)) h2 _ hx
theorem y_R_laysRows_61 {sc : AS} {d : Nat} (hd : 4 ≤ d) : ∀ (fu : Nat) (v0 : Int) (v1 : Int) (v2 : Int) (v4 : Int) (h : AH) (r : AH), R_laysRows_61 fu v0 v1 v2 v4 h = some r → Ev sc d 187 61 [(2, v0), (0, v1), (0, v2), (9, 0), (0, v4)] [] h none r := by
  intro fu
  induction fu with
  | zero => intro v0 v1 v2 v4 h r hx; unfold R_laysRows_61 at hx; cases hx
  | succ fu ih =>
    intro v0 v1 v2 v4 h r hx
    unfold R_laysRows_61 at hx
    obtain ⟨u1, hg, he, hx⟩ := bgd hx
    refine Ev.blk (is := [.iload 4, .aload_n 0, .getfield 9006]) (pc2 := 67) (L2 := [(2, v0), (0, v1), (0, v2), (9, 0), (0, v4)]) (S2 := [(0, u1), (0, v4)]) (h2 := h) (by decide +kernel) (by subst he; rfl) (by exact hg) ?_
    clear hg he
    obtain ⟨ha, hb⟩ := bite hx
    clear hx
    refine Ev.br (i := .if_icmp .ge 27) (len := 3) (a := 70) (b := 94) (by decide +kernel) rfl Iff.rfl (fun hc => ?_) (fun hc => ?_)
    · have hx := ha hc
      clear ha hb hc
      refine Ev.blk (is := [.aload_n 0, .iload_n 1, .iload_n 2, .iconst 3]) (pc2 := 74) (L2 := [(2, v0), (0, v1), (0, v2), (9, 0), (0, v4)]) (S2 := [(0, 3), (0, v2), (0, v1), (2, v0)]) (h2 := h) (by decide +kernel) rfl trivial ?_
      obtain ⟨ha, hb⟩ := bite hx
      clear hx
      refine Ev.br (i := .if_icmp .ne 7) (len := 3) (a := 77) (b := 81) (by decide +kernel) rfl Iff.rfl (fun hc => ?_) (fun hc => ?_)
      · have hx := ha hc
        clear ha hb hc
        refine Ev.blk (is := [.iconst 1]) (pc2 := 78) (L2 := [(2, v0), (0, v1), (0, v2), (9, 0), (0, v4)]) (S2 := [(0, 1), (0, v1), (2, v0)]) (h2 := h) (by decide +kernel) rfl trivial ?_
        refine Ev.jp (i := .goto 4) (len := 3) (pc2 := 82) (by decide +kernel) rfl ?_
        exact y_R_laysRows_82 hd ih v0 v1 v2 v4 1 v1 v0 h _ hx
      · have hx := hb hc
        clear ha hb hc
        refine Ev.blk (is := [.iconst 0]) (pc2 := 82) (L2 := [(2, v0), (0, v1), (0, v2), (9, 0), (0, v4)]) (S2 := [(0, 0), (0, v1), (2, v0)]) (h2 := h) (by decide +kernel) rfl trivial ?_
        exact y_R_laysRows_82 hd ih v0 v1 v2 v4 0 v1 v0 h _ hx
    · have hx := hb hc
      clear ha hb hc
      refine Ev.jp (i := .goto 66) (len := 3) (pc2 := 160) (by decide +kernel) rfl ?_
      cases hx
      exact Ev.ret (i := .return_) (len := 1) (by decide +kernel) rfl (finOf (t := none) rfl (trivial))
theorem y_R_laysRows_55 {sc : AS} {d : Nat} (hd : 4 ≤ d) : ∀ (v0 : Int) (v1 : Int) (v2 : Int) (s0 : Int) (s1 : Int) (h : AH) (r : AH), R_laysRows_55 v0 v1 v2 s0 s1 h = some r → Ev sc d 187 55 [(2, v0), (0, v1), (0, v2), (9, 0), (9, 0)] [(1, s0), (2, s1)] h none r := by
  intro v0 v1 v2 s0 s1 h r hx
  unfold R_laysRows_55 at hx
  obtain ⟨_, hg, -, hx⟩ := bgd hx
  obtain ⟨h2, hc, hx⟩ := bca hx
  refine Ev.call (args := [(2, s1), (1, s0)]) (S2 := []) (r1 := none) (h1 := h2) (i := .invokevirtual 188) (by decide +kernel) rfl rfl (Nat.le_of_ble_eq_true rfl) (Or.inr (Or.inl ⟨rfl, hg, by decide +kernel⟩)) (x_R_laysFactors (by omega) hc) ?_
  refine Ev.blk (is := [.iconst 0, .istore 4]) (pc2 := 61) (L2 := [(2, v0), (0, v1), (0, v2), (9, 0), (0, 0)]) (S2 := []) (h2 := h2) (by decide +kernel) rfl trivial ?_
  exact y_R_laysRows_61 hd FU v0 v1 v2 0 h2 _ hx
theorem x_R_laysRows {sc : AS} {d : Nat} (hd : 5 ≤ d) {v0 : Int} {v1 : Int} {h : AH} {r : AH} (hx : R_laysRows v0 v1 h = some r) : Runs sc d 187 [(2, v0), (0, v1)] h none r := by
  obtain ⟨d, rfl⟩ : ∃ e, d = e + 1 := ⟨d - 1, by omega⟩
  have hd : 4 ≤ d := by omega
  unfold R_laysRows at hx
  refine ⟨⟨aM_187, rfl, Nat.le_of_ble_eq_true rfl⟩, ?_⟩
  show Ev sc d 187 0 [(2, v0), (0, v1), (9, 0), (9, 0), (9, 0)] [] h none r
  obtain ⟨u1, hg, he, hx⟩ := bgd hx
  refine Ev.blk (is := [.aload_n 0, .getfield 9209]) (pc2 := 4) (L2 := [(2, v0), (0, v1), (9, 0), (9, 0), (9, 0)]) (S2 := [(2, u1)]) (h2 := h) (by decide +kernel) (by subst he; rfl) (by exact hg) ?_
  clear hg he
  obtain ⟨u2, hg, he, hx⟩ := bgd hx
  refine Ev.blk (is := [.iload_n 1, .iaload]) (pc2 := 6) (L2 := [(2, v0), (0, v1), (9, 0), (9, 0), (9, 0)]) (S2 := [(0, u2)]) (h2 := h) (by decide +kernel) (by subst he; rfl) (by exact hg) ?_
  clear hg he
  obtain ⟨u3, hg, he, hx⟩ := bgd hx
  refine Ev.blk (is := [.istore_n 2, .aload_n 0, .getfield 9208]) (pc2 := 11) (L2 := [(2, v0), (0, v1), (0, u2), (9, 0), (9, 0)]) (S2 := [(2, u3)]) (h2 := h) (by decide +kernel) (by subst he; rfl) (by exact hg) ?_
  clear hg he
  obtain ⟨u4, hg, he, hx⟩ := bgd hx
  refine Ev.blk (is := [.iload_n 1, .iaload]) (pc2 := 13) (L2 := [(2, v0), (0, v1), (0, u2), (9, 0), (9, 0)]) (S2 := [(0, u4)]) (h2 := h) (by decide +kernel) (by subst he; rfl) (by exact hg) ?_
  clear hg he
  obtain ⟨u5, hg, he, hx⟩ := bgd hx
  refine Ev.blk (is := [.istore_n 3, .aload_n 0, .getfield 9212]) (pc2 := 18) (L2 := [(2, v0), (0, v1), (0, u2), (0, u4), (9, 0)]) (S2 := [(2, u5)]) (h2 := h) (by decide +kernel) (by subst he; rfl) (by exact hg) ?_
  clear hg he
  obtain ⟨h6, hg, he, hx⟩ := bgd hx
  refine Ev.blk (is := [.iload_n 1, .iconst 0, .iastore]) (pc2 := 21) (L2 := [(2, v0), (0, v1), (0, u2), (0, u4), (9, 0)]) (S2 := []) (h2 := h6) (by decide +kernel) (by subst he; rfl) (by exact hg) ?_
  clear hg he
  obtain ⟨u7, hg, he, hx⟩ := bgd hx
  refine Ev.blk (is := [.aload_n 0, .getfield 9213]) (pc2 := 25) (L2 := [(2, v0), (0, v1), (0, u2), (0, u4), (9, 0)]) (S2 := [(2, u7)]) (h2 := h6) (by decide +kernel) (by subst he; rfl) (by exact hg) ?_
  clear hg he
  obtain ⟨h8, hg, he, hx⟩ := bgd hx
  refine Ev.blk (is := [.iload_n 1, .iconst 0, .iastore]) (pc2 := 28) (L2 := [(2, v0), (0, v1), (0, u2), (0, u4), (9, 0)]) (S2 := []) (h2 := h8) (by decide +kernel) (by subst he; rfl) (by exact hg) ?_
  clear hg he
  refine Ev.blk (is := [.iload_n 2, .iconst 1]) (pc2 := 30) (L2 := [(2, v0), (0, v1), (0, u2), (0, u4), (9, 0)]) (S2 := [(0, 1), (0, u2)]) (h2 := h8) (by decide +kernel) rfl trivial ?_
  obtain ⟨ha, hb⟩ := bite hx
  clear hx
  refine Ev.br (i := .if_icmp .eq 8) (len := 3) (a := 38) (b := 33) (by decide +kernel) rfl Iff.rfl (fun hc => ?_) (fun hc => ?_)
  · have hx := ha hc
    clear ha hb hc
    refine Ev.blk (is := [.aload_n 0, .iload_n 2, .iconst 1]) (pc2 := 41) (L2 := [(2, v0), (0, v1), (0, u2), (0, u4), (9, 0)]) (S2 := [(0, 1), (0, u2), (2, v0)]) (h2 := h8) (by decide +kernel) rfl trivial ?_
    obtain ⟨ha, hb⟩ := bite hx
    clear hx
    refine Ev.br (i := .if_icmp .ne 10) (len := 3) (a := 44) (b := 51) (by decide +kernel) rfl Iff.rfl (fun hc => ?_) (fun hc => ?_)
    · have hx := ha hc
      clear ha hb hc
      refine Ev.blk (is := [.iload_n 3, .i2l, .lconst 1, .lsub]) (pc2 := 48) (L2 := [(2, v0), (0, v1), (0, u2), (0, u4), (9, 0)]) (S2 := [(1, w64 (u4 - 1)), (2, v0)]) (h2 := h8) (by decide +kernel) rfl trivial ?_
      refine Ev.jp (i := .goto 7) (len := 3) (pc2 := 55) (by decide +kernel) rfl ?_
      refine Ev.wk (L2 := [(2, v0), (0, v1), (0, u2), (9, 0), (9, 0)]) (wkL_of ⟨Or.inl rfl, ⟨Or.inl rfl, ⟨Or.inl rfl, ⟨Or.inr rfl, ⟨Or.inl rfl, trivial⟩⟩⟩⟩⟩) ?_
      exact y_R_laysRows_55 hd v0 v1 u2 (w64 (u4 - 1)) v0 h8 _ hx
    · have hx := hb hc
      clear ha hb hc
      refine Ev.blk (is := [.iload_n 3, .i2l, .lconst 1, .ladd]) (pc2 := 55) (L2 := [(2, v0), (0, v1), (0, u2), (0, u4), (9, 0)]) (S2 := [(1, w64 (u4 + 1)), (2, v0)]) (h2 := h8) (by decide +kernel) rfl trivial ?_
      refine Ev.wk (L2 := [(2, v0), (0, v1), (0, u2), (9, 0), (9, 0)]) (wkL_of ⟨Or.inl rfl, ⟨Or.inl rfl, ⟨Or.inl rfl, ⟨Or.inr rfl, ⟨Or.inl rfl, trivial⟩⟩⟩⟩⟩) ?_
      exact y_R_laysRows_55 hd v0 v1 u2 (w64 (u4 + 1)) v0 h8 _ hx
  · have hx := hb hc
    clear ha hb hc
    refine Ev.blk (is := [.iload_n 2, .iconst 3]) (pc2 := 35) (L2 := [(2, v0), (0, v1), (0, u2), (0, u4), (9, 0)]) (S2 := [(0, 3), (0, u2)]) (h2 := h8) (by decide +kernel) rfl trivial ?_
    obtain ⟨ha, hb⟩ := bite hx
    clear hx
    refine Ev.br (i := .if_icmp .ne 62) (len := 3) (a := 38) (b := 97) (by decide +kernel) rfl Iff.rfl (fun hc => ?_) (fun hc => ?_)
    · have hx := ha hc
      clear ha hb hc
      refine Ev.blk (is := [.aload_n 0, .iload_n 2, .iconst 1]) (pc2 := 41) (L2 := [(2, v0), (0, v1), (0, u2), (0, u4), (9, 0)]) (S2 := [(0, 1), (0, u2), (2, v0)]) (h2 := h8) (by decide +kernel) rfl trivial ?_
      obtain ⟨ha, hb⟩ := bite hx
      clear hx
      refine Ev.br (i := .if_icmp .ne 10) (len := 3) (a := 44) (b := 51) (by decide +kernel) rfl Iff.rfl (fun hc => ?_) (fun hc => ?_)
      · have hx := ha hc
        clear ha hb hc
        refine Ev.blk (is := [.iload_n 3, .i2l, .lconst 1, .lsub]) (pc2 := 48) (L2 := [(2, v0), (0, v1), (0, u2), (0, u4), (9, 0)]) (S2 := [(1, w64 (u4 - 1)), (2, v0)]) (h2 := h8) (by decide +kernel) rfl trivial ?_
        refine Ev.jp (i := .goto 7) (len := 3) (pc2 := 55) (by decide +kernel) rfl ?_
        refine Ev.wk (L2 := [(2, v0), (0, v1), (0, u2), (9, 0), (9, 0)]) (wkL_of ⟨Or.inl rfl, ⟨Or.inl rfl, ⟨Or.inl rfl, ⟨Or.inr rfl, ⟨Or.inl rfl, trivial⟩⟩⟩⟩⟩) ?_
        exact y_R_laysRows_55 hd v0 v1 u2 (w64 (u4 - 1)) v0 h8 _ hx
      · have hx := hb hc
        clear ha hb hc
        refine Ev.blk (is := [.iload_n 3, .i2l, .lconst 1, .ladd]) (pc2 := 55) (L2 := [(2, v0), (0, v1), (0, u2), (0, u4), (9, 0)]) (S2 := [(1, w64 (u4 + 1)), (2, v0)]) (h2 := h8) (by decide +kernel) rfl trivial ?_
        refine Ev.wk (L2 := [(2, v0), (0, v1), (0, u2), (9, 0), (9, 0)]) (wkL_of ⟨Or.inl rfl, ⟨Or.inl rfl, ⟨Or.inl rfl, ⟨Or.inr rfl, ⟨Or.inl rfl, trivial⟩⟩⟩⟩⟩) ?_
        exact y_R_laysRows_55 hd v0 v1 u2 (w64 (u4 + 1)) v0 h8 _ hx
    · have hx := hb hc
      clear ha hb hc
      refine Ev.blk (is := [.iload_n 2, .iconst 2]) (pc2 := 99) (L2 := [(2, v0), (0, v1), (0, u2), (0, u4), (9, 0)]) (S2 := [(0, 2), (0, u2)]) (h2 := h8) (by decide +kernel) rfl trivial ?_
      obtain ⟨ha, hb⟩ := bite hx
      clear hx
      refine Ev.br (i := .if_icmp .ne 50) (len := 3) (a := 102) (b := 149) (by decide +kernel) rfl Iff.rfl (fun hc => ?_) (fun hc => ?_)
      · have hx := ha hc
        clear ha hb hc
        refine Ev.blk (is := [.aload_n 0, .iload_n 3, .i2l, .lconst 1, .lsub]) (pc2 := 107) (L2 := [(2, v0), (0, v1), (0, u2), (0, u4), (9, 0)]) (S2 := [(1, w64 (u4 - 1)), (2, v0)]) (h2 := h8) (by decide +kernel) rfl trivial ?_
        obtain ⟨_, hg, -, hx⟩ := bgd hx
        obtain ⟨h10, hc, hx⟩ := bca hx
        refine Ev.call (args := [(2, v0), (1, w64 (u4 - 1))]) (S2 := []) (r1 := none) (h1 := h10) (i := .invokevirtual 188) (by decide +kernel) rfl rfl (Nat.le_of_ble_eq_true rfl) (Or.inr (Or.inl ⟨rfl, hg, by decide +kernel⟩)) (x_R_laysFactors (by omega) hc) ?_
        obtain ⟨u11, hg, he, hx⟩ := bgd hx
        refine Ev.blk (is := [.aload_n 0, .getfield 9006]) (pc2 := 114) (L2 := [(2, v0), (0, v1), (0, u2), (0, u4), (9, 0)]) (S2 := [(0, u11)]) (h2 := h10) (by decide +kernel) (by subst he; rfl) (by exact hg) ?_
        clear hg he
        refine Ev.blk (is := [.iconst 1, .isub, .istore 4]) (pc2 := 118) (L2 := [(2, v0), (0, v1), (0, u2), (0, u4), (0, w32 (u11 - 1))]) (S2 := []) (h2 := h10) (by decide +kernel) rfl trivial ?_
        refine Ev.wk (L2 := [(2, v0), (0, v1), (9, 0), (9, 0), (0, w32 (u11 - 1))]) (wkL_of ⟨Or.inl rfl, ⟨Or.inl rfl, ⟨Or.inr rfl, ⟨Or.inr rfl, ⟨Or.inl rfl, trivial⟩⟩⟩⟩⟩) ?_
        exact y_R_laysRows_118 hd FU v0 v1 (w32 (u11 - 1)) h10 _ hx
      · have hx := hb hc
        clear ha hb hc
        refine Ev.blk (is := [.iload_n 2, .iconst 4]) (pc2 := 151) (L2 := [(2, v0), (0, v1), (0, u2), (0, u4), (9, 0)]) (S2 := [(0, 4), (0, u2)]) (h2 := h8) (by decide +kernel) rfl trivial ?_
        obtain ⟨ha, hb⟩ := bite hx
        clear hx
        refine Ev.br (i := .if_icmp .ne 9) (len := 3) (a := 154) (b := 160) (by decide +kernel) rfl Iff.rfl (fun hc => ?_) (fun hc => ?_)
        · have hx := ha hc
          clear ha hb hc
          refine Ev.blk (is := [.aload_n 0, .iload_n 1, .iload_n 3]) (pc2 := 157) (L2 := [(2, v0), (0, v1), (0, u2), (0, u4), (9, 0)]) (S2 := [(0, u4), (0, v1), (2, v0)]) (h2 := h8) (by decide +kernel) rfl trivial ?_
          obtain ⟨_, hg, -, hx⟩ := bgd hx
          obtain ⟨h13, hc, hx⟩ := bca hx
          refine Ev.call (args := [(2, v0), (0, v1), (0, u4)]) (S2 := []) (r1 := none) (h1 := h13) (i := .invokevirtual 192) (by decide +kernel) rfl rfl (Nat.le_of_ble_eq_true rfl) (Or.inr (Or.inl ⟨rfl, hg, by decide +kernel⟩)) (x_R_turns (by omega) hc) ?_
          cases hx
          exact Ev.ret (i := .return_) (len := 1) (by decide +kernel) rfl (finOf (t := none) rfl (trivial))
        · have hx := hb hc
          clear ha hb hc
          cases hx
          exact Ev.ret (i := .return_) (len := 1) (by decide +kernel) rfl (finOf (t := none) rfl (trivial))
theorem y_R_laysBases_156 {sc : AS} {d : Nat} (hd : 2 ≤ d) {k140 : Int → Int → Int → Int → Int → AH → Option (Int × AH)} (hk140 : ∀ (v0 : Int) (v1 : Int) (v2 : Int) (v3 : Int) (v4 : Int) (h : AH) (r : (Int × AH)), k140 v0 v1 v2 v3 v4 h = some r → Ev sc d 193 140 [(2, v0), (0, v1), (0, v2), (0, v3), (0, v4), (9, 0), (9, 0)] [] h (some (0, r.1)) r.2) : ∀ (fu : Nat) (v0 : Int) (v1 : Int) (v2 : Int) (v3 : Int) (v4 : Int) (v5 : Int) (h : AH) (r : (Int × AH)), R_laysBases_156 k140 fu v0 v1 v2 v3 v4 v5 h = some r → Ev sc d 193 156 [(2, v0), (0, v1), (0, v2), (0, v3), (0, v4), (0, v5), (9, 0)] [] h (some (0, r.1)) r.2 := by
  intro fu
  induction fu with
  | zero => intro v0 v1 v2 v3 v4 v5 h r hx; unfold R_laysBases_156 at hx; cases hx
  | succ fu ih =>
    intro v0 v1 v2 v3 v4 v5 h r hx
    unfold R_laysBases_156 at hx
    refine Ev.blk (is := [.iload 5, .sipush 999]) (pc2 := 161) (L2 := [(2, v0), (0, v1), (0, v2), (0, v3), (0, v4), (0, v5), (9, 0)]) (S2 := [(0, 999), (0, v5)]) (h2 := h) (by decide +kernel) rfl trivial ?_
    obtain ⟨ha, hb⟩ := bite hx
    clear hx
    refine Ev.br (i := .if_icmp .gt 39) (len := 3) (a := 200) (b := 164) (by decide +kernel) rfl Iff.rfl (fun hc => ?_) (fun hc => ?_)
    · have hx := ha hc
      clear ha hb hc
      refine Ev.blk (is := [.iload 5, .sipush 999]) (pc2 := 205) (L2 := [(2, v0), (0, v1), (0, v2), (0, v3), (0, v4), (0, v5), (9, 0)]) (S2 := [(0, 999), (0, v5)]) (h2 := h) (by decide +kernel) rfl trivial ?_
      obtain ⟨ha, hb⟩ := bite hx
      clear hx
      refine Ev.br (i := .if_icmp .le 5) (len := 3) (a := 208) (b := 210) (by decide +kernel) rfl Iff.rfl (fun hc => ?_) (fun hc => ?_)
      · have hx := ha hc
        clear ha hb hc
        refine Ev.blk (is := [.iconst 0]) (pc2 := 209) (L2 := [(2, v0), (0, v1), (0, v2), (0, v3), (0, v4), (0, v5), (9, 0)]) (S2 := [(0, 0)]) (h2 := h) (by decide +kernel) rfl trivial ?_
        cases hx
        exact Ev.ret (i := .ireturn) (len := 1) (by decide +kernel) rfl (finOf (t := some .boolean) rfl (bz0))
      · have hx := hb hc
        clear ha hb hc
        obtain ⟨u1, hg, he, hx⟩ := bgd hx
        refine Ev.blk (is := [.aload_n 0, .getfield 9216]) (pc2 := 214) (L2 := [(2, v0), (0, v1), (0, v2), (0, v3), (0, v4), (0, v5), (9, 0)]) (S2 := [(2, u1)]) (h2 := h) (by decide +kernel) (by subst he; rfl) (by exact hg) ?_
        clear hg he
        obtain ⟨h2, hg, he, hx⟩ := bgd hx
        refine Ev.blk (is := [.iload 4, .iload 5, .iastore]) (pc2 := 219) (L2 := [(2, v0), (0, v1), (0, v2), (0, v3), (0, v4), (0, v5), (9, 0)]) (S2 := []) (h2 := h2) (by decide +kernel) (by subst he; rfl) (by exact hg) ?_
        clear hg he
        refine Ev.blk (is := [.iinc 4 1]) (pc2 := 222) (L2 := [(2, v0), (0, v1), (0, v2), (0, v3), (0, w32 (v4 + 1)), (0, v5), (9, 0)]) (S2 := []) (h2 := h2) (by decide +kernel) rfl trivial ?_
        refine Ev.jp (i := .goto (-82)) (len := 3) (pc2 := 140) (by decide +kernel) rfl ?_
        refine Ev.wk (L2 := [(2, v0), (0, v1), (0, v2), (0, v3), (0, w32 (v4 + 1)), (9, 0), (9, 0)]) (wkL_of ⟨Or.inl rfl, ⟨Or.inl rfl, ⟨Or.inl rfl, ⟨Or.inl rfl, ⟨Or.inl rfl, ⟨Or.inr rfl, ⟨Or.inl rfl, trivial⟩⟩⟩⟩⟩⟩⟩) ?_
        exact hk140 v0 v1 v2 v3 (w32 (v4 + 1)) h2 _ hx
    · have hx := hb hc
      clear ha hb hc
      refine Ev.blk (is := [.iload_n 3, .i2l, .iload 5, .i2l]) (pc2 := 169) (L2 := [(2, v0), (0, v1), (0, v2), (0, v3), (0, v4), (0, v5), (9, 0)]) (S2 := [(1, v5), (1, v3)]) (h2 := h) (by decide +kernel) rfl trivial ?_
      obtain ⟨u3, hc, hx⟩ := bca hx
      refine Ev.call (args := [(1, v3), (1, v5)]) (S2 := []) (r1 := (some (0, u3))) (h1 := h) (i := .invokestatic 177) (by decide +kernel) rfl rfl (Nat.le_of_ble_eq_true rfl) (Or.inl rfl) (x_R_isOneBy (by omega) hc) ?_
      obtain ⟨ha, hb⟩ := bite hx
      clear hx
      refine Ev.br (i := .ifCond .eq 22) (len := 3) (a := 194) (b := 175) (by decide +kernel) rfl Iff.rfl (fun hc => ?_) (fun hc => ?_)
      · have hx := ha hc
        clear ha hb hc
        refine Ev.blk (is := [.iinc 5 1]) (pc2 := 197) (L2 := [(2, v0), (0, v1), (0, v2), (0, v3), (0, v4), (0, w32 (v5 + 1)), (9, 0)]) (S2 := []) (h2 := h) (by decide +kernel) rfl trivial ?_
        refine Ev.jp (i := .goto (-41)) (len := 3) (pc2 := 156) (by decide +kernel) rfl ?_
        exact ih v0 v1 v2 v3 v4 (w32 (v5 + 1)) h _ hx
      · have hx := hb hc
        clear ha hb hc
        obtain ⟨u4, hg, he, hx⟩ := bgd hx
        refine Ev.blk (is := [.iload_n 3, .i2l, .iload 5, .i2l, .aload_n 0, .getfield 9214]) (pc2 := 184) (L2 := [(2, v0), (0, v1), (0, v2), (0, v3), (0, v4), (0, v5), (9, 0)]) (S2 := [(2, u4), (1, v5), (1, v3)]) (h2 := h) (by decide +kernel) (by subst he; rfl) (by exact hg) ?_
        clear hg he
        obtain ⟨u5, hg, he, hx⟩ := bgd hx
        refine Ev.blk (is := [.iload 4, .iaload]) (pc2 := 187) (L2 := [(2, v0), (0, v1), (0, v2), (0, v3), (0, v4), (0, v5), (9, 0)]) (S2 := [(0, u5), (1, v5), (1, v3)]) (h2 := h) (by decide +kernel) (by subst he; rfl) (by exact hg) ?_
        clear hg he
        refine Ev.blk (is := [.i2l]) (pc2 := 188) (L2 := [(2, v0), (0, v1), (0, v2), (0, v3), (0, v4), (0, v5), (9, 0)]) (S2 := [(1, u5), (1, v5), (1, v3)]) (h2 := h) (by decide +kernel) rfl trivial ?_
        obtain ⟨u6, hc, hx⟩ := bca hx
        refine Ev.call (args := [(1, v3), (1, v5), (1, u5)]) (S2 := []) (r1 := (some (0, u6))) (h1 := h) (i := .invokestatic 179) (by decide +kernel) rfl rfl (Nat.le_of_ble_eq_true rfl) (Or.inl rfl) (x_R_isApartBy (by omega) hc) ?_
        obtain ⟨ha, hb⟩ := bite hx
        clear hx
        refine Ev.br (i := .ifCond .ne 9) (len := 3) (a := 194) (b := 200) (by decide +kernel) rfl Iff.rfl (fun hc => ?_) (fun hc => ?_)
        · have hx := ha hc
          clear ha hb hc
          refine Ev.blk (is := [.iinc 5 1]) (pc2 := 197) (L2 := [(2, v0), (0, v1), (0, v2), (0, v3), (0, v4), (0, w32 (v5 + 1)), (9, 0)]) (S2 := []) (h2 := h) (by decide +kernel) rfl trivial ?_
          refine Ev.jp (i := .goto (-41)) (len := 3) (pc2 := 156) (by decide +kernel) rfl ?_
          exact ih v0 v1 v2 v3 v4 (w32 (v5 + 1)) h _ hx
        · have hx := hb hc
          clear ha hb hc
          refine Ev.blk (is := [.iload 5, .sipush 999]) (pc2 := 205) (L2 := [(2, v0), (0, v1), (0, v2), (0, v3), (0, v4), (0, v5), (9, 0)]) (S2 := [(0, 999), (0, v5)]) (h2 := h) (by decide +kernel) rfl trivial ?_
          obtain ⟨ha, hb⟩ := bite hx
          clear hx
          refine Ev.br (i := .if_icmp .le 5) (len := 3) (a := 208) (b := 210) (by decide +kernel) rfl Iff.rfl (fun hc => ?_) (fun hc => ?_)
          · have hx := ha hc
            clear ha hb hc
            refine Ev.blk (is := [.iconst 0]) (pc2 := 209) (L2 := [(2, v0), (0, v1), (0, v2), (0, v3), (0, v4), (0, v5), (9, 0)]) (S2 := [(0, 0)]) (h2 := h) (by decide +kernel) rfl trivial ?_
            cases hx
            exact Ev.ret (i := .ireturn) (len := 1) (by decide +kernel) rfl (finOf (t := some .boolean) rfl (bz0))
          · have hx := hb hc
            clear ha hb hc
            obtain ⟨u7, hg, he, hx⟩ := bgd hx
            refine Ev.blk (is := [.aload_n 0, .getfield 9216]) (pc2 := 214) (L2 := [(2, v0), (0, v1), (0, v2), (0, v3), (0, v4), (0, v5), (9, 0)]) (S2 := [(2, u7)]) (h2 := h) (by decide +kernel) (by subst he; rfl) (by exact hg) ?_
            clear hg he
            obtain ⟨h8, hg, he, hx⟩ := bgd hx
            refine Ev.blk (is := [.iload 4, .iload 5, .iastore]) (pc2 := 219) (L2 := [(2, v0), (0, v1), (0, v2), (0, v3), (0, v4), (0, v5), (9, 0)]) (S2 := []) (h2 := h8) (by decide +kernel) (by subst he; rfl) (by exact hg) ?_
            clear hg he
            refine Ev.blk (is := [.iinc 4 1]) (pc2 := 222) (L2 := [(2, v0), (0, v1), (0, v2), (0, v3), (0, w32 (v4 + 1)), (0, v5), (9, 0)]) (S2 := []) (h2 := h8) (by decide +kernel) rfl trivial ?_
            refine Ev.jp (i := .goto (-82)) (len := 3) (pc2 := 140) (by decide +kernel) rfl ?_
            refine Ev.wk (L2 := [(2, v0), (0, v1), (0, v2), (0, v3), (0, w32 (v4 + 1)), (9, 0), (9, 0)]) (wkL_of ⟨Or.inl rfl, ⟨Or.inl rfl, ⟨Or.inl rfl, ⟨Or.inl rfl, ⟨Or.inl rfl, ⟨Or.inr rfl, ⟨Or.inl rfl, trivial⟩⟩⟩⟩⟩⟩⟩) ?_
            exact hk140 v0 v1 v2 v3 (w32 (v4 + 1)) h8 _ hx
theorem y_R_laysBases_140 {sc : AS} {d : Nat} (hd : 2 ≤ d) : ∀ (fu : Nat) (v0 : Int) (v1 : Int) (v2 : Int) (v3 : Int) (v4 : Int) (h : AH) (r : (Int × AH)), R_laysBases_140 fu v0 v1 v2 v3 v4 h = some r → Ev sc d 193 140 [(2, v0), (0, v1), (0, v2), (0, v3), (0, v4), (9, 0), (9, 0)] [] h (some (0, r.1)) r.2 := by
  intro fu
  induction fu with
  | zero => intro v0 v1 v2 v3 v4 h r hx; unfold R_laysBases_140 at hx; cases hx
  | succ fu ih =>
    intro v0 v1 v2 v3 v4 h r hx
    unfold R_laysBases_140 at hx
    obtain ⟨u1, hg, he, hx⟩ := bgd hx
    refine Ev.blk (is := [.iload 4, .iload_n 2, .aload_n 0, .getfield 9212]) (pc2 := 147) (L2 := [(2, v0), (0, v1), (0, v2), (0, v3), (0, v4), (9, 0), (9, 0)]) (S2 := [(2, u1), (0, v2), (0, v4)]) (h2 := h) (by decide +kernel) (by subst he; rfl) (by exact hg) ?_
    clear hg he
    obtain ⟨u2, hg, he, hx⟩ := bgd hx
    refine Ev.blk (is := [.iload_n 1, .iaload]) (pc2 := 149) (L2 := [(2, v0), (0, v1), (0, v2), (0, v3), (0, v4), (9, 0), (9, 0)]) (S2 := [(0, u2), (0, v2), (0, v4)]) (h2 := h) (by decide +kernel) (by subst he; rfl) (by exact hg) ?_
    clear hg he
    refine Ev.blk (is := [.iadd]) (pc2 := 150) (L2 := [(2, v0), (0, v1), (0, v2), (0, v3), (0, v4), (9, 0), (9, 0)]) (S2 := [(0, w32 (v2 + u2)), (0, v4)]) (h2 := h) (by decide +kernel) rfl trivial ?_
    obtain ⟨ha, hb⟩ := bite hx
    clear hx
    refine Ev.br (i := .if_icmp .ge 75) (len := 3) (a := 153) (b := 225) (by decide +kernel) rfl Iff.rfl (fun hc => ?_) (fun hc => ?_)
    · have hx := ha hc
      clear ha hb hc
      refine Ev.blk (is := [.iconst 2, .istore 5]) (pc2 := 156) (L2 := [(2, v0), (0, v1), (0, v2), (0, v3), (0, v4), (0, 2), (9, 0)]) (S2 := []) (h2 := h) (by decide +kernel) rfl trivial ?_
      exact y_R_laysBases_156 hd ih FU v0 v1 v2 v3 v4 2 h _ hx
    · have hx := hb hc
      clear ha hb hc
      refine Ev.blk (is := [.iconst 1]) (pc2 := 226) (L2 := [(2, v0), (0, v1), (0, v2), (0, v3), (0, v4), (9, 0), (9, 0)]) (S2 := [(0, 1)]) (h2 := h) (by decide +kernel) rfl trivial ?_
      cases hx
      exact Ev.ret (i := .ireturn) (len := 1) (by decide +kernel) rfl (finOf (t := some .boolean) rfl (bz1))
theorem y_R_laysBases_99 {sc : AS} {d : Nat} (hd : 2 ≤ d) : ∀ (fu : Nat) (v0 : Int) (v1 : Int) (v2 : Int) (v4 : Int) (v6 : Int) (h : AH) (r : (Int × AH)), R_laysBases_99 fu v0 v1 v2 v4 v6 h = some r → Ev sc d 193 99 [(2, v0), (0, v1), (0, v2), (9, 0), (0, v4), (9, 0), (0, v6)] [] h (some (0, r.1)) r.2 := by
  intro fu
  induction fu with
  | zero => intro v0 v1 v2 v4 v6 h r hx; unfold R_laysBases_99 at hx; cases hx
  | succ fu ih =>
    intro v0 v1 v2 v4 v6 h r hx
    unfold R_laysBases_99 at hx
    obtain ⟨u1, hg, he, hx⟩ := bgd hx
    refine Ev.blk (is := [.iload 6, .iload_n 2, .aload_n 0, .getfield 9212]) (pc2 := 106) (L2 := [(2, v0), (0, v1), (0, v2), (9, 0), (0, v4), (9, 0), (0, v6)]) (S2 := [(2, u1), (0, v2), (0, v6)]) (h2 := h) (by decide +kernel) (by subst he; rfl) (by exact hg) ?_
    clear hg he
    obtain ⟨u2, hg, he, hx⟩ := bgd hx
    refine Ev.blk (is := [.iload_n 1, .iaload]) (pc2 := 108) (L2 := [(2, v0), (0, v1), (0, v2), (9, 0), (0, v4), (9, 0), (0, v6)]) (S2 := [(0, u2), (0, v2), (0, v6)]) (h2 := h) (by decide +kernel) (by subst he; rfl) (by exact hg) ?_
    clear hg he
    refine Ev.blk (is := [.iadd]) (pc2 := 109) (L2 := [(2, v0), (0, v1), (0, v2), (9, 0), (0, v4), (9, 0), (0, v6)]) (S2 := [(0, w32 (v2 + u2)), (0, v6)]) (h2 := h) (by decide +kernel) rfl trivial ?_
    obtain ⟨ha, hb⟩ := bite hx
    clear hx
    refine Ev.br (i := .if_icmp .ge 18) (len := 3) (a := 112) (b := 127) (by decide +kernel) rfl Iff.rfl (fun hc => ?_) (fun hc => ?_)
    · have hx := ha hc
      clear ha hb hc
      obtain ⟨u3, hg, he, hx⟩ := bgd hx
      refine Ev.blk (is := [.aload_n 0, .getfield 9216]) (pc2 := 116) (L2 := [(2, v0), (0, v1), (0, v2), (9, 0), (0, v4), (9, 0), (0, v6)]) (S2 := [(2, u3)]) (h2 := h) (by decide +kernel) (by subst he; rfl) (by exact hg) ?_
      clear hg he
      obtain ⟨h4, hg, he, hx⟩ := bgd hx
      refine Ev.blk (is := [.iload 6, .iload 4, .iastore]) (pc2 := 121) (L2 := [(2, v0), (0, v1), (0, v2), (9, 0), (0, v4), (9, 0), (0, v6)]) (S2 := []) (h2 := h4) (by decide +kernel) (by subst he; rfl) (by exact hg) ?_
      clear hg he
      refine Ev.blk (is := [.iinc 6 1]) (pc2 := 124) (L2 := [(2, v0), (0, v1), (0, v2), (9, 0), (0, v4), (9, 0), (0, w32 (v6 + 1))]) (S2 := []) (h2 := h4) (by decide +kernel) rfl trivial ?_
      refine Ev.jp (i := .goto (-25)) (len := 3) (pc2 := 99) (by decide +kernel) rfl ?_
      exact ih v0 v1 v2 v4 (w32 (v6 + 1)) h4 _ hx
    · have hx := hb hc
      clear ha hb hc
      refine Ev.blk (is := [.iconst 1]) (pc2 := 128) (L2 := [(2, v0), (0, v1), (0, v2), (9, 0), (0, v4), (9, 0), (0, v6)]) (S2 := [(0, 1)]) (h2 := h) (by decide +kernel) rfl trivial ?_
      cases hx
      exact Ev.ret (i := .ireturn) (len := 1) (by decide +kernel) rfl (finOf (t := some .boolean) rfl (bz1))
theorem y_R_laysBases_46 {sc : AS} {d : Nat} (hd : 2 ≤ d) {k25 : Int → Int → Int → Int → Int → AH → Option (Int × AH)} (hk25 : ∀ (v0 : Int) (v1 : Int) (v2 : Int) (v3 : Int) (v4 : Int) (h : AH) (r : (Int × AH)), k25 v0 v1 v2 v3 v4 h = some r → Ev sc d 193 25 [(2, v0), (0, v1), (0, v2), (0, v3), (0, v4), (9, 0), (9, 0)] [] h (some (0, r.1)) r.2) : ∀ (fu : Nat) (v0 : Int) (v1 : Int) (v2 : Int) (v3 : Int) (v4 : Int) (v5 : Int) (v6 : Int) (h : AH) (r : (Int × AH)), R_laysBases_46 k25 fu v0 v1 v2 v3 v4 v5 v6 h = some r → Ev sc d 193 46 [(2, v0), (0, v1), (0, v2), (0, v3), (0, v4), (0, v5), (0, v6)] [] h (some (0, r.1)) r.2 := by
  intro fu
  induction fu with
  | zero => intro v0 v1 v2 v3 v4 v5 v6 h r hx; unfold R_laysBases_46 at hx; cases hx
  | succ fu ih =>
    intro v0 v1 v2 v3 v4 v5 v6 h r hx
    unfold R_laysBases_46 at hx
    obtain ⟨u1, hg, he, hx⟩ := bgd hx
    refine Ev.blk (is := [.iload 6, .iload_n 2, .aload_n 0, .getfield 9212]) (pc2 := 53) (L2 := [(2, v0), (0, v1), (0, v2), (0, v3), (0, v4), (0, v5), (0, v6)]) (S2 := [(2, u1), (0, v2), (0, v6)]) (h2 := h) (by decide +kernel) (by subst he; rfl) (by exact hg) ?_
    clear hg he
    obtain ⟨u2, hg, he, hx⟩ := bgd hx
    refine Ev.blk (is := [.iload_n 1, .iaload]) (pc2 := 55) (L2 := [(2, v0), (0, v1), (0, v2), (0, v3), (0, v4), (0, v5), (0, v6)]) (S2 := [(0, u2), (0, v2), (0, v6)]) (h2 := h) (by decide +kernel) (by subst he; rfl) (by exact hg) ?_
    clear hg he
    refine Ev.blk (is := [.iadd]) (pc2 := 56) (L2 := [(2, v0), (0, v1), (0, v2), (0, v3), (0, v4), (0, v5), (0, v6)]) (S2 := [(0, w32 (v2 + u2)), (0, v6)]) (h2 := h) (by decide +kernel) rfl trivial ?_
    obtain ⟨ha, hb⟩ := bite hx
    clear hx
    refine Ev.br (i := .if_icmp .ge 32) (len := 3) (a := 59) (b := 88) (by decide +kernel) rfl Iff.rfl (fun hc => ?_) (fun hc => ?_)
    · have hx := ha hc
      clear ha hb hc
      refine Ev.blk (is := [.iload 5]) (pc2 := 61) (L2 := [(2, v0), (0, v1), (0, v2), (0, v3), (0, v4), (0, v5), (0, v6)]) (S2 := [(0, v5)]) (h2 := h) (by decide +kernel) rfl trivial ?_
      obtain ⟨ha, hb⟩ := bite hx
      clear hx
      refine Ev.br (i := .ifCond .eq 27) (len := 3) (a := 88) (b := 64) (by decide +kernel) rfl Iff.rfl (fun hc => ?_) (fun hc => ?_)
      · have hx := ha hc
        clear ha hb hc
        refine Ev.blk (is := [.iload 5]) (pc2 := 90) (L2 := [(2, v0), (0, v1), (0, v2), (0, v3), (0, v4), (0, v5), (0, v6)]) (S2 := [(0, v5)]) (h2 := h) (by decide +kernel) rfl trivial ?_
        obtain ⟨ha, hb⟩ := bite hx
        clear hx
        refine Ev.br (i := .ifCond .ne 6) (len := 3) (a := 93) (b := 96) (by decide +kernel) rfl Iff.rfl (fun hc => ?_) (fun hc => ?_)
        · have hx := ha hc
          clear ha hb hc
          refine Ev.jp (i := .goto 36) (len := 3) (pc2 := 129) (by decide +kernel) rfl ?_
          refine Ev.blk (is := [.iinc 4 1]) (pc2 := 132) (L2 := [(2, v0), (0, v1), (0, v2), (0, v3), (0, w32 (v4 + 1)), (0, v5), (0, v6)]) (S2 := []) (h2 := h) (by decide +kernel) rfl trivial ?_
          refine Ev.jp (i := .goto (-107)) (len := 3) (pc2 := 25) (by decide +kernel) rfl ?_
          refine Ev.wk (L2 := [(2, v0), (0, v1), (0, v2), (0, v3), (0, w32 (v4 + 1)), (9, 0), (9, 0)]) (wkL_of ⟨Or.inl rfl, ⟨Or.inl rfl, ⟨Or.inl rfl, ⟨Or.inl rfl, ⟨Or.inl rfl, ⟨Or.inr rfl, ⟨Or.inr rfl, trivial⟩⟩⟩⟩⟩⟩⟩) ?_
          exact hk25 v0 v1 v2 v3 (w32 (v4 + 1)) h _ hx
        · have hx := hb hc
          clear ha hb hc
          refine Ev.blk (is := [.iload_n 2, .istore 6]) (pc2 := 99) (L2 := [(2, v0), (0, v1), (0, v2), (0, v3), (0, v4), (0, v5), (0, v2)]) (S2 := []) (h2 := h) (by decide +kernel) rfl trivial ?_
          refine Ev.wk (L2 := [(2, v0), (0, v1), (0, v2), (9, 0), (0, v4), (9, 0), (0, v2)]) (wkL_of ⟨Or.inl rfl, ⟨Or.inl rfl, ⟨Or.inl rfl, ⟨Or.inr rfl, ⟨Or.inl rfl, ⟨Or.inr rfl, ⟨Or.inl rfl, trivial⟩⟩⟩⟩⟩⟩⟩) ?_
          exact y_R_laysBases_99 hd FU v0 v1 v2 v4 v2 h _ hx
      · have hx := hb hc
        clear ha hb hc
        obtain ⟨u3, hg, he, hx⟩ := bgd hx
        refine Ev.blk (is := [.iload_n 3, .i2l, .iload 4, .i2l, .aload_n 0, .getfield 9214]) (pc2 := 73) (L2 := [(2, v0), (0, v1), (0, v2), (0, v3), (0, v4), (0, v5), (0, v6)]) (S2 := [(2, u3), (1, v4), (1, v3)]) (h2 := h) (by decide +kernel) (by subst he; rfl) (by exact hg) ?_
        clear hg he
        obtain ⟨u4, hg, he, hx⟩ := bgd hx
        refine Ev.blk (is := [.iload 6, .iaload]) (pc2 := 76) (L2 := [(2, v0), (0, v1), (0, v2), (0, v3), (0, v4), (0, v5), (0, v6)]) (S2 := [(0, u4), (1, v4), (1, v3)]) (h2 := h) (by decide +kernel) (by subst he; rfl) (by exact hg) ?_
        clear hg he
        refine Ev.blk (is := [.i2l]) (pc2 := 77) (L2 := [(2, v0), (0, v1), (0, v2), (0, v3), (0, v4), (0, v5), (0, v6)]) (S2 := [(1, u4), (1, v4), (1, v3)]) (h2 := h) (by decide +kernel) rfl trivial ?_
        obtain ⟨u5, hc, hx⟩ := bca hx
        refine Ev.call (args := [(1, v3), (1, v4), (1, u4)]) (S2 := []) (r1 := (some (0, u5))) (h1 := h) (i := .invokestatic 179) (by decide +kernel) rfl rfl (Nat.le_of_ble_eq_true rfl) (Or.inl rfl) (x_R_isApartBy (by omega) hc) ?_
        refine Ev.blk (is := [.istore 5, .iinc 6 1]) (pc2 := 85) (L2 := [(2, v0), (0, v1), (0, v2), (0, v3), (0, v4), (0, u5), (0, w32 (v6 + 1))]) (S2 := []) (h2 := h) (by decide +kernel) rfl trivial ?_
        refine Ev.jp (i := .goto (-39)) (len := 3) (pc2 := 46) (by decide +kernel) rfl ?_
        exact ih v0 v1 v2 v3 v4 u5 (w32 (v6 + 1)) h _ hx
    · have hx := hb hc
      clear ha hb hc
      refine Ev.blk (is := [.iload 5]) (pc2 := 90) (L2 := [(2, v0), (0, v1), (0, v2), (0, v3), (0, v4), (0, v5), (0, v6)]) (S2 := [(0, v5)]) (h2 := h) (by decide +kernel) rfl trivial ?_
      obtain ⟨ha, hb⟩ := bite hx
      clear hx
      refine Ev.br (i := .ifCond .ne 6) (len := 3) (a := 93) (b := 96) (by decide +kernel) rfl Iff.rfl (fun hc => ?_) (fun hc => ?_)
      · have hx := ha hc
        clear ha hb hc
        refine Ev.jp (i := .goto 36) (len := 3) (pc2 := 129) (by decide +kernel) rfl ?_
        refine Ev.blk (is := [.iinc 4 1]) (pc2 := 132) (L2 := [(2, v0), (0, v1), (0, v2), (0, v3), (0, w32 (v4 + 1)), (0, v5), (0, v6)]) (S2 := []) (h2 := h) (by decide +kernel) rfl trivial ?_
        refine Ev.jp (i := .goto (-107)) (len := 3) (pc2 := 25) (by decide +kernel) rfl ?_
        refine Ev.wk (L2 := [(2, v0), (0, v1), (0, v2), (0, v3), (0, w32 (v4 + 1)), (9, 0), (9, 0)]) (wkL_of ⟨Or.inl rfl, ⟨Or.inl rfl, ⟨Or.inl rfl, ⟨Or.inl rfl, ⟨Or.inl rfl, ⟨Or.inr rfl, ⟨Or.inr rfl, trivial⟩⟩⟩⟩⟩⟩⟩) ?_
        exact hk25 v0 v1 v2 v3 (w32 (v4 + 1)) h _ hx
      · have hx := hb hc
        clear ha hb hc
        refine Ev.blk (is := [.iload_n 2, .istore 6]) (pc2 := 99) (L2 := [(2, v0), (0, v1), (0, v2), (0, v3), (0, v4), (0, v5), (0, v2)]) (S2 := []) (h2 := h) (by decide +kernel) rfl trivial ?_
        refine Ev.wk (L2 := [(2, v0), (0, v1), (0, v2), (9, 0), (0, v4), (9, 0), (0, v2)]) (wkL_of ⟨Or.inl rfl, ⟨Or.inl rfl, ⟨Or.inl rfl, ⟨Or.inr rfl, ⟨Or.inl rfl, ⟨Or.inr rfl, ⟨Or.inl rfl, trivial⟩⟩⟩⟩⟩⟩⟩) ?_
        exact y_R_laysBases_99 hd FU v0 v1 v2 v4 v2 h _ hx
theorem y_R_laysBases_25 {sc : AS} {d : Nat} (hd : 2 ≤ d) : ∀ (fu : Nat) (v0 : Int) (v1 : Int) (v2 : Int) (v3 : Int) (v4 : Int) (h : AH) (r : (Int × AH)), R_laysBases_25 fu v0 v1 v2 v3 v4 h = some r → Ev sc d 193 25 [(2, v0), (0, v1), (0, v2), (0, v3), (0, v4), (9, 0), (9, 0)] [] h (some (0, r.1)) r.2 := by
  intro fu
  induction fu with
  | zero => intro v0 v1 v2 v3 v4 h r hx; unfold R_laysBases_25 at hx; cases hx
  | succ fu ih =>
    intro v0 v1 v2 v3 v4 h r hx
    unfold R_laysBases_25 at hx
    refine Ev.blk (is := [.iload 4, .sipush 999]) (pc2 := 30) (L2 := [(2, v0), (0, v1), (0, v2), (0, v3), (0, v4), (9, 0), (9, 0)]) (S2 := [(0, 999), (0, v4)]) (h2 := h) (by decide +kernel) rfl trivial ?_
    obtain ⟨ha, hb⟩ := bite hx
    clear hx
    refine Ev.br (i := .if_icmp .gt 105) (len := 3) (a := 135) (b := 33) (by decide +kernel) rfl Iff.rfl (fun hc => ?_) (fun hc => ?_)
    · have hx := ha hc
      clear ha hb hc
      refine Ev.blk (is := [.iconst 0]) (pc2 := 136) (L2 := [(2, v0), (0, v1), (0, v2), (0, v3), (0, v4), (9, 0), (9, 0)]) (S2 := [(0, 0)]) (h2 := h) (by decide +kernel) rfl trivial ?_
      cases hx
      exact Ev.ret (i := .ireturn) (len := 1) (by decide +kernel) rfl (finOf (t := some .boolean) rfl (bz0))
    · have hx := hb hc
      clear ha hb hc
      refine Ev.blk (is := [.iload_n 3, .i2l, .iload 4, .i2l]) (pc2 := 38) (L2 := [(2, v0), (0, v1), (0, v2), (0, v3), (0, v4), (9, 0), (9, 0)]) (S2 := [(1, v4), (1, v3)]) (h2 := h) (by decide +kernel) rfl trivial ?_
      obtain ⟨u1, hc, hx⟩ := bca hx
      refine Ev.call (args := [(1, v3), (1, v4)]) (S2 := []) (r1 := (some (0, u1))) (h1 := h) (i := .invokestatic 177) (by decide +kernel) rfl rfl (Nat.le_of_ble_eq_true rfl) (Or.inl rfl) (x_R_isOneBy (by omega) hc) ?_
      refine Ev.blk (is := [.istore 5, .iload_n 2, .istore 6]) (pc2 := 46) (L2 := [(2, v0), (0, v1), (0, v2), (0, v3), (0, v4), (0, u1), (0, v2)]) (S2 := []) (h2 := h) (by decide +kernel) rfl trivial ?_
      exact y_R_laysBases_46 hd ih FU v0 v1 v2 v3 v4 u1 v2 h _ hx
theorem x_R_laysBases {sc : AS} {d : Nat} (hd : 3 ≤ d) {v0 : Int} {v1 : Int} {h : AH} {r : (Int × AH)} (hx : R_laysBases v0 v1 h = some r) : Runs sc d 193 [(2, v0), (0, v1)] h (some (0, r.1)) r.2 := by
  obtain ⟨d, rfl⟩ : ∃ e, d = e + 1 := ⟨d - 1, by omega⟩
  have hd : 2 ≤ d := by omega
  unfold R_laysBases at hx
  refine ⟨⟨aM_193, rfl, Nat.le_of_ble_eq_true rfl⟩, ?_⟩
  show Ev sc d 193 0 [(2, v0), (0, v1), (9, 0), (9, 0), (9, 0), (9, 0), (9, 0)] [] h (some (0, r.1)) r.2
  obtain ⟨u1, hg, he, hx⟩ := bgd hx
  refine Ev.blk (is := [.sipush 9, .iload_n 1, .imul, .istore_n 2, .aload_n 0, .getfield 9208]) (pc2 := 9) (L2 := [(2, v0), (0, v1), (0, w32 (9 * v1)), (9, 0), (9, 0), (9, 0), (9, 0)]) (S2 := [(2, u1)]) (h2 := h) (by decide +kernel) (by subst he; rfl) (by exact hg) ?_
  clear hg he
  obtain ⟨u2, hg, he, hx⟩ := bgd hx
  refine Ev.blk (is := [.iload_n 1, .iaload]) (pc2 := 11) (L2 := [(2, v0), (0, v1), (0, w32 (9 * v1)), (9, 0), (9, 0), (9, 0), (9, 0)]) (S2 := [(0, u2)]) (h2 := h) (by decide +kernel) (by subst he; rfl) (by exact hg) ?_
  clear hg he
  obtain ⟨u3, hg, he, hx⟩ := bgd hx
  refine Ev.blk (is := [.istore_n 3, .aload_n 0, .getfield 9209]) (pc2 := 16) (L2 := [(2, v0), (0, v1), (0, w32 (9 * v1)), (0, u2), (9, 0), (9, 0), (9, 0)]) (S2 := [(2, u3)]) (h2 := h) (by decide +kernel) (by subst he; rfl) (by exact hg) ?_
  clear hg he
  obtain ⟨u4, hg, he, hx⟩ := bgd hx
  refine Ev.blk (is := [.iload_n 1, .iaload]) (pc2 := 18) (L2 := [(2, v0), (0, v1), (0, w32 (9 * v1)), (0, u2), (9, 0), (9, 0), (9, 0)]) (S2 := [(0, u4)]) (h2 := h) (by decide +kernel) (by subst he; rfl) (by exact hg) ?_
  clear hg he
  refine Ev.blk (is := [.iconst 1]) (pc2 := 19) (L2 := [(2, v0), (0, v1), (0, w32 (9 * v1)), (0, u2), (9, 0), (9, 0), (9, 0)]) (S2 := [(0, 1), (0, u4)]) (h2 := h) (by decide +kernel) rfl trivial ?_
  obtain ⟨ha, hb⟩ := bite hx
  clear hx
  refine Ev.br (i := .if_icmp .ne 118) (len := 3) (a := 22) (b := 137) (by decide +kernel) rfl Iff.rfl (fun hc => ?_) (fun hc => ?_)
  · have hx := ha hc
    clear ha hb hc
    refine Ev.blk (is := [.iconst 2, .istore 4]) (pc2 := 25) (L2 := [(2, v0), (0, v1), (0, w32 (9 * v1)), (0, u2), (0, 2), (9, 0), (9, 0)]) (S2 := []) (h2 := h) (by decide +kernel) rfl trivial ?_
    exact y_R_laysBases_25 hd FU v0 v1 (w32 (9 * v1)) u2 2 h _ hx
  · have hx := hb hc
    clear ha hb hc
    refine Ev.blk (is := [.iload_n 2, .istore 4]) (pc2 := 140) (L2 := [(2, v0), (0, v1), (0, w32 (9 * v1)), (0, u2), (0, w32 (9 * v1)), (9, 0), (9, 0)]) (S2 := []) (h2 := h) (by decide +kernel) rfl trivial ?_
    exact y_R_laysBases_140 hd FU v0 v1 (w32 (9 * v1)) u2 (w32 (9 * v1)) h _ hx
theorem y_R_laysPair_10 {sc : AS} {d : Nat} (hd : 3 ≤ d) {k2 : Int → Int → Int → AH → Option (Int × AH)} (hk2 : ∀ (v0 : Int) (v1 : Int) (v2 : Int) (h : AH) (r : (Int × AH)), k2 v0 v1 v2 h = some r → Ev sc d 194 2 [(2, v0), (0, v1), (0, v2), (9, 0)] [] h (some (0, r.1)) r.2) : ∀ (fu : Nat) (v0 : Int) (v1 : Int) (v2 : Int) (v3 : Int) (h : AH) (r : (Int × AH)), R_laysPair_10 k2 fu v0 v1 v2 v3 h = some r → Ev sc d 194 10 [(2, v0), (0, v1), (0, v2), (0, v3)] [] h (some (0, r.1)) r.2 := by
  intro fu
  induction fu with
  | zero => intro v0 v1 v2 v3 h r hx; unfold R_laysPair_10 at hx; cases hx
  | succ fu ih =>
    intro v0 v1 v2 v3 h r hx
    unfold R_laysPair_10 at hx
    refine Ev.blk (is := [.iload_n 3, .sipush 99]) (pc2 := 13) (L2 := [(2, v0), (0, v1), (0, v2), (0, v3)]) (S2 := [(0, 99), (0, v3)]) (h2 := h) (by decide +kernel) rfl trivial ?_
    obtain ⟨ha, hb⟩ := bite hx
    clear hx
    refine Ev.br (i := .if_icmp .gt 40) (len := 3) (a := 53) (b := 16) (by decide +kernel) rfl Iff.rfl (fun hc => ?_) (fun hc => ?_)
    · have hx := ha hc
      clear ha hb hc
      refine Ev.blk (is := [.iinc 2 1]) (pc2 := 56) (L2 := [(2, v0), (0, v1), (0, w32 (v2 + 1)), (0, v3)]) (S2 := []) (h2 := h) (by decide +kernel) rfl trivial ?_
      refine Ev.jp (i := .goto (-54)) (len := 3) (pc2 := 2) (by decide +kernel) rfl ?_
      refine Ev.wk (L2 := [(2, v0), (0, v1), (0, w32 (v2 + 1)), (9, 0)]) (wkL_of ⟨Or.inl rfl, ⟨Or.inl rfl, ⟨Or.inl rfl, ⟨Or.inr rfl, trivial⟩⟩⟩⟩) ?_
      exact hk2 v0 v1 (w32 (v2 + 1)) h _ hx
    · have hx := hb hc
      clear ha hb hc
      refine Ev.blk (is := [.aload_n 0, .iload_n 1, .iload_n 2, .i2l, .iload_n 3, .i2l]) (pc2 := 22) (L2 := [(2, v0), (0, v1), (0, v2), (0, v3)]) (S2 := [(1, v3), (1, v2), (0, v1), (2, v0)]) (h2 := h) (by decide +kernel) rfl trivial ?_
      obtain ⟨_, hg, -, hx⟩ := bgd hx
      obtain ⟨u1, hc, hx⟩ := bca hx
      refine Ev.call (args := [(2, v0), (0, v1), (1, v2), (1, v3)]) (S2 := []) (r1 := (some (0, u1.1))) (h1 := u1.2) (i := .invokevirtual 181) (by decide +kernel) rfl rfl (Nat.le_of_ble_eq_true rfl) (Or.inr (Or.inl ⟨rfl, hg, by decide +kernel⟩)) (x_R_wrongPair (by omega) hc) ?_
      obtain ⟨ha, hb⟩ := bite hx
      clear hx
      refine Ev.br (i := .ifCond .eq 6) (len := 3) (a := 31) (b := 28) (by decide +kernel) rfl Iff.rfl (fun hc => ?_) (fun hc => ?_)
      · have hx := ha hc
        clear ha hb hc
        obtain ⟨u2, hg, he, hx⟩ := bgd hx
        refine Ev.blk (is := [.aload_n 0, .getfield 9210]) (pc2 := 35) (L2 := [(2, v0), (0, v1), (0, v2), (0, v3)]) (S2 := [(2, u2)]) (h2 := u1.2) (by decide +kernel) (by subst he; rfl) (by exact hg) ?_
        clear hg he
        obtain ⟨h3, hg, he, hx⟩ := bgd hx
        refine Ev.blk (is := [.iload_n 1, .iload_n 2, .iastore]) (pc2 := 38) (L2 := [(2, v0), (0, v1), (0, v2), (0, v3)]) (S2 := []) (h2 := h3) (by decide +kernel) (by subst he; rfl) (by exact hg) ?_
        clear hg he
        obtain ⟨u4, hg, he, hx⟩ := bgd hx
        refine Ev.blk (is := [.aload_n 0, .getfield 9211]) (pc2 := 42) (L2 := [(2, v0), (0, v1), (0, v2), (0, v3)]) (S2 := [(2, u4)]) (h2 := h3) (by decide +kernel) (by subst he; rfl) (by exact hg) ?_
        clear hg he
        obtain ⟨h5, hg, he, hx⟩ := bgd hx
        refine Ev.blk (is := [.iload_n 1, .iload_n 3, .iastore]) (pc2 := 45) (L2 := [(2, v0), (0, v1), (0, v2), (0, v3)]) (S2 := []) (h2 := h5) (by decide +kernel) (by subst he; rfl) (by exact hg) ?_
        clear hg he
        refine Ev.blk (is := [.iconst 1]) (pc2 := 46) (L2 := [(2, v0), (0, v1), (0, v2), (0, v3)]) (S2 := [(0, 1)]) (h2 := h5) (by decide +kernel) rfl trivial ?_
        cases hx
        exact Ev.ret (i := .ireturn) (len := 1) (by decide +kernel) rfl (finOf (t := some .boolean) rfl (bz1))
      · have hx := hb hc
        clear ha hb hc
        refine Ev.jp (i := .goto 19) (len := 3) (pc2 := 47) (by decide +kernel) rfl ?_
        refine Ev.blk (is := [.iinc 3 1]) (pc2 := 50) (L2 := [(2, v0), (0, v1), (0, v2), (0, w32 (v3 + 1))]) (S2 := []) (h2 := u1.2) (by decide +kernel) rfl trivial ?_
        refine Ev.jp (i := .goto (-40)) (len := 3) (pc2 := 10) (by decide +kernel) rfl ?_
        exact ih v0 v1 v2 (w32 (v3 + 1)) u1.2 _ hx
theorem y_R_laysPair_2 {sc : AS} {d : Nat} (hd : 3 ≤ d) : ∀ (fu : Nat) (v0 : Int) (v1 : Int) (v2 : Int) (h : AH) (r : (Int × AH)), R_laysPair_2 fu v0 v1 v2 h = some r → Ev sc d 194 2 [(2, v0), (0, v1), (0, v2), (9, 0)] [] h (some (0, r.1)) r.2 := by
  intro fu
  induction fu with
  | zero => intro v0 v1 v2 h r hx; unfold R_laysPair_2 at hx; cases hx
  | succ fu ih =>
    intro v0 v1 v2 h r hx
    unfold R_laysPair_2 at hx
    refine Ev.blk (is := [.iload_n 2, .sipush 99]) (pc2 := 5) (L2 := [(2, v0), (0, v1), (0, v2), (9, 0)]) (S2 := [(0, 99), (0, v2)]) (h2 := h) (by decide +kernel) rfl trivial ?_
    obtain ⟨ha, hb⟩ := bite hx
    clear hx
    refine Ev.br (i := .if_icmp .gt 54) (len := 3) (a := 59) (b := 8) (by decide +kernel) rfl Iff.rfl (fun hc => ?_) (fun hc => ?_)
    · have hx := ha hc
      clear ha hb hc
      refine Ev.blk (is := [.iconst 0]) (pc2 := 60) (L2 := [(2, v0), (0, v1), (0, v2), (9, 0)]) (S2 := [(0, 0)]) (h2 := h) (by decide +kernel) rfl trivial ?_
      cases hx
      exact Ev.ret (i := .ireturn) (len := 1) (by decide +kernel) rfl (finOf (t := some .boolean) rfl (bz0))
    · have hx := hb hc
      clear ha hb hc
      refine Ev.blk (is := [.iconst 1, .istore_n 3]) (pc2 := 10) (L2 := [(2, v0), (0, v1), (0, v2), (0, 1)]) (S2 := []) (h2 := h) (by decide +kernel) rfl trivial ?_
      exact y_R_laysPair_10 hd ih FU v0 v1 v2 1 h _ hx
theorem x_R_laysPair {sc : AS} {d : Nat} (hd : 4 ≤ d) {v0 : Int} {v1 : Int} {h : AH} {r : (Int × AH)} (hx : R_laysPair v0 v1 h = some r) : Runs sc d 194 [(2, v0), (0, v1)] h (some (0, r.1)) r.2 := by
  obtain ⟨d, rfl⟩ : ∃ e, d = e + 1 := ⟨d - 1, by omega⟩
  have hd : 3 ≤ d := by omega
  unfold R_laysPair at hx
  refine ⟨⟨aM_194, rfl, Nat.le_of_ble_eq_true rfl⟩, ?_⟩
  show Ev sc d 194 0 [(2, v0), (0, v1), (9, 0), (9, 0)] [] h (some (0, r.1)) r.2
  refine Ev.blk (is := [.iconst 1, .istore_n 2]) (pc2 := 2) (L2 := [(2, v0), (0, v1), (0, 1), (9, 0)]) (S2 := []) (h2 := h) (by decide +kernel) rfl trivial ?_
  exact y_R_laysPair_2 hd FU v0 v1 1 h _ hx
theorem x_R_works {sc : AS} {d : Nat} (hd : 6 ≤ d) {v0 : Int} {v1 : Int} {v2 : Int} {h : AH} {r : (Int × AH)} (hx : R_works v0 v1 v2 h = some r) : Runs sc d 185 [(2, v0), (0, v1), (0, v2)] h (some (0, r.1)) r.2 := by
  obtain ⟨d, rfl⟩ : ∃ e, d = e + 1 := ⟨d - 1, by omega⟩
  have hd : 5 ≤ d := by omega
  unfold R_works at hx
  refine ⟨⟨aM_185, rfl, Nat.le_of_ble_eq_true rfl⟩, ?_⟩
  show Ev sc d 185 0 [(2, v0), (0, v1), (0, v2)] [] h (some (0, r.1)) r.2
  refine Ev.blk (is := [.aload_n 0, .sipush 115, .iload_n 1, .iload_n 2]) (pc2 := 5) (L2 := [(2, v0), (0, v1), (0, v2)]) (S2 := [(0, v2), (0, v1), (0, 115), (2, v0)]) (h2 := h) (by decide +kernel) rfl trivial ?_
  obtain ⟨_, hg, -, hx⟩ := bgd hx
  obtain ⟨h2, hc, hx⟩ := bca hx
  refine Ev.call (args := [(2, v0), (0, 115), (0, v1), (0, v2)]) (S2 := []) (r1 := none) (h1 := h2) (i := .invokevirtual 186) (by decide +kernel) rfl rfl (Nat.le_of_ble_eq_true rfl) (Or.inr (Or.inl ⟨rfl, hg, by decide +kernel⟩)) (x_R_begins (by omega) hc) ?_
  refine Ev.blk (is := [.iload_n 1, .i2l]) (pc2 := 10) (L2 := [(2, v0), (0, v1), (0, v2)]) (S2 := [(1, v1)]) (h2 := h2) (by decide +kernel) rfl trivial ?_
  obtain ⟨u3, hc, hx⟩ := bca hx
  refine Ev.call (args := [(1, v1)]) (S2 := []) (r1 := (some (0, u3))) (h1 := h2) (i := .invokestatic 166) (by decide +kernel) rfl rfl (Nat.le_of_ble_eq_true rfl) (Or.inl rfl) (x_R_isPrime (by omega) hc) ?_
  obtain ⟨ha, hb⟩ := bite hx
  clear hx
  refine Ev.br (i := .ifCond .ne 5) (len := 3) (a := 16) (b := 18) (by decide +kernel) rfl Iff.rfl (fun hc => ?_) (fun hc => ?_)
  · have hx := ha hc
    clear ha hb hc
    refine Ev.blk (is := [.iconst 0]) (pc2 := 17) (L2 := [(2, v0), (0, v1), (0, v2)]) (S2 := [(0, 0)]) (h2 := h2) (by decide +kernel) rfl trivial ?_
    cases hx
    exact Ev.ret (i := .ireturn) (len := 1) (by decide +kernel) rfl (finOf (t := some .boolean) rfl (bz0))
  · have hx := hb hc
    clear ha hb hc
    refine Ev.blk (is := [.iload_n 2]) (pc2 := 19) (L2 := [(2, v0), (0, v1), (0, v2)]) (S2 := [(0, v2)]) (h2 := h2) (by decide +kernel) rfl trivial ?_
    obtain ⟨ha, hb⟩ := bite hx
    clear hx
    refine Ev.br (i := .ifCond .ne 15) (len := 3) (a := 22) (b := 34) (by decide +kernel) rfl Iff.rfl (fun hc => ?_) (fun hc => ?_)
    · have hx := ha hc
      clear ha hb hc
      refine Ev.blk (is := [.iload_n 1, .sipush 100]) (pc2 := 25) (L2 := [(2, v0), (0, v1), (0, v2)]) (S2 := [(0, 100), (0, v1)]) (h2 := h2) (by decide +kernel) rfl trivial ?_
      obtain ⟨ha, hb⟩ := bite hx
      clear hx
      refine Ev.br (i := .if_icmp .ge 7) (len := 3) (a := 28) (b := 32) (by decide +kernel) rfl Iff.rfl (fun hc => ?_) (fun hc => ?_)
      · have hx := ha hc
        clear ha hb hc
        refine Ev.blk (is := [.iconst 1]) (pc2 := 29) (L2 := [(2, v0), (0, v1), (0, v2)]) (S2 := [(0, 1)]) (h2 := h2) (by decide +kernel) rfl trivial ?_
        refine Ev.jp (i := .goto 4) (len := 3) (pc2 := 33) (by decide +kernel) rfl ?_
        cases hx
        exact Ev.ret (i := .ireturn) (len := 1) (by decide +kernel) rfl (finOf (t := some .boolean) rfl (bz1))
      · have hx := hb hc
        clear ha hb hc
        refine Ev.blk (is := [.iconst 0]) (pc2 := 33) (L2 := [(2, v0), (0, v1), (0, v2)]) (S2 := [(0, 0)]) (h2 := h2) (by decide +kernel) rfl trivial ?_
        cases hx
        exact Ev.ret (i := .ireturn) (len := 1) (by decide +kernel) rfl (finOf (t := some .boolean) rfl (bz0))
    · have hx := hb hc
      clear ha hb hc
      refine Ev.blk (is := [.iload_n 1, .iconst 2]) (pc2 := 36) (L2 := [(2, v0), (0, v1), (0, v2)]) (S2 := [(0, 2), (0, v1)]) (h2 := h2) (by decide +kernel) rfl trivial ?_
      obtain ⟨ha, hb⟩ := bite hx
      clear hx
      refine Ev.br (i := .if_icmp .ne 5) (len := 3) (a := 39) (b := 41) (by decide +kernel) rfl Iff.rfl (fun hc => ?_) (fun hc => ?_)
      · have hx := ha hc
        clear ha hb hc
        refine Ev.blk (is := [.iconst 0]) (pc2 := 40) (L2 := [(2, v0), (0, v1), (0, v2)]) (S2 := [(0, 0)]) (h2 := h2) (by decide +kernel) rfl trivial ?_
        cases hx
        exact Ev.ret (i := .ireturn) (len := 1) (by decide +kernel) rfl (finOf (t := some .boolean) rfl (bz0))
      · have hx := hb hc
        clear ha hb hc
        refine Ev.blk (is := [.aload_n 0, .sipush 115]) (pc2 := 44) (L2 := [(2, v0), (0, v1), (0, v2)]) (S2 := [(0, 115), (2, v0)]) (h2 := h2) (by decide +kernel) rfl trivial ?_
        obtain ⟨_, hg, -, hx⟩ := bgd hx
        obtain ⟨h5, hc, hx⟩ := bca hx
        refine Ev.call (args := [(2, v0), (0, 115)]) (S2 := []) (r1 := none) (h1 := h5) (i := .invokevirtual 187) (by decide +kernel) rfl rfl (Nat.le_of_ble_eq_true rfl) (Or.inr (Or.inl ⟨rfl, hg, by decide +kernel⟩)) (x_R_laysRows (by omega) hc) ?_
        refine Ev.blk (is := [.aload_n 0, .sipush 115]) (pc2 := 50) (L2 := [(2, v0), (0, v1), (0, v2)]) (S2 := [(0, 115), (2, v0)]) (h2 := h5) (by decide +kernel) rfl trivial ?_
        obtain ⟨_, hg, -, hx⟩ := bgd hx
        obtain ⟨u6, hc, hx⟩ := bca hx
        refine Ev.call (args := [(2, v0), (0, 115)]) (S2 := []) (r1 := (some (0, u6.1))) (h1 := u6.2) (i := .invokevirtual 193) (by decide +kernel) rfl rfl (Nat.le_of_ble_eq_true rfl) (Or.inr (Or.inl ⟨rfl, hg, by decide +kernel⟩)) (x_R_laysBases (by omega) hc) ?_
        obtain ⟨ha, hb⟩ := bite hx
        clear hx
        refine Ev.br (i := .ifCond .eq 23) (len := 3) (a := 76) (b := 56) (by decide +kernel) rfl Iff.rfl (fun hc => ?_) (fun hc => ?_)
        · have hx := ha hc
          clear ha hb hc
          refine Ev.blk (is := [.iconst 0]) (pc2 := 77) (L2 := [(2, v0), (0, v1), (0, v2)]) (S2 := [(0, 0)]) (h2 := u6.2) (by decide +kernel) rfl trivial ?_
          cases hx
          exact Ev.ret (i := .ireturn) (len := 1) (by decide +kernel) rfl (finOf (t := some .boolean) rfl (bz0))
        · have hx := hb hc
          clear ha hb hc
          refine Ev.blk (is := [.iload_n 2]) (pc2 := 57) (L2 := [(2, v0), (0, v1), (0, v2)]) (S2 := [(0, v2)]) (h2 := u6.2) (by decide +kernel) rfl trivial ?_
          obtain ⟨u7, hc, hx⟩ := bca hx
          refine Ev.call (args := [(0, v2)]) (S2 := []) (r1 := (some (0, u7))) (h1 := u6.2) (i := .invokestatic 180) (by decide +kernel) rfl rfl (Nat.le_of_ble_eq_true rfl) (Or.inl rfl) (x_R_hasPair (by omega) hc) ?_
          obtain ⟨ha, hb⟩ := bite hx
          clear hx
          refine Ev.br (i := .ifCond .eq 12) (len := 3) (a := 72) (b := 63) (by decide +kernel) rfl Iff.rfl (fun hc => ?_) (fun hc => ?_)
          · have hx := ha hc
            clear ha hb hc
            refine Ev.blk (is := [.iconst 1]) (pc2 := 73) (L2 := [(2, v0), (0, v1), (0, v2)]) (S2 := [(0, 1)]) (h2 := u6.2) (by decide +kernel) rfl trivial ?_
            refine Ev.jp (i := .goto 4) (len := 3) (pc2 := 77) (by decide +kernel) rfl ?_
            cases hx
            exact Ev.ret (i := .ireturn) (len := 1) (by decide +kernel) rfl (finOf (t := some .boolean) rfl (bz1))
          · have hx := hb hc
            clear ha hb hc
            refine Ev.blk (is := [.aload_n 0, .sipush 115]) (pc2 := 66) (L2 := [(2, v0), (0, v1), (0, v2)]) (S2 := [(0, 115), (2, v0)]) (h2 := u6.2) (by decide +kernel) rfl trivial ?_
            obtain ⟨_, hg, -, hx⟩ := bgd hx
            obtain ⟨u8, hc, hx⟩ := bca hx
            refine Ev.call (args := [(2, v0), (0, 115)]) (S2 := []) (r1 := (some (0, u8.1))) (h1 := u8.2) (i := .invokevirtual 194) (by decide +kernel) rfl rfl (Nat.le_of_ble_eq_true rfl) (Or.inr (Or.inl ⟨rfl, hg, by decide +kernel⟩)) (x_R_laysPair (by omega) hc) ?_
            obtain ⟨ha, hb⟩ := bite hx
            clear hx
            refine Ev.br (i := .ifCond .eq 7) (len := 3) (a := 76) (b := 72) (by decide +kernel) rfl Iff.rfl (fun hc => ?_) (fun hc => ?_)
            · have hx := ha hc
              clear ha hb hc
              refine Ev.blk (is := [.iconst 0]) (pc2 := 77) (L2 := [(2, v0), (0, v1), (0, v2)]) (S2 := [(0, 0)]) (h2 := u8.2) (by decide +kernel) rfl trivial ?_
              cases hx
              exact Ev.ret (i := .ireturn) (len := 1) (by decide +kernel) rfl (finOf (t := some .boolean) rfl (bz0))
            · have hx := hb hc
              clear ha hb hc
              refine Ev.blk (is := [.iconst 1]) (pc2 := 73) (L2 := [(2, v0), (0, v1), (0, v2)]) (S2 := [(0, 1)]) (h2 := u8.2) (by decide +kernel) rfl trivial ?_
              refine Ev.jp (i := .goto 4) (len := 3) (pc2 := 77) (by decide +kernel) rfl ?_
              cases hx
              exact Ev.ret (i := .ireturn) (len := 1) (by decide +kernel) rfl (finOf (t := some .boolean) rfl (bz1))
theorem y_R_missing_54 {sc : AS} {d : Nat} (hd : 1 ≤ d) : ∀ (fu : Nat) (v0 : Int) (v1 : Int) (h : AH) (r : Int), R_missing_54 fu v0 v1 h = some r → Ev sc d 195 54 [(2, v0), (0, v1)] [] h (some (0, r)) h := by
  intro fu
  induction fu with
  | zero => intro v0 v1 h r hx; unfold R_missing_54 at hx; cases hx
  | succ fu ih =>
    intro v0 v1 h r hx
    unfold R_missing_54 at hx
    obtain ⟨u1, hg, he, hx⟩ := bgd hx
    refine Ev.blk (is := [.iload_n 1, .aload_n 0, .getfield 9213]) (pc2 := 59) (L2 := [(2, v0), (0, v1)]) (S2 := [(2, u1), (0, v1)]) (h2 := h) (by decide +kernel) (by subst he; rfl) (by exact hg) ?_
    clear hg he
    obtain ⟨u2, hg, he, hx⟩ := bgd hx
    refine Ev.blk (is := [.sipush 115, .iaload]) (pc2 := 62) (L2 := [(2, v0), (0, v1)]) (S2 := [(0, u2), (0, v1)]) (h2 := h) (by decide +kernel) (by subst he; rfl) (by exact hg) ?_
    clear hg he
    obtain ⟨ha, hb⟩ := bite hx
    clear hx
    refine Ev.br (i := .if_icmp .ge 42) (len := 3) (a := 65) (b := 104) (by decide +kernel) rfl Iff.rfl (fun hc => ?_) (fun hc => ?_)
    · have hx := ha hc
      clear ha hb hc
      obtain ⟨u3, hg, he, hx⟩ := bgd hx
      refine Ev.blk (is := [.aload_n 0, .aload_n 0, .getfield 9217]) (pc2 := 70) (L2 := [(2, v0), (0, v1)]) (S2 := [(2, u3), (2, v0)]) (h2 := h) (by decide +kernel) (by subst he; rfl) (by exact hg) ?_
      clear hg he
      obtain ⟨u4, hg, he, hx⟩ := bgd hx
      refine Ev.blk (is := [.sipush 1035, .iload_n 1, .iadd, .iaload]) (pc2 := 76) (L2 := [(2, v0), (0, v1)]) (S2 := [(0, u4), (2, v0)]) (h2 := h) (by decide +kernel) (by subst he; rfl) (by exact hg) ?_
      clear hg he
      obtain ⟨u5, hg, he, hx⟩ := bgd hx
      refine Ev.blk (is := [.aload_n 0, .getfield 9007]) (pc2 := 80) (L2 := [(2, v0), (0, v1)]) (S2 := [(0, u5), (0, u4), (2, v0)]) (h2 := h) (by decide +kernel) (by subst he; rfl) (by exact hg) ?_
      clear hg he
      obtain ⟨_, hg, -, hx⟩ := bgd hx
      obtain ⟨u6, hc, hx⟩ := bca hx
      refine Ev.call (args := [(2, v0), (0, u4), (0, u5)]) (S2 := []) (r1 := (some (0, u6))) (h1 := h) (i := .invokevirtual 169) (by decide +kernel) rfl rfl (Nat.le_of_ble_eq_true rfl) (Or.inr (Or.inl ⟨rfl, hg, by decide +kernel⟩)) (x_R_lineFor (by omega) hc) ?_
      refine Ev.blk (is := [.iconst (-1)]) (pc2 := 84) (L2 := [(2, v0), (0, v1)]) (S2 := [(0, (-1)), (0, u6)]) (h2 := h) (by decide +kernel) rfl trivial ?_
      obtain ⟨ha, hb⟩ := bite hx
      clear hx
      refine Ev.br (i := .if_icmp .ne 14) (len := 3) (a := 87) (b := 98) (by decide +kernel) rfl Iff.rfl (fun hc => ?_) (fun hc => ?_)
      · have hx := ha hc
        clear ha hb hc
        obtain ⟨u7, hg, he, hx⟩ := bgd hx
        refine Ev.blk (is := [.aload_n 0, .getfield 9217]) (pc2 := 91) (L2 := [(2, v0), (0, v1)]) (S2 := [(2, u7)]) (h2 := h) (by decide +kernel) (by subst he; rfl) (by exact hg) ?_
        clear hg he
        obtain ⟨u8, hg, he, hx⟩ := bgd hx
        refine Ev.blk (is := [.sipush 1035, .iload_n 1, .iadd, .iaload]) (pc2 := 97) (L2 := [(2, v0), (0, v1)]) (S2 := [(0, u8)]) (h2 := h) (by decide +kernel) (by subst he; rfl) (by exact hg) ?_
        clear hg he
        cases hx
        exact Ev.ret (i := .ireturn) (len := 1) (by decide +kernel) rfl (finOf (t := some .int) rfl (trivial))
      · have hx := hb hc
        clear ha hb hc
        refine Ev.blk (is := [.iinc 1 1]) (pc2 := 101) (L2 := [(2, v0), (0, w32 (v1 + 1))]) (S2 := []) (h2 := h) (by decide +kernel) rfl trivial ?_
        refine Ev.jp (i := .goto (-47)) (len := 3) (pc2 := 54) (by decide +kernel) rfl ?_
        exact ih v0 (w32 (v1 + 1)) h _ hx
    · have hx := hb hc
      clear ha hb hc
      refine Ev.blk (is := [.iconst 0]) (pc2 := 105) (L2 := [(2, v0), (0, v1)]) (S2 := [(0, 0)]) (h2 := h) (by decide +kernel) rfl trivial ?_
      cases hx
      exact Ev.ret (i := .ireturn) (len := 1) (by decide +kernel) rfl (finOf (t := some .int) rfl (trivial))
theorem y_R_missing_2 {sc : AS} {d : Nat} (hd : 1 ≤ d) : ∀ (fu : Nat) (v0 : Int) (v1 : Int) (h : AH) (r : Int), R_missing_2 fu v0 v1 h = some r → Ev sc d 195 2 [(2, v0), (0, v1)] [] h (some (0, r)) h := by
  intro fu
  induction fu with
  | zero => intro v0 v1 h r hx; unfold R_missing_2 at hx; cases hx
  | succ fu ih =>
    intro v0 v1 h r hx
    unfold R_missing_2 at hx
    obtain ⟨u1, hg, he, hx⟩ := bgd hx
    refine Ev.blk (is := [.iload_n 1, .aload_n 0, .getfield 9212]) (pc2 := 7) (L2 := [(2, v0), (0, v1)]) (S2 := [(2, u1), (0, v1)]) (h2 := h) (by decide +kernel) (by subst he; rfl) (by exact hg) ?_
    clear hg he
    obtain ⟨u2, hg, he, hx⟩ := bgd hx
    refine Ev.blk (is := [.sipush 115, .iaload]) (pc2 := 10) (L2 := [(2, v0), (0, v1)]) (S2 := [(0, u2), (0, v1)]) (h2 := h) (by decide +kernel) (by subst he; rfl) (by exact hg) ?_
    clear hg he
    obtain ⟨ha, hb⟩ := bite hx
    clear hx
    refine Ev.br (i := .if_icmp .ge 42) (len := 3) (a := 13) (b := 52) (by decide +kernel) rfl Iff.rfl (fun hc => ?_) (fun hc => ?_)
    · have hx := ha hc
      clear ha hb hc
      obtain ⟨u3, hg, he, hx⟩ := bgd hx
      refine Ev.blk (is := [.aload_n 0, .aload_n 0, .getfield 9214]) (pc2 := 18) (L2 := [(2, v0), (0, v1)]) (S2 := [(2, u3), (2, v0)]) (h2 := h) (by decide +kernel) (by subst he; rfl) (by exact hg) ?_
      clear hg he
      obtain ⟨u4, hg, he, hx⟩ := bgd hx
      refine Ev.blk (is := [.sipush 1035, .iload_n 1, .iadd, .iaload]) (pc2 := 24) (L2 := [(2, v0), (0, v1)]) (S2 := [(0, u4), (2, v0)]) (h2 := h) (by decide +kernel) (by subst he; rfl) (by exact hg) ?_
      clear hg he
      obtain ⟨u5, hg, he, hx⟩ := bgd hx
      refine Ev.blk (is := [.aload_n 0, .getfield 9007]) (pc2 := 28) (L2 := [(2, v0), (0, v1)]) (S2 := [(0, u5), (0, u4), (2, v0)]) (h2 := h) (by decide +kernel) (by subst he; rfl) (by exact hg) ?_
      clear hg he
      obtain ⟨_, hg, -, hx⟩ := bgd hx
      obtain ⟨u6, hc, hx⟩ := bca hx
      refine Ev.call (args := [(2, v0), (0, u4), (0, u5)]) (S2 := []) (r1 := (some (0, u6))) (h1 := h) (i := .invokevirtual 169) (by decide +kernel) rfl rfl (Nat.le_of_ble_eq_true rfl) (Or.inr (Or.inl ⟨rfl, hg, by decide +kernel⟩)) (x_R_lineFor (by omega) hc) ?_
      refine Ev.blk (is := [.iconst (-1)]) (pc2 := 32) (L2 := [(2, v0), (0, v1)]) (S2 := [(0, (-1)), (0, u6)]) (h2 := h) (by decide +kernel) rfl trivial ?_
      obtain ⟨ha, hb⟩ := bite hx
      clear hx
      refine Ev.br (i := .if_icmp .ne 14) (len := 3) (a := 35) (b := 46) (by decide +kernel) rfl Iff.rfl (fun hc => ?_) (fun hc => ?_)
      · have hx := ha hc
        clear ha hb hc
        obtain ⟨u7, hg, he, hx⟩ := bgd hx
        refine Ev.blk (is := [.aload_n 0, .getfield 9214]) (pc2 := 39) (L2 := [(2, v0), (0, v1)]) (S2 := [(2, u7)]) (h2 := h) (by decide +kernel) (by subst he; rfl) (by exact hg) ?_
        clear hg he
        obtain ⟨u8, hg, he, hx⟩ := bgd hx
        refine Ev.blk (is := [.sipush 1035, .iload_n 1, .iadd, .iaload]) (pc2 := 45) (L2 := [(2, v0), (0, v1)]) (S2 := [(0, u8)]) (h2 := h) (by decide +kernel) (by subst he; rfl) (by exact hg) ?_
        clear hg he
        cases hx
        exact Ev.ret (i := .ireturn) (len := 1) (by decide +kernel) rfl (finOf (t := some .int) rfl (trivial))
      · have hx := hb hc
        clear ha hb hc
        refine Ev.blk (is := [.iinc 1 1]) (pc2 := 49) (L2 := [(2, v0), (0, w32 (v1 + 1))]) (S2 := []) (h2 := h) (by decide +kernel) rfl trivial ?_
        refine Ev.jp (i := .goto (-47)) (len := 3) (pc2 := 2) (by decide +kernel) rfl ?_
        exact ih v0 (w32 (v1 + 1)) h _ hx
    · have hx := hb hc
      clear ha hb hc
      refine Ev.blk (is := [.iconst 0, .istore_n 1]) (pc2 := 54) (L2 := [(2, v0), (0, 0)]) (S2 := []) (h2 := h) (by decide +kernel) rfl trivial ?_
      exact y_R_missing_54 hd FU v0 0 h _ hx
theorem x_R_missing {sc : AS} {d : Nat} (hd : 2 ≤ d) {v0 : Int} {h : AH} {r : Int} (hx : R_missing v0 h = some r) : Runs sc d 195 [(2, v0)] h (some (0, r)) h := by
  obtain ⟨d, rfl⟩ : ∃ e, d = e + 1 := ⟨d - 1, by omega⟩
  have hd : 1 ≤ d := by omega
  unfold R_missing at hx
  refine ⟨⟨aM_195, rfl, Nat.le_of_ble_eq_true rfl⟩, ?_⟩
  show Ev sc d 195 0 [(2, v0), (9, 0)] [] h (some (0, r)) h
  refine Ev.blk (is := [.iconst 0, .istore_n 1]) (pc2 := 2) (L2 := [(2, v0), (0, 0)]) (S2 := []) (h2 := h) (by decide +kernel) rfl trivial ?_
  exact y_R_missing_2 hd FU v0 0 h _ hx
theorem y_R_becomes_99 {sc : AS} {d : Nat} (hd : 1 ≤ d) : ∀ (fu : Nat) (v0 : Int) (v1 : Int) (v2 : Int) (v3 : Int) (h : AH) (r : AH), R_becomes_99 fu v0 v1 v2 v3 h = some r → Ev sc d 196 99 [(2, v0), (0, v1), (0, v2), (0, v3)] [] h none r := by
  intro fu
  induction fu with
  | zero => intro v0 v1 v2 v3 h r hx; unfold R_becomes_99 at hx; cases hx
  | succ fu ih =>
    intro v0 v1 v2 v3 h r hx
    unfold R_becomes_99 at hx
    obtain ⟨u1, hg, he, hx⟩ := bgd hx
    refine Ev.blk (is := [.iload_n 3, .aload_n 0, .getfield 9213]) (pc2 := 104) (L2 := [(2, v0), (0, v1), (0, v2), (0, v3)]) (S2 := [(2, u1), (0, v3)]) (h2 := h) (by decide +kernel) (by subst he; rfl) (by exact hg) ?_
    clear hg he
    obtain ⟨u2, hg, he, hx⟩ := bgd hx
    refine Ev.blk (is := [.iload_n 2, .iaload]) (pc2 := 106) (L2 := [(2, v0), (0, v1), (0, v2), (0, v3)]) (S2 := [(0, u2), (0, v3)]) (h2 := h) (by decide +kernel) (by subst he; rfl) (by exact hg) ?_
    clear hg he
    obtain ⟨ha, hb⟩ := bite hx
    clear hx
    refine Ev.br (i := .if_icmp .ge 36) (len := 3) (a := 109) (b := 142) (by decide +kernel) rfl Iff.rfl (fun hc => ?_) (fun hc => ?_)
    · have hx := ha hc
      clear ha hb hc
      obtain ⟨u3, hg, he, hx⟩ := bgd hx
      refine Ev.blk (is := [.aload_n 0, .iload_n 1, .aload_n 0, .getfield 9217]) (pc2 := 115) (L2 := [(2, v0), (0, v1), (0, v2), (0, v3)]) (S2 := [(2, u3), (0, v1), (2, v0)]) (h2 := h) (by decide +kernel) (by subst he; rfl) (by exact hg) ?_
      clear hg he
      obtain ⟨u4, hg, he, hx⟩ := bgd hx
      refine Ev.blk (is := [.sipush 9, .iload_n 2, .imul, .iload_n 3, .iadd, .iaload]) (pc2 := 122) (L2 := [(2, v0), (0, v1), (0, v2), (0, v3)]) (S2 := [(0, u4), (0, v1), (2, v0)]) (h2 := h) (by decide +kernel) (by subst he; rfl) (by exact hg) ?_
      clear hg he
      obtain ⟨u5, hg, he, hx⟩ := bgd hx
      refine Ev.blk (is := [.aload_n 0, .getfield 9218]) (pc2 := 126) (L2 := [(2, v0), (0, v1), (0, v2), (0, v3)]) (S2 := [(2, u5), (0, u4), (0, v1), (2, v0)]) (h2 := h) (by decide +kernel) (by subst he; rfl) (by exact hg) ?_
      clear hg he
      obtain ⟨u6, hg, he, hx⟩ := bgd hx
      refine Ev.blk (is := [.sipush 9, .iload_n 2, .imul, .iload_n 3, .iadd, .iaload]) (pc2 := 133) (L2 := [(2, v0), (0, v1), (0, v2), (0, v3)]) (S2 := [(0, u6), (0, u4), (0, v1), (2, v0)]) (h2 := h) (by decide +kernel) (by subst he; rfl) (by exact hg) ?_
      clear hg he
      obtain ⟨_, hg, -, hx⟩ := bgd hx
      obtain ⟨h8, hc, hx⟩ := bca hx
      refine Ev.call (args := [(2, v0), (0, v1), (0, u4), (0, u6)]) (S2 := []) (r1 := none) (h1 := h8) (i := .invokevirtual 190) (by decide +kernel) rfl rfl (Nat.le_of_ble_eq_true rfl) (Or.inr (Or.inl ⟨rfl, hg, by decide +kernel⟩)) (x_R_addsUp (by omega) hc) ?_
      refine Ev.blk (is := [.iinc 3 1]) (pc2 := 139) (L2 := [(2, v0), (0, v1), (0, v2), (0, w32 (v3 + 1))]) (S2 := []) (h2 := h8) (by decide +kernel) rfl trivial ?_
      refine Ev.jp (i := .goto (-40)) (len := 3) (pc2 := 99) (by decide +kernel) rfl ?_
      exact ih v0 v1 v2 (w32 (v3 + 1)) h8 _ hx
    · have hx := hb hc
      clear ha hb hc
      cases hx
      exact Ev.ret (i := .return_) (len := 1) (by decide +kernel) rfl (finOf (t := none) rfl (trivial))
theorem y_R_becomes_43 {sc : AS} {d : Nat} (hd : 1 ≤ d) : ∀ (fu : Nat) (v0 : Int) (v1 : Int) (v2 : Int) (v3 : Int) (h : AH) (r : AH), R_becomes_43 fu v0 v1 v2 v3 h = some r → Ev sc d 196 43 [(2, v0), (0, v1), (0, v2), (0, v3)] [] h none r := by
  intro fu
  induction fu with
  | zero => intro v0 v1 v2 v3 h r hx; unfold R_becomes_43 at hx; cases hx
  | succ fu ih =>
    intro v0 v1 v2 v3 h r hx
    unfold R_becomes_43 at hx
    obtain ⟨u1, hg, he, hx⟩ := bgd hx
    refine Ev.blk (is := [.iload_n 3, .aload_n 0, .getfield 9212]) (pc2 := 48) (L2 := [(2, v0), (0, v1), (0, v2), (0, v3)]) (S2 := [(2, u1), (0, v3)]) (h2 := h) (by decide +kernel) (by subst he; rfl) (by exact hg) ?_
    clear hg he
    obtain ⟨u2, hg, he, hx⟩ := bgd hx
    refine Ev.blk (is := [.iload_n 2, .iaload]) (pc2 := 50) (L2 := [(2, v0), (0, v1), (0, v2), (0, v3)]) (S2 := [(0, u2), (0, v3)]) (h2 := h) (by decide +kernel) (by subst he; rfl) (by exact hg) ?_
    clear hg he
    obtain ⟨ha, hb⟩ := bite hx
    clear hx
    refine Ev.br (i := .if_icmp .ge 47) (len := 3) (a := 53) (b := 97) (by decide +kernel) rfl Iff.rfl (fun hc => ?_) (fun hc => ?_)
    · have hx := ha hc
      clear ha hb hc
      obtain ⟨u3, hg, he, hx⟩ := bgd hx
      refine Ev.blk (is := [.aload_n 0, .iload_n 1, .aload_n 0, .getfield 9214]) (pc2 := 59) (L2 := [(2, v0), (0, v1), (0, v2), (0, v3)]) (S2 := [(2, u3), (0, v1), (2, v0)]) (h2 := h) (by decide +kernel) (by subst he; rfl) (by exact hg) ?_
      clear hg he
      obtain ⟨u4, hg, he, hx⟩ := bgd hx
      refine Ev.blk (is := [.sipush 9, .iload_n 2, .imul, .iload_n 3, .iadd, .iaload]) (pc2 := 66) (L2 := [(2, v0), (0, v1), (0, v2), (0, v3)]) (S2 := [(0, u4), (0, v1), (2, v0)]) (h2 := h) (by decide +kernel) (by subst he; rfl) (by exact hg) ?_
      clear hg he
      obtain ⟨u5, hg, he, hx⟩ := bgd hx
      refine Ev.blk (is := [.aload_n 0, .getfield 9215]) (pc2 := 70) (L2 := [(2, v0), (0, v1), (0, v2), (0, v3)]) (S2 := [(2, u5), (0, u4), (0, v1), (2, v0)]) (h2 := h) (by decide +kernel) (by subst he; rfl) (by exact hg) ?_
      clear hg he
      obtain ⟨u6, hg, he, hx⟩ := bgd hx
      refine Ev.blk (is := [.sipush 9, .iload_n 2, .imul, .iload_n 3, .iadd, .iaload]) (pc2 := 77) (L2 := [(2, v0), (0, v1), (0, v2), (0, v3)]) (S2 := [(0, u6), (0, u4), (0, v1), (2, v0)]) (h2 := h) (by decide +kernel) (by subst he; rfl) (by exact hg) ?_
      clear hg he
      obtain ⟨u7, hg, he, hx⟩ := bgd hx
      refine Ev.blk (is := [.aload_n 0, .getfield 9216]) (pc2 := 81) (L2 := [(2, v0), (0, v1), (0, v2), (0, v3)]) (S2 := [(2, u7), (0, u6), (0, u4), (0, v1), (2, v0)]) (h2 := h) (by decide +kernel) (by subst he; rfl) (by exact hg) ?_
      clear hg he
      obtain ⟨u8, hg, he, hx⟩ := bgd hx
      refine Ev.blk (is := [.sipush 9, .iload_n 2, .imul, .iload_n 3, .iadd, .iaload]) (pc2 := 88) (L2 := [(2, v0), (0, v1), (0, v2), (0, v3)]) (S2 := [(0, u8), (0, u6), (0, u4), (0, v1), (2, v0)]) (h2 := h) (by decide +kernel) (by subst he; rfl) (by exact hg) ?_
      clear hg he
      obtain ⟨_, hg, -, hx⟩ := bgd hx
      obtain ⟨h10, hc, hx⟩ := bca hx
      refine Ev.call (args := [(2, v0), (0, v1), (0, u4), (0, u6), (0, u8)]) (S2 := []) (r1 := none) (h1 := h10) (i := .invokevirtual 191) (by decide +kernel) rfl rfl (Nat.le_of_ble_eq_true rfl) (Or.inr (Or.inl ⟨rfl, hg, by decide +kernel⟩)) (x_R_addsDown (by omega) hc) ?_
      refine Ev.blk (is := [.iinc 3 1]) (pc2 := 94) (L2 := [(2, v0), (0, v1), (0, v2), (0, w32 (v3 + 1))]) (S2 := []) (h2 := h10) (by decide +kernel) rfl trivial ?_
      refine Ev.jp (i := .goto (-51)) (len := 3) (pc2 := 43) (by decide +kernel) rfl ?_
      exact ih v0 v1 v2 (w32 (v3 + 1)) h10 _ hx
    · have hx := hb hc
      clear ha hb hc
      refine Ev.blk (is := [.iconst 0, .istore_n 3]) (pc2 := 99) (L2 := [(2, v0), (0, v1), (0, v2), (0, 0)]) (S2 := []) (h2 := h) (by decide +kernel) rfl trivial ?_
      exact y_R_becomes_99 hd FU v0 v1 v2 0 h _ hx
theorem x_R_becomes {sc : AS} {d : Nat} (hd : 2 ≤ d) {v0 : Int} {v1 : Int} {v2 : Int} {h : AH} {r : AH} (hx : R_becomes v0 v1 v2 h = some r) : Runs sc d 196 [(2, v0), (0, v1), (0, v2)] h none r := by
  obtain ⟨d, rfl⟩ : ∃ e, d = e + 1 := ⟨d - 1, by omega⟩
  have hd : 1 ≤ d := by omega
  unfold R_becomes at hx
  refine ⟨⟨aM_196, rfl, Nat.le_of_ble_eq_true rfl⟩, ?_⟩
  show Ev sc d 196 0 [(2, v0), (0, v1), (0, v2), (9, 0)] [] h none r
  obtain ⟨u1, hg, he, hx⟩ := bgd hx
  refine Ev.blk (is := [.aload_n 0, .iload_n 1, .aload_n 0, .getfield 9208]) (pc2 := 6) (L2 := [(2, v0), (0, v1), (0, v2), (9, 0)]) (S2 := [(2, u1), (0, v1), (2, v0)]) (h2 := h) (by decide +kernel) (by subst he; rfl) (by exact hg) ?_
  clear hg he
  obtain ⟨u2, hg, he, hx⟩ := bgd hx
  refine Ev.blk (is := [.iload_n 2, .iaload]) (pc2 := 8) (L2 := [(2, v0), (0, v1), (0, v2), (9, 0)]) (S2 := [(0, u2), (0, v1), (2, v0)]) (h2 := h) (by decide +kernel) (by subst he; rfl) (by exact hg) ?_
  clear hg he
  obtain ⟨u3, hg, he, hx⟩ := bgd hx
  refine Ev.blk (is := [.aload_n 0, .getfield 9209]) (pc2 := 12) (L2 := [(2, v0), (0, v1), (0, v2), (9, 0)]) (S2 := [(2, u3), (0, u2), (0, v1), (2, v0)]) (h2 := h) (by decide +kernel) (by subst he; rfl) (by exact hg) ?_
  clear hg he
  obtain ⟨u4, hg, he, hx⟩ := bgd hx
  refine Ev.blk (is := [.iload_n 2, .iaload]) (pc2 := 14) (L2 := [(2, v0), (0, v1), (0, v2), (9, 0)]) (S2 := [(0, u4), (0, u2), (0, v1), (2, v0)]) (h2 := h) (by decide +kernel) (by subst he; rfl) (by exact hg) ?_
  clear hg he
  obtain ⟨_, hg, -, hx⟩ := bgd hx
  obtain ⟨h6, hc, hx⟩ := bca hx
  refine Ev.call (args := [(2, v0), (0, v1), (0, u2), (0, u4)]) (S2 := []) (r1 := none) (h1 := h6) (i := .invokevirtual 186) (by decide +kernel) rfl rfl (Nat.le_of_ble_eq_true rfl) (Or.inr (Or.inl ⟨rfl, hg, by decide +kernel⟩)) (x_R_begins (by omega) hc) ?_
  obtain ⟨u7, hg, he, hx⟩ := bgd hx
  refine Ev.blk (is := [.aload_n 0, .getfield 9210]) (pc2 := 21) (L2 := [(2, v0), (0, v1), (0, v2), (9, 0)]) (S2 := [(2, u7)]) (h2 := h6) (by decide +kernel) (by subst he; rfl) (by exact hg) ?_
  clear hg he
  obtain ⟨u8, hg, he, hx⟩ := bgd hx
  refine Ev.blk (is := [.iload_n 1, .aload_n 0, .getfield 9210]) (pc2 := 26) (L2 := [(2, v0), (0, v1), (0, v2), (9, 0)]) (S2 := [(2, u8), (0, v1), (2, u7)]) (h2 := h6) (by decide +kernel) (by subst he; rfl) (by exact hg) ?_
  clear hg he
  obtain ⟨u9, hg, he, hx⟩ := bgd hx
  refine Ev.blk (is := [.iload_n 2, .iaload]) (pc2 := 28) (L2 := [(2, v0), (0, v1), (0, v2), (9, 0)]) (S2 := [(0, u9), (0, v1), (2, u7)]) (h2 := h6) (by decide +kernel) (by subst he; rfl) (by exact hg) ?_
  clear hg he
  obtain ⟨h10, hg, he, hx⟩ := bgd hx
  refine Ev.blk (is := [.iastore]) (pc2 := 29) (L2 := [(2, v0), (0, v1), (0, v2), (9, 0)]) (S2 := []) (h2 := h10) (by decide +kernel) (by subst he; rfl) (by exact hg) ?_
  clear hg he
  obtain ⟨u11, hg, he, hx⟩ := bgd hx
  refine Ev.blk (is := [.aload_n 0, .getfield 9211]) (pc2 := 33) (L2 := [(2, v0), (0, v1), (0, v2), (9, 0)]) (S2 := [(2, u11)]) (h2 := h10) (by decide +kernel) (by subst he; rfl) (by exact hg) ?_
  clear hg he
  obtain ⟨u12, hg, he, hx⟩ := bgd hx
  refine Ev.blk (is := [.iload_n 1, .aload_n 0, .getfield 9211]) (pc2 := 38) (L2 := [(2, v0), (0, v1), (0, v2), (9, 0)]) (S2 := [(2, u12), (0, v1), (2, u11)]) (h2 := h10) (by decide +kernel) (by subst he; rfl) (by exact hg) ?_
  clear hg he
  obtain ⟨u13, hg, he, hx⟩ := bgd hx
  refine Ev.blk (is := [.iload_n 2, .iaload]) (pc2 := 40) (L2 := [(2, v0), (0, v1), (0, v2), (9, 0)]) (S2 := [(0, u13), (0, v1), (2, u11)]) (h2 := h10) (by decide +kernel) (by subst he; rfl) (by exact hg) ?_
  clear hg he
  obtain ⟨h14, hg, he, hx⟩ := bgd hx
  refine Ev.blk (is := [.iastore]) (pc2 := 41) (L2 := [(2, v0), (0, v1), (0, v2), (9, 0)]) (S2 := []) (h2 := h14) (by decide +kernel) (by subst he; rfl) (by exact hg) ?_
  clear hg he
  refine Ev.blk (is := [.iconst 0, .istore_n 3]) (pc2 := 43) (L2 := [(2, v0), (0, v1), (0, v2), (0, 0)]) (S2 := []) (h2 := h14) (by decide +kernel) rfl trivial ?_
  exact y_R_becomes_43 hd FU v0 v1 v2 0 h14 _ hx
theorem y_R_find_220 {sc : AS} {d : Nat} (hd : 6 ≤ d) : ∀ (v0 : Int) (v3 : Int) (h : AH) (r : (Int × AH)), R_find_220 v0 v3 h = some r → Ev sc d 161 220 [(2, v0), (9, 0), (9, 0), (0, v3), (9, 0), (9, 0), (9, 0), (9, 0), (9, 0)] [] h (some (0, r.1)) r.2 := by
  intro v0 v3 h r hx
  unfold R_find_220 at hx
  obtain ⟨u1, hg, he, hx⟩ := bgd hx
  refine Ev.blk (is := [.aload_n 0, .getfield 9007]) (pc2 := 224) (L2 := [(2, v0), (9, 0), (9, 0), (0, v3), (9, 0), (9, 0), (9, 0), (9, 0), (9, 0)]) (S2 := [(0, u1)]) (h2 := h) (by decide +kernel) (by subst he; rfl) (by exact hg) ?_
  clear hg he
  refine Ev.blk (is := [.sipush 60]) (pc2 := 226) (L2 := [(2, v0), (9, 0), (9, 0), (0, v3), (9, 0), (9, 0), (9, 0), (9, 0), (9, 0)]) (S2 := [(0, 60), (0, u1)]) (h2 := h) (by decide +kernel) rfl trivial ?_
  obtain ⟨ha, hb⟩ := bite hx
  clear hx
  refine Ev.br (i := .if_icmp .ne 7) (len := 3) (a := 229) (b := 233) (by decide +kernel) rfl Iff.rfl (fun hc => ?_) (fun hc => ?_)
  · have hx := ha hc
    clear ha hb hc
    refine Ev.blk (is := [.iconst 1]) (pc2 := 230) (L2 := [(2, v0), (9, 0), (9, 0), (0, v3), (9, 0), (9, 0), (9, 0), (9, 0), (9, 0)]) (S2 := [(0, 1)]) (h2 := h) (by decide +kernel) rfl trivial ?_
    refine Ev.jp (i := .goto 4) (len := 3) (pc2 := 234) (by decide +kernel) rfl ?_
    obtain ⟨h2, hg, he, hx⟩ := bgd hx
    refine Ev.blk (is := [.istore 8, .aload_n 0, .iload_n 3, .putfield 9007]) (pc2 := 241) (L2 := [(2, v0), (9, 0), (9, 0), (0, v3), (9, 0), (9, 0), (9, 0), (9, 0), (0, 1)]) (S2 := []) (h2 := h2) (by decide +kernel) (by subst he; rfl) (by exact hg) ?_
    clear hg he
    refine Ev.blk (is := [.iload 8]) (pc2 := 243) (L2 := [(2, v0), (9, 0), (9, 0), (0, v3), (9, 0), (9, 0), (9, 0), (9, 0), (0, 1)]) (S2 := [(0, 1)]) (h2 := h2) (by decide +kernel) rfl trivial ?_
    obtain ⟨ha, hb⟩ := bite hx
    clear hx
    refine Ev.br (i := .ifCond .eq 8) (len := 3) (a := 251) (b := 246) (by decide +kernel) rfl Iff.rfl (fun hc => ?_) (fun hc => ?_)
    · have hx := ha hc
      clear ha hb hc
      refine Ev.blk (is := [.sipush (-2)]) (pc2 := 253) (L2 := [(2, v0), (9, 0), (9, 0), (0, v3), (9, 0), (9, 0), (9, 0), (9, 0), (0, 1)]) (S2 := [(0, (-2))]) (h2 := h2) (by decide +kernel) rfl trivial ?_
      cases hx
      exact Ev.ret (i := .ireturn) (len := 1) (by decide +kernel) rfl (finOf (t := some .int) rfl (trivial))
    · have hx := hb hc
      clear ha hb hc
      refine Ev.blk (is := [.sipush (-3)]) (pc2 := 248) (L2 := [(2, v0), (9, 0), (9, 0), (0, v3), (9, 0), (9, 0), (9, 0), (9, 0), (0, 1)]) (S2 := [(0, (-3))]) (h2 := h2) (by decide +kernel) rfl trivial ?_
      refine Ev.jp (i := .goto 5) (len := 3) (pc2 := 253) (by decide +kernel) rfl ?_
      cases hx
      exact Ev.ret (i := .ireturn) (len := 1) (by decide +kernel) rfl (finOf (t := some .int) rfl (trivial))
  · have hx := hb hc
    clear ha hb hc
    obtain ⟨h3, hg, he, hx⟩ := bgd hx
    refine Ev.blk (is := [.iconst 0, .istore 8, .aload_n 0, .iload_n 3, .putfield 9007]) (pc2 := 241) (L2 := [(2, v0), (9, 0), (9, 0), (0, v3), (9, 0), (9, 0), (9, 0), (9, 0), (0, 0)]) (S2 := []) (h2 := h3) (by decide +kernel) (by subst he; rfl) (by exact hg) ?_
    clear hg he
    refine Ev.blk (is := [.iload 8]) (pc2 := 243) (L2 := [(2, v0), (9, 0), (9, 0), (0, v3), (9, 0), (9, 0), (9, 0), (9, 0), (0, 0)]) (S2 := [(0, 0)]) (h2 := h3) (by decide +kernel) rfl trivial ?_
    obtain ⟨ha, hb⟩ := bite hx
    clear hx
    refine Ev.br (i := .ifCond .eq 8) (len := 3) (a := 251) (b := 246) (by decide +kernel) rfl Iff.rfl (fun hc => ?_) (fun hc => ?_)
    · have hx := ha hc
      clear ha hb hc
      refine Ev.blk (is := [.sipush (-2)]) (pc2 := 253) (L2 := [(2, v0), (9, 0), (9, 0), (0, v3), (9, 0), (9, 0), (9, 0), (9, 0), (0, 0)]) (S2 := [(0, (-2))]) (h2 := h3) (by decide +kernel) rfl trivial ?_
      cases hx
      exact Ev.ret (i := .ireturn) (len := 1) (by decide +kernel) rfl (finOf (t := some .int) rfl (trivial))
    · have hx := hb hc
      clear ha hb hc
      refine Ev.blk (is := [.sipush (-3)]) (pc2 := 248) (L2 := [(2, v0), (9, 0), (9, 0), (0, v3), (9, 0), (9, 0), (9, 0), (9, 0), (0, 0)]) (S2 := [(0, (-3))]) (h2 := h3) (by decide +kernel) rfl trivial ?_
      refine Ev.jp (i := .goto 5) (len := 3) (pc2 := 253) (by decide +kernel) rfl ?_
      cases hx
      exact Ev.ret (i := .ireturn) (len := 1) (by decide +kernel) rfl (finOf (t := some .int) rfl (trivial))
theorem y_R_find_155 {sc : AS} {d : Nat} (hd : 6 ≤ d) {k107 : Int → Int → Int → AH → Option (Int × AH)} (hk107 : ∀ (v0 : Int) (v3 : Int) (v4 : Int) (h : AH) (r : (Int × AH)), k107 v0 v3 v4 h = some r → Ev sc d 161 107 [(2, v0), (9, 0), (9, 0), (0, v3), (0, v4), (9, 0), (9, 0), (9, 0), (9, 0)] [] h (some (0, r.1)) r.2) : ∀ (v0 : Int) (v3 : Int) (v4 : Int) (v5 : Int) (v6 : Int) (h : AH) (r : (Int × AH)), R_find_155 k107 v0 v3 v4 v5 v6 h = some r → Ev sc d 161 155 [(2, v0), (9, 0), (9, 0), (0, v3), (0, v4), (0, v5), (0, v6), (9, 0), (9, 0)] [] h (some (0, r.1)) r.2 := by
  intro v0 v3 v4 v5 v6 h r hx
  unfold R_find_155 at hx
  refine Ev.blk (is := [.aload_n 0]) (pc2 := 156) (L2 := [(2, v0), (9, 0), (9, 0), (0, v3), (0, v4), (0, v5), (0, v6), (9, 0), (9, 0)]) (S2 := [(2, v0)]) (h2 := h) (by decide +kernel) rfl trivial ?_
  obtain ⟨_, hg, -, hx⟩ := bgd hx
  obtain ⟨u1, hc, hx⟩ := bca hx
  refine Ev.call (args := [(2, v0)]) (S2 := []) (r1 := (some (0, u1))) (h1 := h) (i := .invokevirtual 195) (by decide +kernel) rfl rfl (Nat.le_of_ble_eq_true rfl) (Or.inr (Or.inl ⟨rfl, hg, by decide +kernel⟩)) (x_R_missing (by omega) hc) ?_
  refine Ev.blk (is := [.istore 7, .iload 7]) (pc2 := 163) (L2 := [(2, v0), (9, 0), (9, 0), (0, v3), (0, v4), (0, v5), (0, v6), (0, u1), (9, 0)]) (S2 := [(0, u1)]) (h2 := h) (by decide +kernel) rfl trivial ?_
  obtain ⟨ha, hb⟩ := bite hx
  clear hx
  refine Ev.br (i := .ifCond .le 37) (len := 3) (a := 166) (b := 200) (by decide +kernel) rfl Iff.rfl (fun hc => ?_) (fun hc => ?_)
  · have hx := ha hc
    clear ha hb hc
    obtain ⟨u2, hg, he, hx⟩ := bgd hx
    refine Ev.blk (is := [.aload_n 0, .getfield 9221]) (pc2 := 170) (L2 := [(2, v0), (9, 0), (9, 0), (0, v3), (0, v4), (0, v5), (0, v6), (0, u1), (9, 0)]) (S2 := [(2, u2)]) (h2 := h) (by decide +kernel) (by subst he; rfl) (by exact hg) ?_
    clear hg he
    obtain ⟨h3, hg, he, hx⟩ := bgd hx
    refine Ev.blk (is := [.iload 4, .iload 7, .iastore]) (pc2 := 175) (L2 := [(2, v0), (9, 0), (9, 0), (0, v3), (0, v4), (0, v5), (0, v6), (0, u1), (9, 0)]) (S2 := []) (h2 := h3) (by decide +kernel) (by subst he; rfl) (by exact hg) ?_
    clear hg he
    obtain ⟨u4, hg, he, hx⟩ := bgd hx
    refine Ev.blk (is := [.aload_n 0, .getfield 9222]) (pc2 := 179) (L2 := [(2, v0), (9, 0), (9, 0), (0, v3), (0, v4), (0, v5), (0, v6), (0, u1), (9, 0)]) (S2 := [(2, u4)]) (h2 := h3) (by decide +kernel) (by subst he; rfl) (by exact hg) ?_
    clear hg he
    refine Ev.blk (is := [.iload 4, .iload 7, .sipush 100]) (pc2 := 185) (L2 := [(2, v0), (9, 0), (9, 0), (0, v3), (0, v4), (0, v5), (0, v6), (0, u1), (9, 0)]) (S2 := [(0, 100), (0, u1), (0, v4), (2, u4)]) (h2 := h3) (by decide +kernel) rfl trivial ?_
    obtain ⟨ha, hb⟩ := bite hx
    clear hx
    refine Ev.br (i := .if_icmp .ge 7) (len := 3) (a := 188) (b := 192) (by decide +kernel) rfl Iff.rfl (fun hc => ?_) (fun hc => ?_)
    · have hx := ha hc
      clear ha hb hc
      refine Ev.blk (is := [.iconst 0]) (pc2 := 189) (L2 := [(2, v0), (9, 0), (9, 0), (0, v3), (0, v4), (0, v5), (0, v6), (0, u1), (9, 0)]) (S2 := [(0, 0), (0, v4), (2, u4)]) (h2 := h3) (by decide +kernel) rfl trivial ?_
      refine Ev.jp (i := .goto 4) (len := 3) (pc2 := 193) (by decide +kernel) rfl ?_
      obtain ⟨h5, hg, he, hx⟩ := bgd hx
      refine Ev.blk (is := [.iastore]) (pc2 := 194) (L2 := [(2, v0), (9, 0), (9, 0), (0, v3), (0, v4), (0, v5), (0, v6), (0, u1), (9, 0)]) (S2 := []) (h2 := h5) (by decide +kernel) (by subst he; rfl) (by exact hg) ?_
      clear hg he
      refine Ev.blk (is := [.iinc 4 1]) (pc2 := 197) (L2 := [(2, v0), (9, 0), (9, 0), (0, v3), (0, w32 (v4 + 1)), (0, v5), (0, v6), (0, u1), (9, 0)]) (S2 := []) (h2 := h5) (by decide +kernel) rfl trivial ?_
      refine Ev.jp (i := .goto (-90)) (len := 3) (pc2 := 107) (by decide +kernel) rfl ?_
      refine Ev.wk (L2 := [(2, v0), (9, 0), (9, 0), (0, v3), (0, w32 (v4 + 1)), (9, 0), (9, 0), (9, 0), (9, 0)]) (wkL_of ⟨Or.inl rfl, ⟨Or.inl rfl, ⟨Or.inl rfl, ⟨Or.inl rfl, ⟨Or.inl rfl, ⟨Or.inr rfl, ⟨Or.inr rfl, ⟨Or.inr rfl, ⟨Or.inl rfl, trivial⟩⟩⟩⟩⟩⟩⟩⟩⟩) ?_
      exact hk107 v0 v3 (w32 (v4 + 1)) h5 _ hx
    · have hx := hb hc
      clear ha hb hc
      obtain ⟨h6, hg, he, hx⟩ := bgd hx
      refine Ev.blk (is := [.iconst 1, .iastore]) (pc2 := 194) (L2 := [(2, v0), (9, 0), (9, 0), (0, v3), (0, v4), (0, v5), (0, v6), (0, u1), (9, 0)]) (S2 := []) (h2 := h6) (by decide +kernel) (by subst he; rfl) (by exact hg) ?_
      clear hg he
      refine Ev.blk (is := [.iinc 4 1]) (pc2 := 197) (L2 := [(2, v0), (9, 0), (9, 0), (0, v3), (0, w32 (v4 + 1)), (0, v5), (0, v6), (0, u1), (9, 0)]) (S2 := []) (h2 := h6) (by decide +kernel) rfl trivial ?_
      refine Ev.jp (i := .goto (-90)) (len := 3) (pc2 := 107) (by decide +kernel) rfl ?_
      refine Ev.wk (L2 := [(2, v0), (9, 0), (9, 0), (0, v3), (0, w32 (v4 + 1)), (9, 0), (9, 0), (9, 0), (9, 0)]) (wkL_of ⟨Or.inl rfl, ⟨Or.inl rfl, ⟨Or.inl rfl, ⟨Or.inl rfl, ⟨Or.inl rfl, ⟨Or.inr rfl, ⟨Or.inr rfl, ⟨Or.inr rfl, ⟨Or.inl rfl, trivial⟩⟩⟩⟩⟩⟩⟩⟩⟩) ?_
      exact hk107 v0 v3 (w32 (v4 + 1)) h6 _ hx
  · have hx := hb hc
    clear ha hb hc
    obtain ⟨u7, hg, he, hx⟩ := bgd hx
    refine Ev.blk (is := [.aload_n 0, .getfield 9007]) (pc2 := 204) (L2 := [(2, v0), (9, 0), (9, 0), (0, v3), (0, v4), (0, v5), (0, v6), (0, u1), (9, 0)]) (S2 := [(0, u7)]) (h2 := h) (by decide +kernel) (by subst he; rfl) (by exact hg) ?_
    clear hg he
    refine Ev.blk (is := [.sipush 60]) (pc2 := 206) (L2 := [(2, v0), (9, 0), (9, 0), (0, v3), (0, v4), (0, v5), (0, v6), (0, u1), (9, 0)]) (S2 := [(0, 60), (0, u7)]) (h2 := h) (by decide +kernel) rfl trivial ?_
    obtain ⟨ha, hb⟩ := bite hx
    clear hx
    refine Ev.br (i := .if_icmp .eq 14) (len := 3) (a := 220) (b := 209) (by decide +kernel) rfl Iff.rfl (fun hc => ?_) (fun hc => ?_)
    · have hx := ha hc
      clear ha hb hc
      refine Ev.wk (L2 := [(2, v0), (9, 0), (9, 0), (0, v3), (9, 0), (9, 0), (9, 0), (9, 0), (9, 0)]) (wkL_of ⟨Or.inl rfl, ⟨Or.inl rfl, ⟨Or.inl rfl, ⟨Or.inl rfl, ⟨Or.inr rfl, ⟨Or.inr rfl, ⟨Or.inr rfl, ⟨Or.inr rfl, ⟨Or.inl rfl, trivial⟩⟩⟩⟩⟩⟩⟩⟩⟩) ?_
      exact y_R_find_220 hd v0 v3 h _ hx
    · have hx := hb hc
      clear ha hb hc
      refine Ev.blk (is := [.aload_n 0, .iload 5, .iload 6]) (pc2 := 214) (L2 := [(2, v0), (9, 0), (9, 0), (0, v3), (0, v4), (0, v5), (0, v6), (0, u1), (9, 0)]) (S2 := [(0, v6), (0, v5), (2, v0)]) (h2 := h) (by decide +kernel) rfl trivial ?_
      obtain ⟨_, hg, -, hx⟩ := bgd hx
      obtain ⟨u8, hc, hx⟩ := bca hx
      refine Ev.call (args := [(2, v0), (0, v5), (0, v6)]) (S2 := []) (r1 := (some (0, u8.1))) (h1 := u8.2) (i := .invokevirtual 185) (by decide +kernel) rfl rfl (Nat.le_of_ble_eq_true rfl) (Or.inr (Or.inl ⟨rfl, hg, by decide +kernel⟩)) (x_R_works (by omega) hc) ?_
      obtain ⟨ha, hb⟩ := bite hx
      clear hx
      refine Ev.br (i := .ifCond .ne 37) (len := 3) (a := 220) (b := 254) (by decide +kernel) rfl Iff.rfl (fun hc => ?_) (fun hc => ?_)
      · have hx := ha hc
        clear ha hb hc
        refine Ev.wk (L2 := [(2, v0), (9, 0), (9, 0), (0, v3), (9, 0), (9, 0), (9, 0), (9, 0), (9, 0)]) (wkL_of ⟨Or.inl rfl, ⟨Or.inl rfl, ⟨Or.inl rfl, ⟨Or.inl rfl, ⟨Or.inr rfl, ⟨Or.inr rfl, ⟨Or.inr rfl, ⟨Or.inr rfl, ⟨Or.inl rfl, trivial⟩⟩⟩⟩⟩⟩⟩⟩⟩) ?_
        exact y_R_find_220 hd v0 v3 u8.2 _ hx
      · have hx := hb hc
        clear ha hb hc
        obtain ⟨u9, hg, he, hx⟩ := bgd hx
        refine Ev.blk (is := [.aload_n 0, .aload_n 0, .getfield 9007]) (pc2 := 259) (L2 := [(2, v0), (9, 0), (9, 0), (0, v3), (0, v4), (0, v5), (0, v6), (0, u1), (9, 0)]) (S2 := [(0, u9), (2, v0)]) (h2 := u8.2) (by decide +kernel) (by subst he; rfl) (by exact hg) ?_
        clear hg he
        refine Ev.blk (is := [.sipush 115]) (pc2 := 261) (L2 := [(2, v0), (9, 0), (9, 0), (0, v3), (0, v4), (0, v5), (0, v6), (0, u1), (9, 0)]) (S2 := [(0, 115), (0, u9), (2, v0)]) (h2 := u8.2) (by decide +kernel) rfl trivial ?_
        obtain ⟨_, hg, -, hx⟩ := bgd hx
        obtain ⟨h11, hc, hx⟩ := bca hx
        refine Ev.call (args := [(2, v0), (0, u9), (0, 115)]) (S2 := []) (r1 := none) (h1 := h11) (i := .invokevirtual 196) (by decide +kernel) rfl rfl (Nat.le_of_ble_eq_true rfl) (Or.inr (Or.inl ⟨rfl, hg, by decide +kernel⟩)) (x_R_becomes (by omega) hc) ?_
        obtain ⟨u12, hg, he, hx⟩ := bgd hx
        refine Ev.blk (is := [.aload_n 0, .getfield 9219]) (pc2 := 268) (L2 := [(2, v0), (9, 0), (9, 0), (0, v3), (0, v4), (0, v5), (0, v6), (0, u1), (9, 0)]) (S2 := [(2, u12)]) (h2 := h11) (by decide +kernel) (by subst he; rfl) (by exact hg) ?_
        clear hg he
        obtain ⟨u13, hg, he, hx⟩ := bgd hx
        refine Ev.blk (is := [.aload_n 0, .getfield 9007]) (pc2 := 272) (L2 := [(2, v0), (9, 0), (9, 0), (0, v3), (0, v4), (0, v5), (0, v6), (0, u1), (9, 0)]) (S2 := [(0, u13), (2, u12)]) (h2 := h11) (by decide +kernel) (by subst he; rfl) (by exact hg) ?_
        clear hg he
        obtain ⟨h14, hg, he, hx⟩ := bgd hx
        refine Ev.blk (is := [.iconst 1, .bastore]) (pc2 := 274) (L2 := [(2, v0), (9, 0), (9, 0), (0, v3), (0, v4), (0, v5), (0, v6), (0, u1), (9, 0)]) (S2 := []) (h2 := h14) (by decide +kernel) (by subst he; rfl) (by exact hg) ?_
        clear hg he
        obtain ⟨u15, hg, he, hx⟩ := bgd hx
        refine Ev.blk (is := [.aload_n 0, .dup, .getfield 9007]) (pc2 := 279) (L2 := [(2, v0), (9, 0), (9, 0), (0, v3), (0, v4), (0, v5), (0, v6), (0, u1), (9, 0)]) (S2 := [(0, u15), (2, v0)]) (h2 := h14) (by decide +kernel) (by subst he; rfl) (by exact hg) ?_
        clear hg he
        obtain ⟨h16, hg, he, hx⟩ := bgd hx
        refine Ev.blk (is := [.iconst 1, .iadd, .putfield 9007]) (pc2 := 284) (L2 := [(2, v0), (9, 0), (9, 0), (0, v3), (0, v4), (0, v5), (0, v6), (0, u1), (9, 0)]) (S2 := []) (h2 := h16) (by decide +kernel) (by subst he; rfl) (by exact hg) ?_
        clear hg he
        refine Ev.blk (is := [.iinc 4 (-1)]) (pc2 := 287) (L2 := [(2, v0), (9, 0), (9, 0), (0, v3), (0, w32 (v4 + (-1))), (0, v5), (0, v6), (0, u1), (9, 0)]) (S2 := []) (h2 := h16) (by decide +kernel) rfl trivial ?_
        refine Ev.jp (i := .goto (-180)) (len := 3) (pc2 := 107) (by decide +kernel) rfl ?_
        refine Ev.wk (L2 := [(2, v0), (9, 0), (9, 0), (0, v3), (0, w32 (v4 + (-1))), (9, 0), (9, 0), (9, 0), (9, 0)]) (wkL_of ⟨Or.inl rfl, ⟨Or.inl rfl, ⟨Or.inl rfl, ⟨Or.inl rfl, ⟨Or.inl rfl, ⟨Or.inr rfl, ⟨Or.inr rfl, ⟨Or.inr rfl, ⟨Or.inl rfl, trivial⟩⟩⟩⟩⟩⟩⟩⟩⟩) ?_
        exact hk107 v0 v3 (w32 (v4 + (-1))) h16 _ hx
theorem y_R_find_107 {sc : AS} {d : Nat} (hd : 6 ≤ d) : ∀ (fu : Nat) (v0 : Int) (v3 : Int) (v4 : Int) (h : AH) (r : (Int × AH)), R_find_107 fu v0 v3 v4 h = some r → Ev sc d 161 107 [(2, v0), (9, 0), (9, 0), (0, v3), (0, v4), (9, 0), (9, 0), (9, 0), (9, 0)] [] h (some (0, r.1)) r.2 := by
  intro fu
  induction fu with
  | zero => intro v0 v3 v4 h r hx; unfold R_find_107 at hx; cases hx
  | succ fu ih =>
    intro v0 v3 v4 h r hx
    unfold R_find_107 at hx
    refine Ev.blk (is := [.iload 4]) (pc2 := 109) (L2 := [(2, v0), (9, 0), (9, 0), (0, v3), (0, v4), (9, 0), (9, 0), (9, 0), (9, 0)]) (S2 := [(0, v4)]) (h2 := h) (by decide +kernel) rfl trivial ?_
    obtain ⟨ha, hb⟩ := bite hx
    clear hx
    refine Ev.br (i := .ifCond .le 181) (len := 3) (a := 112) (b := 290) (by decide +kernel) rfl Iff.rfl (fun hc => ?_) (fun hc => ?_)
    · have hx := ha hc
      clear ha hb hc
      obtain ⟨u1, hg, he, hx⟩ := bgd hx
      refine Ev.blk (is := [.aload_n 0, .getfield 9221]) (pc2 := 116) (L2 := [(2, v0), (9, 0), (9, 0), (0, v3), (0, v4), (9, 0), (9, 0), (9, 0), (9, 0)]) (S2 := [(2, u1)]) (h2 := h) (by decide +kernel) (by subst he; rfl) (by exact hg) ?_
      clear hg he
      obtain ⟨u2, hg, he, hx⟩ := bgd hx
      refine Ev.blk (is := [.iload 4, .iconst 1, .isub, .iaload]) (pc2 := 121) (L2 := [(2, v0), (9, 0), (9, 0), (0, v3), (0, v4), (9, 0), (9, 0), (9, 0), (9, 0)]) (S2 := [(0, u2)]) (h2 := h) (by decide +kernel) (by subst he; rfl) (by exact hg) ?_
      clear hg he
      obtain ⟨u3, hg, he, hx⟩ := bgd hx
      refine Ev.blk (is := [.istore 5, .aload_n 0, .getfield 9222]) (pc2 := 127) (L2 := [(2, v0), (9, 0), (9, 0), (0, v3), (0, v4), (0, u2), (9, 0), (9, 0), (9, 0)]) (S2 := [(2, u3)]) (h2 := h) (by decide +kernel) (by subst he; rfl) (by exact hg) ?_
      clear hg he
      obtain ⟨u4, hg, he, hx⟩ := bgd hx
      refine Ev.blk (is := [.iload 4, .iconst 1, .isub, .iaload]) (pc2 := 132) (L2 := [(2, v0), (9, 0), (9, 0), (0, v3), (0, v4), (0, u2), (9, 0), (9, 0), (9, 0)]) (S2 := [(0, u4)]) (h2 := h) (by decide +kernel) (by subst he; rfl) (by exact hg) ?_
      clear hg he
      refine Ev.blk (is := [.istore 6, .aload_n 0, .sipush 115, .iload 5, .iload 6]) (pc2 := 141) (L2 := [(2, v0), (9, 0), (9, 0), (0, v3), (0, v4), (0, u2), (0, u4), (9, 0), (9, 0)]) (S2 := [(0, u4), (0, u2), (0, 115), (2, v0)]) (h2 := h) (by decide +kernel) rfl trivial ?_
      obtain ⟨_, hg, -, hx⟩ := bgd hx
      obtain ⟨h6, hc, hx⟩ := bca hx
      refine Ev.call (args := [(2, v0), (0, 115), (0, u2), (0, u4)]) (S2 := []) (r1 := none) (h1 := h6) (i := .invokevirtual 186) (by decide +kernel) rfl rfl (Nat.le_of_ble_eq_true rfl) (Or.inr (Or.inl ⟨rfl, hg, by decide +kernel⟩)) (x_R_begins (by omega) hc) ?_
      refine Ev.blk (is := [.iload 6]) (pc2 := 146) (L2 := [(2, v0), (9, 0), (9, 0), (0, v3), (0, v4), (0, u2), (0, u4), (9, 0), (9, 0)]) (S2 := [(0, u4)]) (h2 := h6) (by decide +kernel) rfl trivial ?_
      obtain ⟨ha, hb⟩ := bite hx
      clear hx
      refine Ev.br (i := .ifCond .eq 9) (len := 3) (a := 155) (b := 149) (by decide +kernel) rfl Iff.rfl (fun hc => ?_) (fun hc => ?_)
      · have hx := ha hc
        clear ha hb hc
        exact y_R_find_155 hd ih v0 v3 v4 u2 u4 h6 _ hx
      · have hx := hb hc
        clear ha hb hc
        refine Ev.blk (is := [.aload_n 0, .sipush 115]) (pc2 := 152) (L2 := [(2, v0), (9, 0), (9, 0), (0, v3), (0, v4), (0, u2), (0, u4), (9, 0), (9, 0)]) (S2 := [(0, 115), (2, v0)]) (h2 := h6) (by decide +kernel) rfl trivial ?_
        obtain ⟨_, hg, -, hx⟩ := bgd hx
        obtain ⟨h8, hc, hx⟩ := bca hx
        refine Ev.call (args := [(2, v0), (0, 115)]) (S2 := []) (r1 := none) (h1 := h8) (i := .invokevirtual 187) (by decide +kernel) rfl rfl (Nat.le_of_ble_eq_true rfl) (Or.inr (Or.inl ⟨rfl, hg, by decide +kernel⟩)) (x_R_laysRows (by omega) hc) ?_
        exact y_R_find_155 hd ih v0 v3 v4 u2 u4 h8 _ hx
    · have hx := hb hc
      clear ha hb hc
      obtain ⟨u9, hg, he, hx⟩ := bgd hx
      refine Ev.blk (is := [.aload_n 0, .getfield 9007]) (pc2 := 294) (L2 := [(2, v0), (9, 0), (9, 0), (0, v3), (0, v4), (9, 0), (9, 0), (9, 0), (9, 0)]) (S2 := [(0, u9)]) (h2 := h) (by decide +kernel) (by subst he; rfl) (by exact hg) ?_
      clear hg he
      refine Ev.blk (is := [.iconst 1, .isub]) (pc2 := 296) (L2 := [(2, v0), (9, 0), (9, 0), (0, v3), (0, v4), (9, 0), (9, 0), (9, 0), (9, 0)]) (S2 := [(0, w32 (u9 - 1))]) (h2 := h) (by decide +kernel) rfl trivial ?_
      cases hx
      exact Ev.ret (i := .ireturn) (len := 1) (by decide +kernel) rfl (finOf (t := some .int) rfl (trivial))
theorem y_R_find_28 {sc : AS} {d : Nat} (hd : 6 ≤ d) : ∀ (fu : Nat) (v0 : Int) (v1 : Int) (v2 : Int) (v3 : Int) (h : AH) (r : (Int × AH)), R_find_28 fu v0 v1 v2 v3 h = some r → Ev sc d 161 28 [(2, v0), (0, v1), (0, v2), (0, v3), (9, 0), (9, 0), (9, 0), (9, 0), (9, 0)] [] h (some (0, r.1)) r.2 := by
  intro fu
  induction fu with
  | zero => intro v0 v1 v2 v3 h r hx; unfold R_find_28 at hx; cases hx
  | succ fu ih =>
    intro v0 v1 v2 v3 h r hx
    unfold R_find_28 at hx
    obtain ⟨u1, hg, he, hx⟩ := bgd hx
    refine Ev.blk (is := [.iload_n 3, .aload_n 0, .getfield 9007]) (pc2 := 33) (L2 := [(2, v0), (0, v1), (0, v2), (0, v3), (9, 0), (9, 0), (9, 0), (9, 0), (9, 0)]) (S2 := [(0, u1), (0, v3)]) (h2 := h) (by decide +kernel) (by subst he; rfl) (by exact hg) ?_
    clear hg he
    obtain ⟨ha, hb⟩ := bite hx
    clear hx
    refine Ev.br (i := .if_icmp .ge 40) (len := 3) (a := 36) (b := 73) (by decide +kernel) rfl Iff.rfl (fun hc => ?_) (fun hc => ?_)
    · have hx := ha hc
      clear ha hb hc
      obtain ⟨u2, hg, he, hx⟩ := bgd hx
      refine Ev.blk (is := [.aload_n 0, .getfield 9219]) (pc2 := 40) (L2 := [(2, v0), (0, v1), (0, v2), (0, v3), (9, 0), (9, 0), (9, 0), (9, 0), (9, 0)]) (S2 := [(2, u2)]) (h2 := h) (by decide +kernel) (by subst he; rfl) (by exact hg) ?_
      clear hg he
      obtain ⟨u3, hg, he, hx⟩ := bgd hx
      refine Ev.blk (is := [.iload_n 3, .baload]) (pc2 := 42) (L2 := [(2, v0), (0, v1), (0, v2), (0, v3), (9, 0), (9, 0), (9, 0), (9, 0), (9, 0)]) (S2 := [(0, u3)]) (h2 := h) (by decide +kernel) (by subst he; rfl) (by exact hg) ?_
      clear hg he
      obtain ⟨ha, hb⟩ := bite hx
      clear hx
      refine Ev.br (i := .ifCond .eq 25) (len := 3) (a := 67) (b := 45) (by decide +kernel) rfl Iff.rfl (fun hc => ?_) (fun hc => ?_)
      · have hx := ha hc
        clear ha hb hc
        refine Ev.blk (is := [.iinc 3 1]) (pc2 := 70) (L2 := [(2, v0), (0, v1), (0, v2), (0, w32 (v3 + 1)), (9, 0), (9, 0), (9, 0), (9, 0), (9, 0)]) (S2 := []) (h2 := h) (by decide +kernel) rfl trivial ?_
        refine Ev.jp (i := .goto (-42)) (len := 3) (pc2 := 28) (by decide +kernel) rfl ?_
        exact ih v0 v1 v2 (w32 (v3 + 1)) h _ hx
      · have hx := hb hc
        clear ha hb hc
        obtain ⟨u4, hg, he, hx⟩ := bgd hx
        refine Ev.blk (is := [.aload_n 0, .getfield 9209]) (pc2 := 49) (L2 := [(2, v0), (0, v1), (0, v2), (0, v3), (9, 0), (9, 0), (9, 0), (9, 0), (9, 0)]) (S2 := [(2, u4)]) (h2 := h) (by decide +kernel) (by subst he; rfl) (by exact hg) ?_
        clear hg he
        obtain ⟨u5, hg, he, hx⟩ := bgd hx
        refine Ev.blk (is := [.iload_n 3, .iaload]) (pc2 := 51) (L2 := [(2, v0), (0, v1), (0, v2), (0, v3), (9, 0), (9, 0), (9, 0), (9, 0), (9, 0)]) (S2 := [(0, u5)]) (h2 := h) (by decide +kernel) (by subst he; rfl) (by exact hg) ?_
        clear hg he
        refine Ev.blk (is := [.iload_n 2]) (pc2 := 52) (L2 := [(2, v0), (0, v1), (0, v2), (0, v3), (9, 0), (9, 0), (9, 0), (9, 0), (9, 0)]) (S2 := [(0, v2), (0, u5)]) (h2 := h) (by decide +kernel) rfl trivial ?_
        obtain ⟨ha, hb⟩ := bite hx
        clear hx
        refine Ev.br (i := .if_icmp .ne 15) (len := 3) (a := 55) (b := 67) (by decide +kernel) rfl Iff.rfl (fun hc => ?_) (fun hc => ?_)
        · have hx := ha hc
          clear ha hb hc
          obtain ⟨u6, hg, he, hx⟩ := bgd hx
          refine Ev.blk (is := [.aload_n 0, .getfield 9208]) (pc2 := 59) (L2 := [(2, v0), (0, v1), (0, v2), (0, v3), (9, 0), (9, 0), (9, 0), (9, 0), (9, 0)]) (S2 := [(2, u6)]) (h2 := h) (by decide +kernel) (by subst he; rfl) (by exact hg) ?_
          clear hg he
          obtain ⟨u7, hg, he, hx⟩ := bgd hx
          refine Ev.blk (is := [.iload_n 3, .iaload]) (pc2 := 61) (L2 := [(2, v0), (0, v1), (0, v2), (0, v3), (9, 0), (9, 0), (9, 0), (9, 0), (9, 0)]) (S2 := [(0, u7)]) (h2 := h) (by decide +kernel) (by subst he; rfl) (by exact hg) ?_
          clear hg he
          refine Ev.blk (is := [.iload_n 1]) (pc2 := 62) (L2 := [(2, v0), (0, v1), (0, v2), (0, v3), (9, 0), (9, 0), (9, 0), (9, 0), (9, 0)]) (S2 := [(0, v1), (0, u7)]) (h2 := h) (by decide +kernel) rfl trivial ?_
          obtain ⟨ha, hb⟩ := bite hx
          clear hx
          refine Ev.br (i := .if_icmp .ne 5) (len := 3) (a := 65) (b := 67) (by decide +kernel) rfl Iff.rfl (fun hc => ?_) (fun hc => ?_)
          · have hx := ha hc
            clear ha hb hc
            refine Ev.blk (is := [.iload_n 3]) (pc2 := 66) (L2 := [(2, v0), (0, v1), (0, v2), (0, v3), (9, 0), (9, 0), (9, 0), (9, 0), (9, 0)]) (S2 := [(0, v3)]) (h2 := h) (by decide +kernel) rfl trivial ?_
            cases hx
            exact Ev.ret (i := .ireturn) (len := 1) (by decide +kernel) rfl (finOf (t := some .int) rfl (trivial))
          · have hx := hb hc
            clear ha hb hc
            refine Ev.blk (is := [.iinc 3 1]) (pc2 := 70) (L2 := [(2, v0), (0, v1), (0, v2), (0, w32 (v3 + 1)), (9, 0), (9, 0), (9, 0), (9, 0), (9, 0)]) (S2 := []) (h2 := h) (by decide +kernel) rfl trivial ?_
            refine Ev.jp (i := .goto (-42)) (len := 3) (pc2 := 28) (by decide +kernel) rfl ?_
            exact ih v0 v1 v2 (w32 (v3 + 1)) h _ hx
        · have hx := hb hc
          clear ha hb hc
          refine Ev.blk (is := [.iinc 3 1]) (pc2 := 70) (L2 := [(2, v0), (0, v1), (0, v2), (0, w32 (v3 + 1)), (9, 0), (9, 0), (9, 0), (9, 0), (9, 0)]) (S2 := []) (h2 := h) (by decide +kernel) rfl trivial ?_
          refine Ev.jp (i := .goto (-42)) (len := 3) (pc2 := 28) (by decide +kernel) rfl ?_
          exact ih v0 v1 v2 (w32 (v3 + 1)) h _ hx
    · have hx := hb hc
      clear ha hb hc
      refine Ev.blk (is := [.aload_n 0, .iload_n 1, .iload_n 2]) (pc2 := 76) (L2 := [(2, v0), (0, v1), (0, v2), (0, v3), (9, 0), (9, 0), (9, 0), (9, 0), (9, 0)]) (S2 := [(0, v2), (0, v1), (2, v0)]) (h2 := h) (by decide +kernel) rfl trivial ?_
      obtain ⟨_, hg, -, hx⟩ := bgd hx
      obtain ⟨u8, hc, hx⟩ := bca hx
      refine Ev.call (args := [(2, v0), (0, v1), (0, v2)]) (S2 := []) (r1 := (some (0, u8.1))) (h1 := u8.2) (i := .invokevirtual 185) (by decide +kernel) rfl rfl (Nat.le_of_ble_eq_true rfl) (Or.inr (Or.inl ⟨rfl, hg, by decide +kernel⟩)) (x_R_works (by omega) hc) ?_
      obtain ⟨ha, hb⟩ := bite hx
      clear hx
      refine Ev.br (i := .ifCond .ne 6) (len := 3) (a := 82) (b := 85) (by decide +kernel) rfl Iff.rfl (fun hc => ?_) (fun hc => ?_)
      · have hx := ha hc
        clear ha hb hc
        refine Ev.blk (is := [.sipush (-2)]) (pc2 := 84) (L2 := [(2, v0), (0, v1), (0, v2), (0, v3), (9, 0), (9, 0), (9, 0), (9, 0), (9, 0)]) (S2 := [(0, (-2))]) (h2 := u8.2) (by decide +kernel) rfl trivial ?_
        cases hx
        exact Ev.ret (i := .ireturn) (len := 1) (by decide +kernel) rfl (finOf (t := some .int) rfl (trivial))
      · have hx := hb hc
        clear ha hb hc
        obtain ⟨u9, hg, he, hx⟩ := bgd hx
        refine Ev.blk (is := [.aload_n 0, .getfield 9007]) (pc2 := 89) (L2 := [(2, v0), (0, v1), (0, v2), (0, v3), (9, 0), (9, 0), (9, 0), (9, 0), (9, 0)]) (S2 := [(0, u9)]) (h2 := u8.2) (by decide +kernel) (by subst he; rfl) (by exact hg) ?_
        clear hg he
        obtain ⟨u10, hg, he, hx⟩ := bgd hx
        refine Ev.blk (is := [.istore_n 3, .aload_n 0, .getfield 9221]) (pc2 := 94) (L2 := [(2, v0), (0, v1), (0, v2), (0, u9), (9, 0), (9, 0), (9, 0), (9, 0), (9, 0)]) (S2 := [(2, u10)]) (h2 := u8.2) (by decide +kernel) (by subst he; rfl) (by exact hg) ?_
        clear hg he
        obtain ⟨h11, hg, he, hx⟩ := bgd hx
        refine Ev.blk (is := [.iconst 0, .iload_n 1, .iastore]) (pc2 := 97) (L2 := [(2, v0), (0, v1), (0, v2), (0, u9), (9, 0), (9, 0), (9, 0), (9, 0), (9, 0)]) (S2 := []) (h2 := h11) (by decide +kernel) (by subst he; rfl) (by exact hg) ?_
        clear hg he
        obtain ⟨u12, hg, he, hx⟩ := bgd hx
        refine Ev.blk (is := [.aload_n 0, .getfield 9222]) (pc2 := 101) (L2 := [(2, v0), (0, v1), (0, v2), (0, u9), (9, 0), (9, 0), (9, 0), (9, 0), (9, 0)]) (S2 := [(2, u12)]) (h2 := h11) (by decide +kernel) (by subst he; rfl) (by exact hg) ?_
        clear hg he
        obtain ⟨h13, hg, he, hx⟩ := bgd hx
        refine Ev.blk (is := [.iconst 0, .iload_n 2, .iastore]) (pc2 := 104) (L2 := [(2, v0), (0, v1), (0, v2), (0, u9), (9, 0), (9, 0), (9, 0), (9, 0), (9, 0)]) (S2 := []) (h2 := h13) (by decide +kernel) (by subst he; rfl) (by exact hg) ?_
        clear hg he
        refine Ev.blk (is := [.iconst 1, .istore 4]) (pc2 := 107) (L2 := [(2, v0), (0, v1), (0, v2), (0, u9), (0, 1), (9, 0), (9, 0), (9, 0), (9, 0)]) (S2 := []) (h2 := h13) (by decide +kernel) rfl trivial ?_
        refine Ev.wk (L2 := [(2, v0), (9, 0), (9, 0), (0, u9), (0, 1), (9, 0), (9, 0), (9, 0), (9, 0)]) (wkL_of ⟨Or.inl rfl, ⟨Or.inr rfl, ⟨Or.inr rfl, ⟨Or.inl rfl, ⟨Or.inl rfl, ⟨Or.inl rfl, ⟨Or.inl rfl, ⟨Or.inl rfl, ⟨Or.inl rfl, trivial⟩⟩⟩⟩⟩⟩⟩⟩⟩) ?_
        exact y_R_find_107 hd FU v0 u9 1 h13 _ hx
theorem x_R_find {sc : AS} {d : Nat} (hd : 7 ≤ d) {v0 : Int} {v1 : Int} {v2 : Int} {h : AH} {r : (Int × AH)} (hx : R_find v0 v1 v2 h = some r) : Runs sc d 161 [(2, v0), (0, v1), (0, v2)] h (some (0, r.1)) r.2 := by
  obtain ⟨d, rfl⟩ : ∃ e, d = e + 1 := ⟨d - 1, by omega⟩
  have hd : 6 ≤ d := by omega
  unfold R_find at hx
  refine ⟨⟨aM_161, rfl, Nat.le_of_ble_eq_true rfl⟩, ?_⟩
  show Ev sc d 161 0 [(2, v0), (0, v1), (0, v2), (9, 0), (9, 0), (9, 0), (9, 0), (9, 0), (9, 0)] [] h (some (0, r.1)) r.2
  refine Ev.blk (is := [.iload_n 2, .i2l, .lconst 0, .jsr_w 4]) (pc2 := 6) (L2 := [(2, v0), (0, v1), (0, v2), (9, 0), (9, 0), (9, 0), (9, 0), (9, 0), (9, 0)]) (S2 := [(1, 4), (1, 0), (1, v2)]) (h2 := h) (by decide +kernel) rfl trivial ?_
  obtain ⟨u1, hc, hx⟩ := bca hx
  refine Ev.call (args := [(1, v2), (1, 0), (1, 4)]) (S2 := []) (r1 := (some (0, u1))) (h1 := h) (i := .invokestatic 162) (by decide +kernel) rfl rfl (Nat.le_of_ble_eq_true rfl) (Or.inl rfl) (x_R_in (by omega) hc) ?_
  obtain ⟨ha, hb⟩ := bite hx
  clear hx
  refine Ev.br (i := .ifCond .eq 11) (len := 3) (a := 20) (b := 12) (by decide +kernel) rfl Iff.rfl (fun hc => ?_) (fun hc => ?_)
  · have hx := ha hc
    clear ha hb hc
    refine Ev.blk (is := [.iconst (-1)]) (pc2 := 21) (L2 := [(2, v0), (0, v1), (0, v2), (9, 0), (9, 0), (9, 0), (9, 0), (9, 0), (9, 0)]) (S2 := [(0, (-1))]) (h2 := h) (by decide +kernel) rfl trivial ?_
    cases hx
    exact Ev.ret (i := .ireturn) (len := 1) (by decide +kernel) rfl (finOf (t := some .int) rfl (trivial))
  · have hx := hb hc
    clear ha hb hc
    refine Ev.blk (is := [.iload_n 1, .i2l]) (pc2 := 14) (L2 := [(2, v0), (0, v1), (0, v2), (9, 0), (9, 0), (9, 0), (9, 0), (9, 0), (9, 0)]) (S2 := [(1, v1)]) (h2 := h) (by decide +kernel) rfl trivial ?_
    obtain ⟨u2, hc, hx⟩ := bca hx
    refine Ev.call (args := [(1, v1)]) (S2 := []) (r1 := (some (0, u2))) (h1 := h) (i := .invokestatic 163) (by decide +kernel) rfl rfl (Nat.le_of_ble_eq_true rfl) (Or.inl rfl) (x_R_isNumber (by omega) hc) ?_
    obtain ⟨ha, hb⟩ := bite hx
    clear hx
    refine Ev.br (i := .ifCond .ne 5) (len := 3) (a := 20) (b := 22) (by decide +kernel) rfl Iff.rfl (fun hc => ?_) (fun hc => ?_)
    · have hx := ha hc
      clear ha hb hc
      refine Ev.blk (is := [.iconst (-1)]) (pc2 := 21) (L2 := [(2, v0), (0, v1), (0, v2), (9, 0), (9, 0), (9, 0), (9, 0), (9, 0), (9, 0)]) (S2 := [(0, (-1))]) (h2 := h) (by decide +kernel) rfl trivial ?_
      cases hx
      exact Ev.ret (i := .ireturn) (len := 1) (by decide +kernel) rfl (finOf (t := some .int) rfl (trivial))
    · have hx := hb hc
      clear ha hb hc
      refine Ev.blk (is := [.aload_n 0]) (pc2 := 23) (L2 := [(2, v0), (0, v1), (0, v2), (9, 0), (9, 0), (9, 0), (9, 0), (9, 0), (9, 0)]) (S2 := [(2, v0)]) (h2 := h) (by decide +kernel) rfl trivial ?_
      obtain ⟨_, hg, -, hx⟩ := bgd hx
      obtain ⟨h4, hc, hx⟩ := bca hx
      refine Ev.call (args := [(2, v0)]) (S2 := []) (r1 := none) (h1 := h4) (i := .invokevirtual 164) (by decide +kernel) rfl rfl (Nat.le_of_ble_eq_true rfl) (Or.inr (Or.inl ⟨rfl, hg, by decide +kernel⟩)) (x_R_laysRight (by omega) hc) ?_
      refine Ev.blk (is := [.iconst 0, .istore_n 3]) (pc2 := 28) (L2 := [(2, v0), (0, v1), (0, v2), (0, 0), (9, 0), (9, 0), (9, 0), (9, 0), (9, 0)]) (S2 := []) (h2 := h4) (by decide +kernel) rfl trivial ?_
      exact y_R_find_28 hd FU v0 v1 v2 0 h4 _ hx
theorem x_R_isLine {sc : AS} {d : Nat} (hd : 2 ≤ d) {v0 : Int} {v1 : Int} {h : AH} {r : Int} (hx : R_isLine v0 v1 h = some r) : Runs sc d 198 [(2, v0), (0, v1)] h (some (0, r)) h := by
  obtain ⟨d, rfl⟩ : ∃ e, d = e + 1 := ⟨d - 1, by omega⟩
  have hd : 1 ≤ d := by omega
  unfold R_isLine at hx
  refine ⟨⟨aM_198, rfl, Nat.le_of_ble_eq_true rfl⟩, ?_⟩
  show Ev sc d 198 0 [(2, v0), (0, v1)] [] h (some (0, r)) h
  obtain ⟨u1, hg, he, hx⟩ := bgd hx
  refine Ev.blk (is := [.iload_n 1, .i2l, .lconst 0, .aload_n 0, .getfield 9007]) (pc2 := 7) (L2 := [(2, v0), (0, v1)]) (S2 := [(0, u1), (1, 0), (1, v1)]) (h2 := h) (by decide +kernel) (by subst he; rfl) (by exact hg) ?_
  clear hg he
  refine Ev.blk (is := [.iconst 1, .isub, .i2l]) (pc2 := 10) (L2 := [(2, v0), (0, v1)]) (S2 := [(1, w32 (u1 - 1)), (1, 0), (1, v1)]) (h2 := h) (by decide +kernel) rfl trivial ?_
  obtain ⟨u2, hc, hx⟩ := bca hx
  refine Ev.call (args := [(1, v1), (1, 0), (1, w32 (u1 - 1))]) (S2 := []) (r1 := (some (0, u2))) (h1 := h) (i := .invokestatic 162) (by decide +kernel) rfl rfl (Nat.le_of_ble_eq_true rfl) (Or.inl rfl) (x_R_in (by omega) hc) ?_
  obtain ⟨_, hg, -, hx⟩ := bgd hx
  cases hx
  exact Ev.ret (i := .ireturn) (len := 1) (by decide +kernel) rfl (finOf (t := some .boolean) rfl (hg))
theorem x_R_mend {sc : AS} {d : Nat} (hd : 7 ≤ d) {v0 : Int} {v1 : Int} {h : AH} {r : (Int × AH)} (hx : R_mend v0 v1 h = some r) : Runs sc d 197 [(2, v0), (0, v1)] h (some (0, r.1)) r.2 := by
  obtain ⟨d, rfl⟩ : ∃ e, d = e + 1 := ⟨d - 1, by omega⟩
  have hd : 6 ≤ d := by omega
  unfold R_mend at hx
  refine ⟨⟨aM_197, rfl, Nat.le_of_ble_eq_true rfl⟩, ?_⟩
  show Ev sc d 197 0 [(2, v0), (0, v1)] [] h (some (0, r.1)) r.2
  refine Ev.blk (is := [.aload_n 0, .iload_n 1]) (pc2 := 2) (L2 := [(2, v0), (0, v1)]) (S2 := [(0, v1), (2, v0)]) (h2 := h) (by decide +kernel) rfl trivial ?_
  obtain ⟨_, hg, -, hx⟩ := bgd hx
  obtain ⟨u1, hc, hx⟩ := bca hx
  refine Ev.call (args := [(2, v0), (0, v1)]) (S2 := []) (r1 := (some (0, u1))) (h1 := h) (i := .invokevirtual 198) (by decide +kernel) rfl rfl (Nat.le_of_ble_eq_true rfl) (Or.inr (Or.inl ⟨rfl, hg, by decide +kernel⟩)) (x_R_isLine (by omega) hc) ?_
  obtain ⟨ha, hb⟩ := bite hx
  clear hx
  refine Ev.br (i := .ifCond .ne 5) (len := 3) (a := 8) (b := 10) (by decide +kernel) rfl Iff.rfl (fun hc => ?_) (fun hc => ?_)
  · have hx := ha hc
    clear ha hb hc
    refine Ev.blk (is := [.iconst (-1)]) (pc2 := 9) (L2 := [(2, v0), (0, v1)]) (S2 := [(0, (-1))]) (h2 := h) (by decide +kernel) rfl trivial ?_
    cases hx
    exact Ev.ret (i := .ireturn) (len := 1) (by decide +kernel) rfl (finOf (t := some .int) rfl (trivial))
  · have hx := hb hc
    clear ha hb hc
    obtain ⟨u2, hg, he, hx⟩ := bgd hx
    refine Ev.blk (is := [.aload_n 0, .aload_n 0, .getfield 9208]) (pc2 := 15) (L2 := [(2, v0), (0, v1)]) (S2 := [(2, u2), (2, v0)]) (h2 := h) (by decide +kernel) (by subst he; rfl) (by exact hg) ?_
    clear hg he
    obtain ⟨u3, hg, he, hx⟩ := bgd hx
    refine Ev.blk (is := [.iload_n 1, .iaload]) (pc2 := 17) (L2 := [(2, v0), (0, v1)]) (S2 := [(0, u3), (2, v0)]) (h2 := h) (by decide +kernel) (by subst he; rfl) (by exact hg) ?_
    clear hg he
    obtain ⟨u4, hg, he, hx⟩ := bgd hx
    refine Ev.blk (is := [.aload_n 0, .getfield 9209]) (pc2 := 21) (L2 := [(2, v0), (0, v1)]) (S2 := [(2, u4), (0, u3), (2, v0)]) (h2 := h) (by decide +kernel) (by subst he; rfl) (by exact hg) ?_
    clear hg he
    obtain ⟨u5, hg, he, hx⟩ := bgd hx
    refine Ev.blk (is := [.iload_n 1, .iaload]) (pc2 := 23) (L2 := [(2, v0), (0, v1)]) (S2 := [(0, u5), (0, u3), (2, v0)]) (h2 := h) (by decide +kernel) (by subst he; rfl) (by exact hg) ?_
    clear hg he
    obtain ⟨_, hg, -, hx⟩ := bgd hx
    obtain ⟨u6, hc, hx⟩ := bca hx
    refine Ev.call (args := [(2, v0), (0, u3), (0, u5)]) (S2 := []) (r1 := (some (0, u6.1))) (h1 := u6.2) (i := .invokevirtual 185) (by decide +kernel) rfl rfl (Nat.le_of_ble_eq_true rfl) (Or.inr (Or.inl ⟨rfl, hg, by decide +kernel⟩)) (x_R_works (by omega) hc) ?_
    obtain ⟨ha, hb⟩ := bite hx
    clear hx
    refine Ev.br (i := .ifCond .ne 6) (len := 3) (a := 29) (b := 32) (by decide +kernel) rfl Iff.rfl (fun hc => ?_) (fun hc => ?_)
    · have hx := ha hc
      clear ha hb hc
      refine Ev.blk (is := [.sipush (-2)]) (pc2 := 31) (L2 := [(2, v0), (0, v1)]) (S2 := [(0, (-2))]) (h2 := u6.2) (by decide +kernel) rfl trivial ?_
      cases hx
      exact Ev.ret (i := .ireturn) (len := 1) (by decide +kernel) rfl (finOf (t := some .int) rfl (trivial))
    · have hx := hb hc
      clear ha hb hc
      refine Ev.blk (is := [.aload_n 0, .iload_n 1, .sipush 115]) (pc2 := 36) (L2 := [(2, v0), (0, v1)]) (S2 := [(0, 115), (0, v1), (2, v0)]) (h2 := u6.2) (by decide +kernel) rfl trivial ?_
      obtain ⟨_, hg, -, hx⟩ := bgd hx
      obtain ⟨h8, hc, hx⟩ := bca hx
      refine Ev.call (args := [(2, v0), (0, v1), (0, 115)]) (S2 := []) (r1 := none) (h1 := h8) (i := .invokevirtual 196) (by decide +kernel) rfl rfl (Nat.le_of_ble_eq_true rfl) (Or.inr (Or.inl ⟨rfl, hg, by decide +kernel⟩)) (x_R_becomes (by omega) hc) ?_
      refine Ev.blk (is := [.aload_n 0]) (pc2 := 40) (L2 := [(2, v0), (0, v1)]) (S2 := [(2, v0)]) (h2 := h8) (by decide +kernel) rfl trivial ?_
      obtain ⟨_, hg, -, hx⟩ := bgd hx
      obtain ⟨h10, hc, hx⟩ := bca hx
      refine Ev.call (args := [(2, v0)]) (S2 := []) (r1 := none) (h1 := h10) (i := .invokevirtual 164) (by decide +kernel) rfl rfl (Nat.le_of_ble_eq_true rfl) (Or.inr (Or.inl ⟨rfl, hg, by decide +kernel⟩)) (x_R_laysRight (by omega) hc) ?_
      obtain ⟨u11, hg, he, hx⟩ := bgd hx
      refine Ev.blk (is := [.aload_n 0, .getfield 9220]) (pc2 := 47) (L2 := [(2, v0), (0, v1)]) (S2 := [(2, u11)]) (h2 := h10) (by decide +kernel) (by subst he; rfl) (by exact hg) ?_
      clear hg he
      obtain ⟨u12, hg, he, hx⟩ := bgd hx
      refine Ev.blk (is := [.iload_n 1, .iaload]) (pc2 := 49) (L2 := [(2, v0), (0, v1)]) (S2 := [(0, u12)]) (h2 := h10) (by decide +kernel) (by subst he; rfl) (by exact hg) ?_
      clear hg he
      cases hx
      exact Ev.ret (i := .ireturn) (len := 1) (by decide +kernel) rfl (finOf (t := some .int) rfl (trivial))
theorem x_R_needs {sc : AS} {d : Nat} (hd : 6 ≤ d) {v0 : Int} {v1 : Int} {v2 : Int} {h : AH} {r : (Int × AH)} (hx : R_needs v0 v1 v2 h = some r) : Runs sc d 199 [(2, v0), (0, v1), (0, v2)] h (some (0, r.1)) r.2 := by
  obtain ⟨d, rfl⟩ : ∃ e, d = e + 1 := ⟨d - 1, by omega⟩
  have hd : 5 ≤ d := by omega
  unfold R_needs at hx
  refine ⟨⟨aM_199, rfl, Nat.le_of_ble_eq_true rfl⟩, ?_⟩
  show Ev sc d 199 0 [(2, v0), (0, v1), (0, v2)] [] h (some (0, r.1)) r.2
  refine Ev.blk (is := [.iload_n 2, .i2l, .lconst 1, .jsr_w 4]) (pc2 := 6) (L2 := [(2, v0), (0, v1), (0, v2)]) (S2 := [(1, 4), (1, 1), (1, v2)]) (h2 := h) (by decide +kernel) rfl trivial ?_
  obtain ⟨u1, hc, hx⟩ := bca hx
  refine Ev.call (args := [(1, v2), (1, 1), (1, 4)]) (S2 := []) (r1 := (some (0, u1))) (h1 := h) (i := .invokestatic 162) (by decide +kernel) rfl rfl (Nat.le_of_ble_eq_true rfl) (Or.inl rfl) (x_R_in (by omega) hc) ?_
  obtain ⟨ha, hb⟩ := bite hx
  clear hx
  refine Ev.br (i := .ifCond .eq 11) (len := 3) (a := 20) (b := 12) (by decide +kernel) rfl Iff.rfl (fun hc => ?_) (fun hc => ?_)
  · have hx := ha hc
    clear ha hb hc
    refine Ev.blk (is := [.iconst (-1)]) (pc2 := 21) (L2 := [(2, v0), (0, v1), (0, v2)]) (S2 := [(0, (-1))]) (h2 := h) (by decide +kernel) rfl trivial ?_
    cases hx
    exact Ev.ret (i := .ireturn) (len := 1) (by decide +kernel) rfl (finOf (t := some .int) rfl (trivial))
  · have hx := hb hc
    clear ha hb hc
    refine Ev.blk (is := [.iload_n 1, .i2l]) (pc2 := 14) (L2 := [(2, v0), (0, v1), (0, v2)]) (S2 := [(1, v1)]) (h2 := h) (by decide +kernel) rfl trivial ?_
    obtain ⟨u2, hc, hx⟩ := bca hx
    refine Ev.call (args := [(1, v1)]) (S2 := []) (r1 := (some (0, u2))) (h1 := h) (i := .invokestatic 163) (by decide +kernel) rfl rfl (Nat.le_of_ble_eq_true rfl) (Or.inl rfl) (x_R_isNumber (by omega) hc) ?_
    obtain ⟨ha, hb⟩ := bite hx
    clear hx
    refine Ev.br (i := .ifCond .ne 5) (len := 3) (a := 20) (b := 22) (by decide +kernel) rfl Iff.rfl (fun hc => ?_) (fun hc => ?_)
    · have hx := ha hc
      clear ha hb hc
      refine Ev.blk (is := [.iconst (-1)]) (pc2 := 21) (L2 := [(2, v0), (0, v1), (0, v2)]) (S2 := [(0, (-1))]) (h2 := h) (by decide +kernel) rfl trivial ?_
      cases hx
      exact Ev.ret (i := .ireturn) (len := 1) (by decide +kernel) rfl (finOf (t := some .int) rfl (trivial))
    · have hx := hb hc
      clear ha hb hc
      refine Ev.blk (is := [.iload_n 1, .iconst 2]) (pc2 := 24) (L2 := [(2, v0), (0, v1), (0, v2)]) (S2 := [(0, 2), (0, v1)]) (h2 := h) (by decide +kernel) rfl trivial ?_
      obtain ⟨ha, hb⟩ := bite hx
      clear hx
      refine Ev.br (i := .if_icmp .eq 11) (len := 3) (a := 35) (b := 27) (by decide +kernel) rfl Iff.rfl (fun hc => ?_) (fun hc => ?_)
      · have hx := ha hc
        clear ha hb hc
        refine Ev.blk (is := [.sipush (-2)]) (pc2 := 37) (L2 := [(2, v0), (0, v1), (0, v2)]) (S2 := [(0, (-2))]) (h2 := h) (by decide +kernel) rfl trivial ?_
        cases hx
        exact Ev.ret (i := .ireturn) (len := 1) (by decide +kernel) rfl (finOf (t := some .int) rfl (trivial))
      · have hx := hb hc
        clear ha hb hc
        refine Ev.blk (is := [.iload_n 1, .i2l]) (pc2 := 29) (L2 := [(2, v0), (0, v1), (0, v2)]) (S2 := [(1, v1)]) (h2 := h) (by decide +kernel) rfl trivial ?_
        obtain ⟨u3, hc, hx⟩ := bca hx
        refine Ev.call (args := [(1, v1)]) (S2 := []) (r1 := (some (0, u3))) (h1 := h) (i := .invokestatic 166) (by decide +kernel) rfl rfl (Nat.le_of_ble_eq_true rfl) (Or.inl rfl) (x_R_isPrime (by omega) hc) ?_
        obtain ⟨ha, hb⟩ := bite hx
        clear hx
        refine Ev.br (i := .ifCond .ne 6) (len := 3) (a := 35) (b := 38) (by decide +kernel) rfl Iff.rfl (fun hc => ?_) (fun hc => ?_)
        · have hx := ha hc
          clear ha hb hc
          refine Ev.blk (is := [.sipush (-2)]) (pc2 := 37) (L2 := [(2, v0), (0, v1), (0, v2)]) (S2 := [(0, (-2))]) (h2 := h) (by decide +kernel) rfl trivial ?_
          cases hx
          exact Ev.ret (i := .ireturn) (len := 1) (by decide +kernel) rfl (finOf (t := some .int) rfl (trivial))
        · have hx := hb hc
          clear ha hb hc
          refine Ev.blk (is := [.aload_n 0, .sipush 115, .iload_n 1, .iload_n 2]) (pc2 := 43) (L2 := [(2, v0), (0, v1), (0, v2)]) (S2 := [(0, v2), (0, v1), (0, 115), (2, v0)]) (h2 := h) (by decide +kernel) rfl trivial ?_
          obtain ⟨_, hg, -, hx⟩ := bgd hx
          obtain ⟨h5, hc, hx⟩ := bca hx
          refine Ev.call (args := [(2, v0), (0, 115), (0, v1), (0, v2)]) (S2 := []) (r1 := none) (h1 := h5) (i := .invokevirtual 186) (by decide +kernel) rfl rfl (Nat.le_of_ble_eq_true rfl) (Or.inr (Or.inl ⟨rfl, hg, by decide +kernel⟩)) (x_R_begins (by omega) hc) ?_
          refine Ev.blk (is := [.aload_n 0, .sipush 115]) (pc2 := 49) (L2 := [(2, v0), (0, v1), (0, v2)]) (S2 := [(0, 115), (2, v0)]) (h2 := h5) (by decide +kernel) rfl trivial ?_
          obtain ⟨_, hg, -, hx⟩ := bgd hx
          obtain ⟨h7, hc, hx⟩ := bca hx
          refine Ev.call (args := [(2, v0), (0, 115)]) (S2 := []) (r1 := none) (h1 := h7) (i := .invokevirtual 187) (by decide +kernel) rfl rfl (Nat.le_of_ble_eq_true rfl) (Or.inr (Or.inl ⟨rfl, hg, by decide +kernel⟩)) (x_R_laysRows (by omega) hc) ?_
          obtain ⟨u8, hg, he, hx⟩ := bgd hx
          refine Ev.blk (is := [.sipush 10, .aload_n 0, .getfield 9212]) (pc2 := 58) (L2 := [(2, v0), (0, v1), (0, v2)]) (S2 := [(2, u8), (0, 10)]) (h2 := h7) (by decide +kernel) (by subst he; rfl) (by exact hg) ?_
          clear hg he
          obtain ⟨u9, hg, he, hx⟩ := bgd hx
          refine Ev.blk (is := [.sipush 115, .iaload]) (pc2 := 61) (L2 := [(2, v0), (0, v1), (0, v2)]) (S2 := [(0, u9), (0, 10)]) (h2 := h7) (by decide +kernel) (by subst he; rfl) (by exact hg) ?_
          clear hg he
          obtain ⟨u10, hg, he, hx⟩ := bgd hx
          refine Ev.blk (is := [.imul, .aload_n 0, .getfield 9213]) (pc2 := 66) (L2 := [(2, v0), (0, v1), (0, v2)]) (S2 := [(2, u10), (0, w32 (10 * u9))]) (h2 := h7) (by decide +kernel) (by subst he; rfl) (by exact hg) ?_
          clear hg he
          obtain ⟨u11, hg, he, hx⟩ := bgd hx
          refine Ev.blk (is := [.sipush 115, .iaload]) (pc2 := 69) (L2 := [(2, v0), (0, v1), (0, v2)]) (S2 := [(0, u11), (0, w32 (10 * u9))]) (h2 := h7) (by decide +kernel) (by subst he; rfl) (by exact hg) ?_
          clear hg he
          refine Ev.blk (is := [.iadd]) (pc2 := 70) (L2 := [(2, v0), (0, v1), (0, v2)]) (S2 := [(0, w32 ((w32 (10 * u9)) + u11))]) (h2 := h7) (by decide +kernel) rfl trivial ?_
          cases hx
          exact Ev.ret (i := .ireturn) (len := 1) (by decide +kernel) rfl (finOf (t := some .int) rfl (trivial))
theorem y_R_fewest_34 {sc : AS} {d : Nat} (hd : 6 ≤ d) : ∀ (fu : Nat) (v0 : Int) (v1 : Int) (v2 : Int) (v3 : Int) (v4 : Int) (h : AH) (r : (Int × AH)), R_fewest_34 fu v0 v1 v2 v3 v4 h = some r → Ev sc d 200 34 [(2, v0), (0, v1), (0, v2), (0, v3), (0, v4), (9, 0), (9, 0)] [] h (some (0, r.1)) r.2 := by
  intro fu
  induction fu with
  | zero => intro v0 v1 v2 v3 v4 h r hx; unfold R_fewest_34 at hx; cases hx
  | succ fu ih =>
    intro v0 v1 v2 v3 v4 h r hx
    unfold R_fewest_34 at hx
    refine Ev.blk (is := [.iload 4, .iconst 4]) (pc2 := 37) (L2 := [(2, v0), (0, v1), (0, v2), (0, v3), (0, v4), (9, 0), (9, 0)]) (S2 := [(0, 4), (0, v4)]) (h2 := h) (by decide +kernel) rfl trivial ?_
    obtain ⟨ha, hb⟩ := bite hx
    clear hx
    refine Ev.br (i := .if_icmp .gt 46) (len := 3) (a := 83) (b := 40) (by decide +kernel) rfl Iff.rfl (fun hc => ?_) (fun hc => ?_)
    · have hx := ha hc
      clear ha hb hc
      refine Ev.blk (is := [.iload_n 2]) (pc2 := 84) (L2 := [(2, v0), (0, v1), (0, v2), (0, v3), (0, v4), (9, 0), (9, 0)]) (S2 := [(0, v2)]) (h2 := h) (by decide +kernel) rfl trivial ?_
      cases hx
      exact Ev.ret (i := .ireturn) (len := 1) (by decide +kernel) rfl (finOf (t := some .int) rfl (trivial))
    · have hx := hb hc
      clear ha hb hc
      refine Ev.blk (is := [.aload_n 0, .iload_n 1, .iload 4]) (pc2 := 44) (L2 := [(2, v0), (0, v1), (0, v2), (0, v3), (0, v4), (9, 0), (9, 0)]) (S2 := [(0, v4), (0, v1), (2, v0)]) (h2 := h) (by decide +kernel) rfl trivial ?_
      obtain ⟨_, hg, -, hx⟩ := bgd hx
      obtain ⟨u1, hc, hx⟩ := bca hx
      refine Ev.call (args := [(2, v0), (0, v1), (0, v4)]) (S2 := []) (r1 := (some (0, u1.1))) (h1 := u1.2) (i := .invokevirtual 199) (by decide +kernel) rfl rfl (Nat.le_of_ble_eq_true rfl) (Or.inr (Or.inl ⟨rfl, hg, by decide +kernel⟩)) (x_R_needs (by omega) hc) ?_
      obtain ⟨u2, hg, he, hx⟩ := bgd hx
      refine Ev.blk (is := [.istore 5, .iload 5, .sipush 10, .idiv]) (pc2 := 54) (L2 := [(2, v0), (0, v1), (0, v2), (0, v3), (0, v4), (0, u1.1), (9, 0)]) (S2 := [(0, u2)]) (h2 := u1.2) (by decide +kernel) (by subst he; rfl) (by exact hg) ?_
      clear hg he
      obtain ⟨u3, hg, he, hx⟩ := bgd hx
      refine Ev.blk (is := [.iload 5, .sipush 10, .irem]) (pc2 := 59) (L2 := [(2, v0), (0, v1), (0, v2), (0, v3), (0, v4), (0, u1.1), (9, 0)]) (S2 := [(0, u3), (0, u2)]) (h2 := u1.2) (by decide +kernel) (by subst he; rfl) (by exact hg) ?_
      clear hg he
      refine Ev.blk (is := [.iadd, .istore 6, .iload 6, .iload_n 3]) (pc2 := 65) (L2 := [(2, v0), (0, v1), (0, v2), (0, v3), (0, v4), (0, u1.1), (0, w32 (u2 + u3))]) (S2 := [(0, v3), (0, w32 (u2 + u3))]) (h2 := u1.2) (by decide +kernel) rfl trivial ?_
      obtain ⟨ha, hb⟩ := bite hx
      clear hx
      refine Ev.br (i := .if_icmp .lt 6) (len := 3) (a := 71) (b := 68) (by decide +kernel) rfl Iff.rfl (fun hc => ?_) (fun hc => ?_)
      · have hx := ha hc
        clear ha hb hc
        refine Ev.blk (is := [.iload 6, .istore_n 3, .iload 4, .istore_n 2, .iinc 4 1]) (pc2 := 80) (L2 := [(2, v0), (0, v1), (0, v4), (0, w32 (u2 + u3)), (0, w32 (v4 + 1)), (0, u1.1), (0, w32 (u2 + u3))]) (S2 := []) (h2 := u1.2) (by decide +kernel) rfl trivial ?_
        refine Ev.jp (i := .goto (-46)) (len := 3) (pc2 := 34) (by decide +kernel) rfl ?_
        refine Ev.wk (L2 := [(2, v0), (0, v1), (0, v4), (0, w32 (u2 + u3)), (0, w32 (v4 + 1)), (9, 0), (9, 0)]) (wkL_of ⟨Or.inl rfl, ⟨Or.inl rfl, ⟨Or.inl rfl, ⟨Or.inl rfl, ⟨Or.inl rfl, ⟨Or.inr rfl, ⟨Or.inr rfl, trivial⟩⟩⟩⟩⟩⟩⟩) ?_
        exact ih v0 v1 v4 (w32 (u2 + u3)) (w32 (v4 + 1)) u1.2 _ hx
      · have hx := hb hc
        clear ha hb hc
        refine Ev.jp (i := .goto 9) (len := 3) (pc2 := 77) (by decide +kernel) rfl ?_
        refine Ev.blk (is := [.iinc 4 1]) (pc2 := 80) (L2 := [(2, v0), (0, v1), (0, v2), (0, v3), (0, w32 (v4 + 1)), (0, u1.1), (0, w32 (u2 + u3))]) (S2 := []) (h2 := u1.2) (by decide +kernel) rfl trivial ?_
        refine Ev.jp (i := .goto (-46)) (len := 3) (pc2 := 34) (by decide +kernel) rfl ?_
        refine Ev.wk (L2 := [(2, v0), (0, v1), (0, v2), (0, v3), (0, w32 (v4 + 1)), (9, 0), (9, 0)]) (wkL_of ⟨Or.inl rfl, ⟨Or.inl rfl, ⟨Or.inl rfl, ⟨Or.inl rfl, ⟨Or.inl rfl, ⟨Or.inr rfl, ⟨Or.inr rfl, trivial⟩⟩⟩⟩⟩⟩⟩) ?_
        exact ih v0 v1 v2 v3 (w32 (v4 + 1)) u1.2 _ hx
theorem x_R_fewest {sc : AS} {d : Nat} (hd : 7 ≤ d) {v0 : Int} {v1 : Int} {h : AH} {r : (Int × AH)} (hx : R_fewest v0 v1 h = some r) : Runs sc d 200 [(2, v0), (0, v1)] h (some (0, r.1)) r.2 := by
  obtain ⟨d, rfl⟩ : ∃ e, d = e + 1 := ⟨d - 1, by omega⟩
  have hd : 6 ≤ d := by omega
  unfold R_fewest at hx
  refine ⟨⟨aM_200, rfl, Nat.le_of_ble_eq_true rfl⟩, ?_⟩
  show Ev sc d 200 0 [(2, v0), (0, v1), (9, 0), (9, 0), (9, 0), (9, 0), (9, 0)] [] h (some (0, r.1)) r.2
  refine Ev.blk (is := [.iload_n 1, .i2l]) (pc2 := 2) (L2 := [(2, v0), (0, v1), (9, 0), (9, 0), (9, 0), (9, 0), (9, 0)]) (S2 := [(1, v1)]) (h2 := h) (by decide +kernel) rfl trivial ?_
  obtain ⟨u1, hc, hx⟩ := bca hx
  refine Ev.call (args := [(1, v1)]) (S2 := []) (r1 := (some (0, u1))) (h1 := h) (i := .invokestatic 163) (by decide +kernel) rfl rfl (Nat.le_of_ble_eq_true rfl) (Or.inl rfl) (x_R_isNumber (by omega) hc) ?_
  obtain ⟨ha, hb⟩ := bite hx
  clear hx
  refine Ev.br (i := .ifCond .ne 5) (len := 3) (a := 8) (b := 10) (by decide +kernel) rfl Iff.rfl (fun hc => ?_) (fun hc => ?_)
  · have hx := ha hc
    clear ha hb hc
    refine Ev.blk (is := [.iconst (-1)]) (pc2 := 9) (L2 := [(2, v0), (0, v1), (9, 0), (9, 0), (9, 0), (9, 0), (9, 0)]) (S2 := [(0, (-1))]) (h2 := h) (by decide +kernel) rfl trivial ?_
    cases hx
    exact Ev.ret (i := .ireturn) (len := 1) (by decide +kernel) rfl (finOf (t := some .int) rfl (trivial))
  · have hx := hb hc
    clear ha hb hc
    refine Ev.blk (is := [.iload_n 1, .iconst 2]) (pc2 := 12) (L2 := [(2, v0), (0, v1), (9, 0), (9, 0), (9, 0), (9, 0), (9, 0)]) (S2 := [(0, 2), (0, v1)]) (h2 := h) (by decide +kernel) rfl trivial ?_
    obtain ⟨ha, hb⟩ := bite hx
    clear hx
    refine Ev.br (i := .if_icmp .eq 11) (len := 3) (a := 23) (b := 15) (by decide +kernel) rfl Iff.rfl (fun hc => ?_) (fun hc => ?_)
    · have hx := ha hc
      clear ha hb hc
      refine Ev.blk (is := [.sipush (-2)]) (pc2 := 25) (L2 := [(2, v0), (0, v1), (9, 0), (9, 0), (9, 0), (9, 0), (9, 0)]) (S2 := [(0, (-2))]) (h2 := h) (by decide +kernel) rfl trivial ?_
      cases hx
      exact Ev.ret (i := .ireturn) (len := 1) (by decide +kernel) rfl (finOf (t := some .int) rfl (trivial))
    · have hx := hb hc
      clear ha hb hc
      refine Ev.blk (is := [.iload_n 1, .i2l]) (pc2 := 17) (L2 := [(2, v0), (0, v1), (9, 0), (9, 0), (9, 0), (9, 0), (9, 0)]) (S2 := [(1, v1)]) (h2 := h) (by decide +kernel) rfl trivial ?_
      obtain ⟨u2, hc, hx⟩ := bca hx
      refine Ev.call (args := [(1, v1)]) (S2 := []) (r1 := (some (0, u2))) (h1 := h) (i := .invokestatic 166) (by decide +kernel) rfl rfl (Nat.le_of_ble_eq_true rfl) (Or.inl rfl) (x_R_isPrime (by omega) hc) ?_
      obtain ⟨ha, hb⟩ := bite hx
      clear hx
      refine Ev.br (i := .ifCond .ne 6) (len := 3) (a := 23) (b := 26) (by decide +kernel) rfl Iff.rfl (fun hc => ?_) (fun hc => ?_)
      · have hx := ha hc
        clear ha hb hc
        refine Ev.blk (is := [.sipush (-2)]) (pc2 := 25) (L2 := [(2, v0), (0, v1), (9, 0), (9, 0), (9, 0), (9, 0), (9, 0)]) (S2 := [(0, (-2))]) (h2 := h) (by decide +kernel) rfl trivial ?_
        cases hx
        exact Ev.ret (i := .ireturn) (len := 1) (by decide +kernel) rfl (finOf (t := some .int) rfl (trivial))
      · have hx := hb hc
        clear ha hb hc
        refine Ev.blk (is := [.iconst (-1), .istore_n 2, .sipush 99, .istore_n 3, .iconst 1, .istore 4]) (pc2 := 34) (L2 := [(2, v0), (0, v1), (0, (-1)), (0, 99), (0, 1), (9, 0), (9, 0)]) (S2 := []) (h2 := h) (by decide +kernel) rfl trivial ?_
        exact y_R_fewest_34 hd FU v0 v1 (-1) 99 1 h _ hx
theorem y_R_feed_71 {sc : AS} {d : Nat} (hd : 0 ≤ d) {k18 : Int → Int → Int → Int → Int → Int → Int → AH → Option (Int × AH)} (hk18 : ∀ (v0 : Int) (v1 : Int) (v2 : Int) (v3 : Int) (v4 : Int) (v5 : Int) (v6 : Int) (h : AH) (r : (Int × AH)), k18 v0 v1 v2 v3 v4 v5 v6 h = some r → Ev sc d 201 18 [(2, v0), (0, v1), (0, v2), (0, v3), (0, v4), (0, v5), (0, v6), (9, 0)] [] h (some (0, r.1)) r.2) : ∀ (v0 : Int) (v1 : Int) (v2 : Int) (v3 : Int) (v4 : Int) (v5 : Int) (v6 : Int) (s0 : Int) (h : AH) (r : (Int × AH)), R_feed_71 k18 v0 v1 v2 v3 v4 v5 v6 s0 h = some r → Ev sc d 201 71 [(2, v0), (0, v1), (0, v2), (0, v3), (0, v4), (0, v5), (0, v6), (9, 0)] [(0, s0)] h (some (0, r.1)) r.2 := by
  intro v0 v1 v2 v3 v4 v5 v6 s0 h r hx
  unfold R_feed_71 at hx
  obtain ⟨u1, hg, he, hx⟩ := bgd hx
  refine Ev.blk (is := [.istore 7, .aload_n 0, .getfield 9223]) (pc2 := 77) (L2 := [(2, v0), (0, v1), (0, v2), (0, v3), (0, v4), (0, v5), (0, v6), (0, s0)]) (S2 := [(2, u1)]) (h2 := h) (by decide +kernel) (by subst he; rfl) (by exact hg) ?_
  clear hg he
  obtain ⟨u2, hg, he, hx⟩ := bgd hx
  refine Ev.blk (is := [.aload_n 0, .getfield 9024]) (pc2 := 81) (L2 := [(2, v0), (0, v1), (0, v2), (0, v3), (0, v4), (0, v5), (0, v6), (0, s0)]) (S2 := [(0, u2), (2, u1)]) (h2 := h) (by decide +kernel) (by subst he; rfl) (by exact hg) ?_
  clear hg he
  obtain ⟨u3, hg, he, hx⟩ := bgd hx
  refine Ev.blk (is := [.iload 7, .sipush 24, .sipush 8, .iload 6, .iconst 4, .irem]) (pc2 := 91) (L2 := [(2, v0), (0, v1), (0, v2), (0, v3), (0, v4), (0, v5), (0, v6), (0, s0)]) (S2 := [(0, u3), (0, 8), (0, 24), (0, s0), (0, u2), (2, u1)]) (h2 := h) (by decide +kernel) (by subst he; rfl) (by exact hg) ?_
  clear hg he
  obtain ⟨h4, hg, he, hx⟩ := bgd hx
  refine Ev.blk (is := [.imul, .isub, .ishr, .sipush 255, .iand, .iastore]) (pc2 := 99) (L2 := [(2, v0), (0, v1), (0, v2), (0, v3), (0, v4), (0, v5), (0, v6), (0, s0)]) (S2 := []) (h2 := h4) (by decide +kernel) (by subst he; rfl) (by exact hg) ?_
  clear hg he
  obtain ⟨u5, hg, he, hx⟩ := bgd hx
  refine Ev.blk (is := [.aload_n 0, .dup, .getfield 9024]) (pc2 := 104) (L2 := [(2, v0), (0, v1), (0, v2), (0, v3), (0, v4), (0, v5), (0, v6), (0, s0)]) (S2 := [(0, u5), (2, v0)]) (h2 := h4) (by decide +kernel) (by subst he; rfl) (by exact hg) ?_
  clear hg he
  obtain ⟨h6, hg, he, hx⟩ := bgd hx
  refine Ev.blk (is := [.iconst 1, .iadd, .putfield 9024]) (pc2 := 109) (L2 := [(2, v0), (0, v1), (0, v2), (0, v3), (0, v4), (0, v5), (0, v6), (0, s0)]) (S2 := []) (h2 := h6) (by decide +kernel) (by subst he; rfl) (by exact hg) ?_
  clear hg he
  refine Ev.blk (is := [.iinc 6 1]) (pc2 := 112) (L2 := [(2, v0), (0, v1), (0, v2), (0, v3), (0, v4), (0, v5), (0, w32 (v6 + 1)), (0, s0)]) (S2 := []) (h2 := h6) (by decide +kernel) rfl trivial ?_
  refine Ev.jp (i := .goto (-94)) (len := 3) (pc2 := 18) (by decide +kernel) rfl ?_
  refine Ev.wk (L2 := [(2, v0), (0, v1), (0, v2), (0, v3), (0, v4), (0, v5), (0, w32 (v6 + 1)), (9, 0)]) (wkL_of ⟨Or.inl rfl, ⟨Or.inl rfl, ⟨Or.inl rfl, ⟨Or.inl rfl, ⟨Or.inl rfl, ⟨Or.inl rfl, ⟨Or.inl rfl, ⟨Or.inr rfl, trivial⟩⟩⟩⟩⟩⟩⟩⟩) ?_
  exact hk18 v0 v1 v2 v3 v4 v5 (w32 (v6 + 1)) h6 _ hx
theorem y_R_feed_18 {sc : AS} {d : Nat} (hd : 0 ≤ d) : ∀ (fu : Nat) (v0 : Int) (v1 : Int) (v2 : Int) (v3 : Int) (v4 : Int) (v5 : Int) (v6 : Int) (h : AH) (r : (Int × AH)), R_feed_18 fu v0 v1 v2 v3 v4 v5 v6 h = some r → Ev sc d 201 18 [(2, v0), (0, v1), (0, v2), (0, v3), (0, v4), (0, v5), (0, v6), (9, 0)] [] h (some (0, r.1)) r.2 := by
  intro fu
  induction fu with
  | zero => intro v0 v1 v2 v3 v4 v5 v6 h r hx; unfold R_feed_18 at hx; cases hx
  | succ fu ih =>
    intro v0 v1 v2 v3 v4 v5 v6 h r hx
    unfold R_feed_18 at hx
    refine Ev.blk (is := [.iload 6, .sipush 20]) (pc2 := 22) (L2 := [(2, v0), (0, v1), (0, v2), (0, v3), (0, v4), (0, v5), (0, v6), (9, 0)]) (S2 := [(0, 20), (0, v6)]) (h2 := h) (by decide +kernel) rfl trivial ?_
    obtain ⟨ha, hb⟩ := bite hx
    clear hx
    refine Ev.br (i := .if_icmp .ge 93) (len := 3) (a := 25) (b := 115) (by decide +kernel) rfl Iff.rfl (fun hc => ?_) (fun hc => ?_)
    · have hx := ha hc
      clear ha hb hc
      refine Ev.blk (is := [.iload 6, .iconst 4]) (pc2 := 28) (L2 := [(2, v0), (0, v1), (0, v2), (0, v3), (0, v4), (0, v5), (0, v6), (9, 0)]) (S2 := [(0, 4), (0, v6)]) (h2 := h) (by decide +kernel) rfl trivial ?_
      obtain ⟨ha, hb⟩ := bite hx
      clear hx
      refine Ev.br (i := .if_icmp .ge 7) (len := 3) (a := 31) (b := 35) (by decide +kernel) rfl Iff.rfl (fun hc => ?_) (fun hc => ?_)
      · have hx := ha hc
        clear ha hb hc
        refine Ev.blk (is := [.iload_n 1]) (pc2 := 32) (L2 := [(2, v0), (0, v1), (0, v2), (0, v3), (0, v4), (0, v5), (0, v6), (9, 0)]) (S2 := [(0, v1)]) (h2 := h) (by decide +kernel) rfl trivial ?_
        refine Ev.jp (i := .goto 39) (len := 3) (pc2 := 71) (by decide +kernel) rfl ?_
        exact y_R_feed_71 hd ih v0 v1 v2 v3 v4 v5 v6 v1 h _ hx
      · have hx := hb hc
        clear ha hb hc
        refine Ev.blk (is := [.iload 6, .sipush 8]) (pc2 := 39) (L2 := [(2, v0), (0, v1), (0, v2), (0, v3), (0, v4), (0, v5), (0, v6), (9, 0)]) (S2 := [(0, 8), (0, v6)]) (h2 := h) (by decide +kernel) rfl trivial ?_
        obtain ⟨ha, hb⟩ := bite hx
        clear hx
        refine Ev.br (i := .if_icmp .ge 7) (len := 3) (a := 42) (b := 46) (by decide +kernel) rfl Iff.rfl (fun hc => ?_) (fun hc => ?_)
        · have hx := ha hc
          clear ha hb hc
          refine Ev.blk (is := [.iload_n 2]) (pc2 := 43) (L2 := [(2, v0), (0, v1), (0, v2), (0, v3), (0, v4), (0, v5), (0, v6), (9, 0)]) (S2 := [(0, v2)]) (h2 := h) (by decide +kernel) rfl trivial ?_
          refine Ev.jp (i := .goto 28) (len := 3) (pc2 := 71) (by decide +kernel) rfl ?_
          exact y_R_feed_71 hd ih v0 v1 v2 v3 v4 v5 v6 v2 h _ hx
        · have hx := hb hc
          clear ha hb hc
          refine Ev.blk (is := [.iload 6, .sipush 12]) (pc2 := 50) (L2 := [(2, v0), (0, v1), (0, v2), (0, v3), (0, v4), (0, v5), (0, v6), (9, 0)]) (S2 := [(0, 12), (0, v6)]) (h2 := h) (by decide +kernel) rfl trivial ?_
          obtain ⟨ha, hb⟩ := bite hx
          clear hx
          refine Ev.br (i := .if_icmp .ge 7) (len := 3) (a := 53) (b := 57) (by decide +kernel) rfl Iff.rfl (fun hc => ?_) (fun hc => ?_)
          · have hx := ha hc
            clear ha hb hc
            refine Ev.blk (is := [.iload_n 3]) (pc2 := 54) (L2 := [(2, v0), (0, v1), (0, v2), (0, v3), (0, v4), (0, v5), (0, v6), (9, 0)]) (S2 := [(0, v3)]) (h2 := h) (by decide +kernel) rfl trivial ?_
            refine Ev.jp (i := .goto 17) (len := 3) (pc2 := 71) (by decide +kernel) rfl ?_
            exact y_R_feed_71 hd ih v0 v1 v2 v3 v4 v5 v6 v3 h _ hx
          · have hx := hb hc
            clear ha hb hc
            refine Ev.blk (is := [.iload 6, .sipush 16]) (pc2 := 61) (L2 := [(2, v0), (0, v1), (0, v2), (0, v3), (0, v4), (0, v5), (0, v6), (9, 0)]) (S2 := [(0, 16), (0, v6)]) (h2 := h) (by decide +kernel) rfl trivial ?_
            obtain ⟨ha, hb⟩ := bite hx
            clear hx
            refine Ev.br (i := .if_icmp .ge 8) (len := 3) (a := 64) (b := 69) (by decide +kernel) rfl Iff.rfl (fun hc => ?_) (fun hc => ?_)
            · have hx := ha hc
              clear ha hb hc
              refine Ev.blk (is := [.iload 4]) (pc2 := 66) (L2 := [(2, v0), (0, v1), (0, v2), (0, v3), (0, v4), (0, v5), (0, v6), (9, 0)]) (S2 := [(0, v4)]) (h2 := h) (by decide +kernel) rfl trivial ?_
              refine Ev.jp (i := .goto 5) (len := 3) (pc2 := 71) (by decide +kernel) rfl ?_
              exact y_R_feed_71 hd ih v0 v1 v2 v3 v4 v5 v6 v4 h _ hx
            · have hx := hb hc
              clear ha hb hc
              refine Ev.blk (is := [.iload 5]) (pc2 := 71) (L2 := [(2, v0), (0, v1), (0, v2), (0, v3), (0, v4), (0, v5), (0, v6), (9, 0)]) (S2 := [(0, v5)]) (h2 := h) (by decide +kernel) rfl trivial ?_
              exact y_R_feed_71 hd ih v0 v1 v2 v3 v4 v5 v6 v5 h _ hx
    · have hx := hb hc
      clear ha hb hc
      obtain ⟨u1, hg, he, hx⟩ := bgd hx
      refine Ev.blk (is := [.aload_n 0, .getfield 9024]) (pc2 := 119) (L2 := [(2, v0), (0, v1), (0, v2), (0, v3), (0, v4), (0, v5), (0, v6), (9, 0)]) (S2 := [(0, u1)]) (h2 := h) (by decide +kernel) (by subst he; rfl) (by exact hg) ?_
      clear hg he
      cases hx
      exact Ev.ret (i := .ireturn) (len := 1) (by decide +kernel) rfl (finOf (t := some .int) rfl (trivial))
theorem x_R_feed {sc : AS} {d : Nat} (hd : 1 ≤ d) {v0 : Int} {v1 : Int} {v2 : Int} {v3 : Int} {v4 : Int} {v5 : Int} {h : AH} {r : (Int × AH)} (hx : R_feed v0 v1 v2 v3 v4 v5 h = some r) : Runs sc d 201 [(2, v0), (0, v1), (0, v2), (0, v3), (0, v4), (0, v5)] h (some (0, r.1)) r.2 := by
  obtain ⟨d, rfl⟩ : ∃ e, d = e + 1 := ⟨d - 1, by omega⟩
  have hd : 0 ≤ d := by omega
  unfold R_feed at hx
  refine ⟨⟨aM_201, rfl, Nat.le_of_ble_eq_true rfl⟩, ?_⟩
  show Ev sc d 201 0 [(2, v0), (0, v1), (0, v2), (0, v3), (0, v4), (0, v5), (9, 0), (9, 0)] [] h (some (0, r.1)) r.2
  obtain ⟨u1, hg, he, hx⟩ := bgd hx
  refine Ev.blk (is := [.aload_n 0, .getfield 9024]) (pc2 := 4) (L2 := [(2, v0), (0, v1), (0, v2), (0, v3), (0, v4), (0, v5), (9, 0), (9, 0)]) (S2 := [(0, u1)]) (h2 := h) (by decide +kernel) (by subst he; rfl) (by exact hg) ?_
  clear hg he
  refine Ev.blk (is := [.sipush 20, .iadd, .sipush 400]) (pc2 := 10) (L2 := [(2, v0), (0, v1), (0, v2), (0, v3), (0, v4), (0, v5), (9, 0), (9, 0)]) (S2 := [(0, 400), (0, w32 (u1 + 20))]) (h2 := h) (by decide +kernel) rfl trivial ?_
  obtain ⟨ha, hb⟩ := bite hx
  clear hx
  refine Ev.br (i := .if_icmp .le 5) (len := 3) (a := 13) (b := 15) (by decide +kernel) rfl Iff.rfl (fun hc => ?_) (fun hc => ?_)
  · have hx := ha hc
    clear ha hb hc
    refine Ev.blk (is := [.iconst (-1)]) (pc2 := 14) (L2 := [(2, v0), (0, v1), (0, v2), (0, v3), (0, v4), (0, v5), (9, 0), (9, 0)]) (S2 := [(0, (-1))]) (h2 := h) (by decide +kernel) rfl trivial ?_
    cases hx
    exact Ev.ret (i := .ireturn) (len := 1) (by decide +kernel) rfl (finOf (t := some .int) rfl (trivial))
  · have hx := hb hc
    clear ha hb hc
    refine Ev.blk (is := [.iconst 0, .istore 6]) (pc2 := 18) (L2 := [(2, v0), (0, v1), (0, v2), (0, v3), (0, v4), (0, v5), (0, 0), (9, 0)]) (S2 := []) (h2 := h) (by decide +kernel) rfl trivial ?_
    exact y_R_feed_18 hd FU v0 v1 v2 v3 v4 v5 0 h _ hx
theorem x_R_back {sc : AS} {d : Nat} (hd : 2 ≤ d) {v0 : Int} {v1 : Int} {h : AH} {r : (Int × AH)} (hx : R_back v0 v1 h = some r) : Runs sc d 202 [(2, v0), (0, v1)] h (some (0, r.1)) r.2 := by
  obtain ⟨d, rfl⟩ : ∃ e, d = e + 1 := ⟨d - 1, by omega⟩
  have hd : 1 ≤ d := by omega
  unfold R_back at hx
  refine ⟨⟨aM_202, rfl, Nat.le_of_ble_eq_true rfl⟩, ?_⟩
  show Ev sc d 202 0 [(2, v0), (0, v1)] [] h (some (0, r.1)) r.2
  obtain ⟨u1, hg, he, hx⟩ := bgd hx
  refine Ev.blk (is := [.iload_n 1, .i2l, .lconst 0, .aload_n 0, .getfield 9024]) (pc2 := 7) (L2 := [(2, v0), (0, v1)]) (S2 := [(0, u1), (1, 0), (1, v1)]) (h2 := h) (by decide +kernel) (by subst he; rfl) (by exact hg) ?_
  clear hg he
  refine Ev.blk (is := [.i2l]) (pc2 := 8) (L2 := [(2, v0), (0, v1)]) (S2 := [(1, u1), (1, 0), (1, v1)]) (h2 := h) (by decide +kernel) rfl trivial ?_
  obtain ⟨u2, hc, hx⟩ := bca hx
  refine Ev.call (args := [(1, v1), (1, 0), (1, u1)]) (S2 := []) (r1 := (some (0, u2))) (h1 := h) (i := .invokestatic 162) (by decide +kernel) rfl rfl (Nat.le_of_ble_eq_true rfl) (Or.inl rfl) (x_R_in (by omega) hc) ?_
  obtain ⟨ha, hb⟩ := bite hx
  clear hx
  refine Ev.br (i := .ifCond .ne 5) (len := 3) (a := 14) (b := 16) (by decide +kernel) rfl Iff.rfl (fun hc => ?_) (fun hc => ?_)
  · have hx := ha hc
    clear ha hb hc
    refine Ev.blk (is := [.iconst (-1)]) (pc2 := 15) (L2 := [(2, v0), (0, v1)]) (S2 := [(0, (-1))]) (h2 := h) (by decide +kernel) rfl trivial ?_
    cases hx
    exact Ev.ret (i := .ireturn) (len := 1) (by decide +kernel) rfl (finOf (t := some .int) rfl (trivial))
  · have hx := hb hc
    clear ha hb hc
    obtain ⟨u3, hg, he, hx⟩ := bgd hx
    refine Ev.blk (is := [.aload_n 0, .dup, .getfield 9024]) (pc2 := 21) (L2 := [(2, v0), (0, v1)]) (S2 := [(0, u3), (2, v0)]) (h2 := h) (by decide +kernel) (by subst he; rfl) (by exact hg) ?_
    clear hg he
    obtain ⟨h4, hg, he, hx⟩ := bgd hx
    refine Ev.blk (is := [.iload_n 1, .isub, .putfield 9024]) (pc2 := 26) (L2 := [(2, v0), (0, v1)]) (S2 := []) (h2 := h4) (by decide +kernel) (by subst he; rfl) (by exact hg) ?_
    clear hg he
    obtain ⟨u5, hg, he, hx⟩ := bgd hx
    refine Ev.blk (is := [.aload_n 0, .getfield 9024]) (pc2 := 30) (L2 := [(2, v0), (0, v1)]) (S2 := [(0, u5)]) (h2 := h4) (by decide +kernel) (by subst he; rfl) (by exact hg) ?_
    clear hg he
    cases hx
    exact Ev.ret (i := .ireturn) (len := 1) (by decide +kernel) rfl (finOf (t := some .int) rfl (trivial))
theorem x_R_isLetter {sc : AS} {d : Nat} (hd : 2 ≤ d) {v0 : Int} {v1 : Int} {h : AH} {r : Int} (hx : R_isLetter v0 v1 h = some r) : Runs sc d 205 [(2, v0), (0, v1)] h (some (0, r)) h := by
  obtain ⟨d, rfl⟩ : ∃ e, d = e + 1 := ⟨d - 1, by omega⟩
  have hd : 1 ≤ d := by omega
  unfold R_isLetter at hx
  refine ⟨⟨aM_205, rfl, Nat.le_of_ble_eq_true rfl⟩, ?_⟩
  show Ev sc d 205 0 [(2, v0), (0, v1)] [] h (some (0, r)) h
  obtain ⟨u1, hg, he, hx⟩ := bgd hx
  refine Ev.blk (is := [.iload_n 1, .aload_n 0, .getfield 9024]) (pc2 := 5) (L2 := [(2, v0), (0, v1)]) (S2 := [(0, u1), (0, v1)]) (h2 := h) (by decide +kernel) (by subst he; rfl) (by exact hg) ?_
  clear hg he
  obtain ⟨ha, hb⟩ := bite hx
  clear hx
  refine Ev.br (i := .if_icmp .ge 26) (len := 3) (a := 8) (b := 31) (by decide +kernel) rfl Iff.rfl (fun hc => ?_) (fun hc => ?_)
  · have hx := ha hc
    clear ha hb hc
    obtain ⟨u2, hg, he, hx⟩ := bgd hx
    refine Ev.blk (is := [.aload_n 0, .getfield 9223]) (pc2 := 12) (L2 := [(2, v0), (0, v1)]) (S2 := [(2, u2)]) (h2 := h) (by decide +kernel) (by subst he; rfl) (by exact hg) ?_
    clear hg he
    obtain ⟨u3, hg, he, hx⟩ := bgd hx
    refine Ev.blk (is := [.iload_n 1, .iaload]) (pc2 := 14) (L2 := [(2, v0), (0, v1)]) (S2 := [(0, u3)]) (h2 := h) (by decide +kernel) (by subst he; rfl) (by exact hg) ?_
    clear hg he
    refine Ev.blk (is := [.i2l, .jsr_w 97, .jsr_w 122]) (pc2 := 21) (L2 := [(2, v0), (0, v1)]) (S2 := [(1, 122), (1, 97), (1, u3)]) (h2 := h) (by decide +kernel) rfl trivial ?_
    obtain ⟨u4, hc, hx⟩ := bca hx
    refine Ev.call (args := [(1, u3), (1, 97), (1, 122)]) (S2 := []) (r1 := (some (0, u4))) (h1 := h) (i := .invokestatic 162) (by decide +kernel) rfl rfl (Nat.le_of_ble_eq_true rfl) (Or.inl rfl) (x_R_in (by omega) hc) ?_
    obtain ⟨ha, hb⟩ := bite hx
    clear hx
    refine Ev.br (i := .ifCond .eq 7) (len := 3) (a := 31) (b := 27) (by decide +kernel) rfl Iff.rfl (fun hc => ?_) (fun hc => ?_)
    · have hx := ha hc
      clear ha hb hc
      refine Ev.blk (is := [.iconst 0]) (pc2 := 32) (L2 := [(2, v0), (0, v1)]) (S2 := [(0, 0)]) (h2 := h) (by decide +kernel) rfl trivial ?_
      cases hx
      exact Ev.ret (i := .ireturn) (len := 1) (by decide +kernel) rfl (finOf (t := some .boolean) rfl (bz0))
    · have hx := hb hc
      clear ha hb hc
      refine Ev.blk (is := [.iconst 1]) (pc2 := 28) (L2 := [(2, v0), (0, v1)]) (S2 := [(0, 1)]) (h2 := h) (by decide +kernel) rfl trivial ?_
      refine Ev.jp (i := .goto 4) (len := 3) (pc2 := 32) (by decide +kernel) rfl ?_
      cases hx
      exact Ev.ret (i := .ireturn) (len := 1) (by decide +kernel) rfl (finOf (t := some .boolean) rfl (bz1))
  · have hx := hb hc
    clear ha hb hc
    refine Ev.blk (is := [.iconst 0]) (pc2 := 32) (L2 := [(2, v0), (0, v1)]) (S2 := [(0, 0)]) (h2 := h) (by decide +kernel) rfl trivial ?_
    cases hx
    exact Ev.ret (i := .ireturn) (len := 1) (by decide +kernel) rfl (finOf (t := some .boolean) rfl (bz0))
theorem y_R_wordFrom_4 {sc : AS} {d : Nat} (hd : 0 ≤ d) : ∀ (fu : Nat) (v0 : Int) (v2 : Int) (v3 : Int) (h : AH) (r : Int), R_wordFrom_4 fu v0 v2 v3 h = some r → Ev sc d 207 4 [(2, v0), (9, 0), (0, v2), (0, v3)] [] h (some (0, r)) h := by
  intro fu
  induction fu with
  | zero => intro v0 v2 v3 h r hx; unfold R_wordFrom_4 at hx; cases hx
  | succ fu ih =>
    intro v0 v2 v3 h r hx
    unfold R_wordFrom_4 at hx
    refine Ev.blk (is := [.iload_n 3]) (pc2 := 5) (L2 := [(2, v0), (9, 0), (0, v2), (0, v3)]) (S2 := [(0, v3)]) (h2 := h) (by decide +kernel) rfl trivial ?_
    obtain ⟨ha, hb⟩ := bite hx
    clear hx
    refine Ev.br (i := .ifCond .le 21) (len := 3) (a := 8) (b := 26) (by decide +kernel) rfl Iff.rfl (fun hc => ?_) (fun hc => ?_)
    · have hx := ha hc
      clear ha hb hc
      obtain ⟨u1, hg, he, hx⟩ := bgd hx
      refine Ev.blk (is := [.aload_n 0, .getfield 9231]) (pc2 := 12) (L2 := [(2, v0), (9, 0), (0, v2), (0, v3)]) (S2 := [(2, u1)]) (h2 := h) (by decide +kernel) (by subst he; rfl) (by exact hg) ?_
      clear hg he
      obtain ⟨u2, hg, he, hx⟩ := bgd hx
      refine Ev.blk (is := [.iload_n 2, .baload]) (pc2 := 14) (L2 := [(2, v0), (9, 0), (0, v2), (0, v3)]) (S2 := [(0, u2)]) (h2 := h) (by decide +kernel) (by subst he; rfl) (by exact hg) ?_
      clear hg he
      obtain ⟨ha, hb⟩ := bite hx
      clear hx
      refine Ev.br (i := .ifCond .ne 6) (len := 3) (a := 17) (b := 20) (by decide +kernel) rfl Iff.rfl (fun hc => ?_) (fun hc => ?_)
      · have hx := ha hc
        clear ha hb hc
        refine Ev.blk (is := [.iinc 3 (-1), .iinc 2 1]) (pc2 := 23) (L2 := [(2, v0), (9, 0), (0, w32 (v2 + 1)), (0, w32 (v3 + (-1)))]) (S2 := []) (h2 := h) (by decide +kernel) rfl trivial ?_
        refine Ev.jp (i := .goto (-19)) (len := 3) (pc2 := 4) (by decide +kernel) rfl ?_
        exact ih v0 (w32 (v2 + 1)) (w32 (v3 + (-1))) h _ hx
      · have hx := hb hc
        clear ha hb hc
        refine Ev.blk (is := [.iinc 2 1]) (pc2 := 23) (L2 := [(2, v0), (9, 0), (0, w32 (v2 + 1)), (0, v3)]) (S2 := []) (h2 := h) (by decide +kernel) rfl trivial ?_
        refine Ev.jp (i := .goto (-19)) (len := 3) (pc2 := 4) (by decide +kernel) rfl ?_
        exact ih v0 (w32 (v2 + 1)) v3 h _ hx
    · have hx := hb hc
      clear ha hb hc
      refine Ev.blk (is := [.iload_n 2]) (pc2 := 27) (L2 := [(2, v0), (9, 0), (0, v2), (0, v3)]) (S2 := [(0, v2)]) (h2 := h) (by decide +kernel) rfl trivial ?_
      cases hx
      exact Ev.ret (i := .ireturn) (len := 1) (by decide +kernel) rfl (finOf (t := some .int) rfl (trivial))
theorem x_R_wordFrom {sc : AS} {d : Nat} (hd : 1 ≤ d) {v0 : Int} {v1 : Int} {h : AH} {r : Int} (hx : R_wordFrom v0 v1 h = some r) : Runs sc d 207 [(2, v0), (0, v1)] h (some (0, r)) h := by
  obtain ⟨d, rfl⟩ : ∃ e, d = e + 1 := ⟨d - 1, by omega⟩
  have hd : 0 ≤ d := by omega
  unfold R_wordFrom at hx
  refine ⟨⟨aM_207, rfl, Nat.le_of_ble_eq_true rfl⟩, ?_⟩
  show Ev sc d 207 0 [(2, v0), (0, v1), (9, 0), (9, 0)] [] h (some (0, r)) h
  refine Ev.blk (is := [.iconst 0, .istore_n 2, .iload_n 1, .istore_n 3]) (pc2 := 4) (L2 := [(2, v0), (0, v1), (0, 0), (0, v1)]) (S2 := []) (h2 := h) (by decide +kernel) rfl trivial ?_
  refine Ev.wk (L2 := [(2, v0), (9, 0), (0, 0), (0, v1)]) (wkL_of ⟨Or.inl rfl, ⟨Or.inr rfl, ⟨Or.inl rfl, ⟨Or.inl rfl, trivial⟩⟩⟩⟩) ?_
  exact y_R_wordFrom_4 hd FU v0 0 v1 h _ hx
theorem y_R_isWord_49 {sc : AS} {d : Nat} (hd : 1 ≤ d) : ∀ (v0 : Int) (v2 : Int) (v3 : Int) (h : AH) (r : Int), R_isWord_49 v0 v2 v3 h = some r → Ev sc d 206 49 [(2, v0), (9, 0), (0, v2), (0, v3)] [] h (some (0, r)) h := by
  intro v0 v2 v3 h r hx
  unfold R_isWord_49 at hx
  obtain ⟨u1, hg, he, hx⟩ := bgd hx
  refine Ev.blk (is := [.aload_n 0, .getfield 9026]) (pc2 := 53) (L2 := [(2, v0), (9, 0), (0, v2), (0, v3)]) (S2 := [(0, u1)]) (h2 := h) (by decide +kernel) (by subst he; rfl) (by exact hg) ?_
  clear hg he
  obtain ⟨u2, hg, he, hx⟩ := bgd hx
  refine Ev.blk (is := [.iload_n 3, .iadd, .aload_n 0, .getfield 9029]) (pc2 := 59) (L2 := [(2, v0), (9, 0), (0, v2), (0, v3)]) (S2 := [(0, u2), (0, w32 (u1 + v3))]) (h2 := h) (by decide +kernel) (by subst he; rfl) (by exact hg) ?_
  clear hg he
  obtain ⟨ha, hb⟩ := bite hx
  clear hx
  refine Ev.br (i := .if_icmp .ne 18) (len := 3) (a := 62) (b := 77) (by decide +kernel) rfl Iff.rfl (fun hc => ?_) (fun hc => ?_)
  · have hx := ha hc
    clear ha hb hc
    obtain ⟨u3, hg, he, hx⟩ := bgd hx
    refine Ev.blk (is := [.aload_n 0, .getfield 9231]) (pc2 := 66) (L2 := [(2, v0), (9, 0), (0, v2), (0, v3)]) (S2 := [(2, u3)]) (h2 := h) (by decide +kernel) (by subst he; rfl) (by exact hg) ?_
    clear hg he
    obtain ⟨u4, hg, he, hx⟩ := bgd hx
    refine Ev.blk (is := [.iload_n 2, .iload_n 3, .iadd, .baload]) (pc2 := 70) (L2 := [(2, v0), (9, 0), (0, v2), (0, v3)]) (S2 := [(0, u4)]) (h2 := h) (by decide +kernel) (by subst he; rfl) (by exact hg) ?_
    clear hg he
    obtain ⟨ha, hb⟩ := bite hx
    clear hx
    refine Ev.br (i := .ifCond .ne 7) (len := 3) (a := 73) (b := 77) (by decide +kernel) rfl Iff.rfl (fun hc => ?_) (fun hc => ?_)
    · have hx := ha hc
      clear ha hb hc
      refine Ev.blk (is := [.iconst 1]) (pc2 := 74) (L2 := [(2, v0), (9, 0), (0, v2), (0, v3)]) (S2 := [(0, 1)]) (h2 := h) (by decide +kernel) rfl trivial ?_
      refine Ev.jp (i := .goto 4) (len := 3) (pc2 := 78) (by decide +kernel) rfl ?_
      cases hx
      exact Ev.ret (i := .ireturn) (len := 1) (by decide +kernel) rfl (finOf (t := some .boolean) rfl (bz1))
    · have hx := hb hc
      clear ha hb hc
      refine Ev.blk (is := [.iconst 0]) (pc2 := 78) (L2 := [(2, v0), (9, 0), (0, v2), (0, v3)]) (S2 := [(0, 0)]) (h2 := h) (by decide +kernel) rfl trivial ?_
      cases hx
      exact Ev.ret (i := .ireturn) (len := 1) (by decide +kernel) rfl (finOf (t := some .boolean) rfl (bz0))
  · have hx := hb hc
    clear ha hb hc
    refine Ev.blk (is := [.iconst 0]) (pc2 := 78) (L2 := [(2, v0), (9, 0), (0, v2), (0, v3)]) (S2 := [(0, 0)]) (h2 := h) (by decide +kernel) rfl trivial ?_
    cases hx
    exact Ev.ret (i := .ireturn) (len := 1) (by decide +kernel) rfl (finOf (t := some .boolean) rfl (bz0))
theorem y_R_isWord_8 {sc : AS} {d : Nat} (hd : 1 ≤ d) : ∀ (fu : Nat) (v0 : Int) (v2 : Int) (v3 : Int) (h : AH) (r : Int), R_isWord_8 fu v0 v2 v3 h = some r → Ev sc d 206 8 [(2, v0), (9, 0), (0, v2), (0, v3)] [] h (some (0, r)) h := by
  intro fu
  induction fu with
  | zero => intro v0 v2 v3 h r hx; unfold R_isWord_8 at hx; cases hx
  | succ fu ih =>
    intro v0 v2 v3 h r hx
    unfold R_isWord_8 at hx
    obtain ⟨u1, hg, he, hx⟩ := bgd hx
    refine Ev.blk (is := [.aload_n 0, .getfield 9026]) (pc2 := 12) (L2 := [(2, v0), (9, 0), (0, v2), (0, v3)]) (S2 := [(0, u1)]) (h2 := h) (by decide +kernel) (by subst he; rfl) (by exact hg) ?_
    clear hg he
    obtain ⟨u2, hg, he, hx⟩ := bgd hx
    refine Ev.blk (is := [.iload_n 3, .iadd, .aload_n 0, .getfield 9029]) (pc2 := 18) (L2 := [(2, v0), (9, 0), (0, v2), (0, v3)]) (S2 := [(0, u2), (0, w32 (u1 + v3))]) (h2 := h) (by decide +kernel) (by subst he; rfl) (by exact hg) ?_
    clear hg he
    obtain ⟨ha, hb⟩ := bite hx
    clear hx
    refine Ev.br (i := .if_icmp .ge 31) (len := 3) (a := 21) (b := 49) (by decide +kernel) rfl Iff.rfl (fun hc => ?_) (fun hc => ?_)
    · have hx := ha hc
      clear ha hb hc
      obtain ⟨u3, hg, he, hx⟩ := bgd hx
      refine Ev.blk (is := [.aload_n 0, .getfield 9231]) (pc2 := 25) (L2 := [(2, v0), (9, 0), (0, v2), (0, v3)]) (S2 := [(2, u3)]) (h2 := h) (by decide +kernel) (by subst he; rfl) (by exact hg) ?_
      clear hg he
      obtain ⟨u4, hg, he, hx⟩ := bgd hx
      refine Ev.blk (is := [.iload_n 2, .iload_n 3, .iadd, .baload]) (pc2 := 29) (L2 := [(2, v0), (9, 0), (0, v2), (0, v3)]) (S2 := [(0, u4)]) (h2 := h) (by decide +kernel) (by subst he; rfl) (by exact hg) ?_
      clear hg he
      obtain ⟨u5, hg, he, hx⟩ := bgd hx
      refine Ev.blk (is := [.aload_n 0, .getfield 9223]) (pc2 := 33) (L2 := [(2, v0), (9, 0), (0, v2), (0, v3)]) (S2 := [(2, u5), (0, u4)]) (h2 := h) (by decide +kernel) (by subst he; rfl) (by exact hg) ?_
      clear hg he
      obtain ⟨u6, hg, he, hx⟩ := bgd hx
      refine Ev.blk (is := [.aload_n 0, .getfield 9026]) (pc2 := 37) (L2 := [(2, v0), (9, 0), (0, v2), (0, v3)]) (S2 := [(0, u6), (2, u5), (0, u4)]) (h2 := h) (by decide +kernel) (by subst he; rfl) (by exact hg) ?_
      clear hg he
      obtain ⟨u7, hg, he, hx⟩ := bgd hx
      refine Ev.blk (is := [.iload_n 3, .iadd, .iaload]) (pc2 := 40) (L2 := [(2, v0), (9, 0), (0, v2), (0, v3)]) (S2 := [(0, u7), (0, u4)]) (h2 := h) (by decide +kernel) (by subst he; rfl) (by exact hg) ?_
      clear hg he
      obtain ⟨ha, hb⟩ := bite hx
      clear hx
      refine Ev.br (i := .if_icmp .ne 9) (len := 3) (a := 43) (b := 49) (by decide +kernel) rfl Iff.rfl (fun hc => ?_) (fun hc => ?_)
      · have hx := ha hc
        clear ha hb hc
        refine Ev.blk (is := [.iinc 3 1]) (pc2 := 46) (L2 := [(2, v0), (9, 0), (0, v2), (0, w32 (v3 + 1))]) (S2 := []) (h2 := h) (by decide +kernel) rfl trivial ?_
        refine Ev.jp (i := .goto (-38)) (len := 3) (pc2 := 8) (by decide +kernel) rfl ?_
        exact ih v0 v2 (w32 (v3 + 1)) h _ hx
      · have hx := hb hc
        clear ha hb hc
        exact y_R_isWord_49 hd v0 v2 v3 h _ hx
    · have hx := hb hc
      clear ha hb hc
      exact y_R_isWord_49 hd v0 v2 v3 h _ hx
theorem x_R_isWord {sc : AS} {d : Nat} (hd : 2 ≤ d) {v0 : Int} {v1 : Int} {h : AH} {r : Int} (hx : R_isWord v0 v1 h = some r) : Runs sc d 206 [(2, v0), (0, v1)] h (some (0, r)) h := by
  obtain ⟨d, rfl⟩ : ∃ e, d = e + 1 := ⟨d - 1, by omega⟩
  have hd : 1 ≤ d := by omega
  unfold R_isWord at hx
  refine ⟨⟨aM_206, rfl, Nat.le_of_ble_eq_true rfl⟩, ?_⟩
  show Ev sc d 206 0 [(2, v0), (0, v1), (9, 0), (9, 0)] [] h (some (0, r)) h
  refine Ev.blk (is := [.aload_n 0, .iload_n 1]) (pc2 := 2) (L2 := [(2, v0), (0, v1), (9, 0), (9, 0)]) (S2 := [(0, v1), (2, v0)]) (h2 := h) (by decide +kernel) rfl trivial ?_
  obtain ⟨_, hg, -, hx⟩ := bgd hx
  obtain ⟨u1, hc, hx⟩ := bca hx
  refine Ev.call (args := [(2, v0), (0, v1)]) (S2 := []) (r1 := (some (0, u1))) (h1 := h) (i := .invokevirtual 207) (by decide +kernel) rfl rfl (Nat.le_of_ble_eq_true rfl) (Or.inr (Or.inl ⟨rfl, hg, by decide +kernel⟩)) (x_R_wordFrom (by omega) hc) ?_
  refine Ev.blk (is := [.istore_n 2, .iconst 0, .istore_n 3]) (pc2 := 8) (L2 := [(2, v0), (0, v1), (0, u1), (0, 0)]) (S2 := []) (h2 := h) (by decide +kernel) rfl trivial ?_
  refine Ev.wk (L2 := [(2, v0), (9, 0), (0, u1), (0, 0)]) (wkL_of ⟨Or.inl rfl, ⟨Or.inr rfl, ⟨Or.inl rfl, ⟨Or.inl rfl, trivial⟩⟩⟩⟩) ?_
  exact y_R_isWord_8 hd FU v0 u1 0 h _ hx
