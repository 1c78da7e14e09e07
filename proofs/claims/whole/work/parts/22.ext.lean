/-! the methods run as their shallow functions say -/
theorem x_Finder_lay {sc : AS} {d : Nat} (hd : 5 ≤ d) {v0 : Int} {v1 : Int} {v2 : Int} {v3 : Int} {h : AH} {r : (Int × AH)} (hx : Finder_lay v0 v1 v2 v3 h = some r) : Runs sc d 18 [(2, v0), (2, v1), (0, v2), (0, v3)] h (some (0, r.1)) r.2 := by
  obtain ⟨d, rfl⟩ : ∃ e, d = e + 1 := ⟨d - 1, by omega⟩
  have hd : 4 ≤ d := by omega
  unfold Finder_lay at hx
  refine ⟨⟨aM_18, rfl, Nat.le_of_ble_eq_true rfl⟩, ?_⟩
  show Ev sc d 18 0 [(2, v0), (2, v1), (0, v2), (0, v3)] [] h (some (0, r.1)) r.2
  refine Ev.blk (is := [.aload_n 1, .iload_n 2, .iload_n 3]) (pc2 := 3) (L2 := [(2, v0), (2, v1), (0, v2), (0, v3)]) (S2 := [(0, v3), (0, v2), (2, v1)]) (h2 := h) (by decide +kernel) rfl trivial ?_
  obtain ⟨_, hg, -, hx⟩ := bgd hx
  obtain ⟨h2, hc, hx⟩ := bca hx
  refine Ev.call (args := [(2, v1), (0, v2), (0, v3)]) (S2 := []) (r1 := none) (h1 := h2) (i := .invokevirtual 19) (by decide +kernel) rfl rfl (Nat.le_of_ble_eq_true rfl) (Or.inr (Or.inl ⟨rfl, hg, by decide +kernel⟩)) (x_Line_begin (by omega) hc) ?_
  refine Ev.blk (is := [.iload_n 2]) (pc2 := 7) (L2 := [(2, v0), (2, v1), (0, v2), (0, v3)]) (S2 := [(0, v2)]) (h2 := h2) (by decide +kernel) rfl trivial ?_
  obtain ⟨u3, hc, hx⟩ := bca hx
  refine Ev.call (args := [(0, v2)]) (S2 := []) (r1 := (some (0, u3))) (h1 := h2) (i := .invokestatic 20) (by decide +kernel) rfl rfl (Nat.le_of_ble_eq_true rfl) (Or.inl rfl) (x_Arithmetic_isPrime (by omega) hc) ?_
  obtain ⟨ha, hb⟩ := bite hx
  clear hx
  refine Ev.br (i := .ifCond .ne 5) (len := 3) (a := 13) (b := 15) (by decide +kernel) rfl Iff.rfl (fun hc => ?_) (fun hc => ?_)
  · have hx := ha hc
    clear ha hb hc
    refine Ev.blk (is := [.iconst 0]) (pc2 := 14) (L2 := [(2, v0), (2, v1), (0, v2), (0, v3)]) (S2 := [(0, 0)]) (h2 := h2) (by decide +kernel) rfl trivial ?_
    cases hx
    exact Ev.ret (i := .ireturn) (len := 1) (by decide +kernel) rfl (finOf (t := some .boolean) rfl (bz0))
  · have hx := hb hc
    clear ha hb hc
    refine Ev.blk (is := [.iload_n 3]) (pc2 := 16) (L2 := [(2, v0), (2, v1), (0, v2), (0, v3)]) (S2 := [(0, v3)]) (h2 := h2) (by decide +kernel) rfl trivial ?_
    obtain ⟨ha, hb⟩ := bite hx
    clear hx
    refine Ev.br (i := .ifCond .ne 15) (len := 3) (a := 19) (b := 31) (by decide +kernel) rfl Iff.rfl (fun hc => ?_) (fun hc => ?_)
    · have hx := ha hc
      clear ha hb hc
      refine Ev.blk (is := [.iload_n 2, .sipush 100]) (pc2 := 22) (L2 := [(2, v0), (2, v1), (0, v2), (0, v3)]) (S2 := [(0, 100), (0, v2)]) (h2 := h2) (by decide +kernel) rfl trivial ?_
      obtain ⟨ha, hb⟩ := bite hx
      clear hx
      refine Ev.br (i := .if_icmp .ge 7) (len := 3) (a := 25) (b := 29) (by decide +kernel) rfl Iff.rfl (fun hc => ?_) (fun hc => ?_)
      · have hx := ha hc
        clear ha hb hc
        refine Ev.blk (is := [.iconst 1]) (pc2 := 26) (L2 := [(2, v0), (2, v1), (0, v2), (0, v3)]) (S2 := [(0, 1)]) (h2 := h2) (by decide +kernel) rfl trivial ?_
        refine Ev.jp (i := .goto 4) (len := 3) (pc2 := 30) (by decide +kernel) rfl ?_
        cases hx
        exact Ev.ret (i := .ireturn) (len := 1) (by decide +kernel) rfl (finOf (t := some .boolean) rfl (bz1))
      · have hx := hb hc
        clear ha hb hc
        refine Ev.blk (is := [.iconst 0]) (pc2 := 30) (L2 := [(2, v0), (2, v1), (0, v2), (0, v3)]) (S2 := [(0, 0)]) (h2 := h2) (by decide +kernel) rfl trivial ?_
        cases hx
        exact Ev.ret (i := .ireturn) (len := 1) (by decide +kernel) rfl (finOf (t := some .boolean) rfl (bz0))
    · have hx := hb hc
      clear ha hb hc
      refine Ev.blk (is := [.iload_n 2, .iconst 2]) (pc2 := 33) (L2 := [(2, v0), (2, v1), (0, v2), (0, v3)]) (S2 := [(0, 2), (0, v2)]) (h2 := h2) (by decide +kernel) rfl trivial ?_
      obtain ⟨ha, hb⟩ := bite hx
      clear hx
      refine Ev.br (i := .if_icmp .ne 5) (len := 3) (a := 36) (b := 38) (by decide +kernel) rfl Iff.rfl (fun hc => ?_) (fun hc => ?_)
      · have hx := ha hc
        clear ha hb hc
        refine Ev.blk (is := [.iconst 0]) (pc2 := 37) (L2 := [(2, v0), (2, v1), (0, v2), (0, v3)]) (S2 := [(0, 0)]) (h2 := h2) (by decide +kernel) rfl trivial ?_
        cases hx
        exact Ev.ret (i := .ireturn) (len := 1) (by decide +kernel) rfl (finOf (t := some .boolean) rfl (bz0))
      · have hx := hb hc
        clear ha hb hc
        obtain ⟨u4, hg, he, hx⟩ := bgd hx
        refine Ev.blk (is := [.aload_n 0, .getfield 1201]) (pc2 := 42) (L2 := [(2, v0), (2, v1), (0, v2), (0, v3)]) (S2 := [(2, u4)]) (h2 := h2) (by decide +kernel) (by subst he; rfl) (by exact hg) ?_
        clear hg he
        refine Ev.blk (is := [.iload_n 2, .iconst 1, .isub]) (pc2 := 45) (L2 := [(2, v0), (2, v1), (0, v2), (0, v3)]) (S2 := [(0, w32 (v2 - 1)), (2, u4)]) (h2 := h2) (by decide +kernel) rfl trivial ?_
        obtain ⟨_, hg, -, hx⟩ := bgd hx
        obtain ⟨h6, hc, hx⟩ := bca hx
        refine Ev.call (args := [(2, u4), (0, w32 (v2 - 1))]) (S2 := []) (r1 := none) (h1 := h6) (i := .invokevirtual 23) (by decide +kernel) rfl rfl (Nat.le_of_ble_eq_true rfl) (Or.inr (Or.inl ⟨rfl, hg, by decide +kernel⟩)) (x_Factors_split (by omega) hc) ?_
        obtain ⟨u7, hg, he, hx⟩ := bgd hx
        refine Ev.blk (is := [.aload_n 0, .getfield 1202]) (pc2 := 52) (L2 := [(2, v0), (2, v1), (0, v2), (0, v3)]) (S2 := [(2, u7)]) (h2 := h6) (by decide +kernel) (by subst he; rfl) (by exact hg) ?_
        clear hg he
        refine Ev.blk (is := [.iload_n 2, .iconst 1, .iadd]) (pc2 := 55) (L2 := [(2, v0), (2, v1), (0, v2), (0, v3)]) (S2 := [(0, w32 (v2 + 1)), (2, u7)]) (h2 := h6) (by decide +kernel) rfl trivial ?_
        obtain ⟨_, hg, -, hx⟩ := bgd hx
        obtain ⟨h9, hc, hx⟩ := bca hx
        refine Ev.call (args := [(2, u7), (0, w32 (v2 + 1))]) (S2 := []) (r1 := none) (h1 := h9) (i := .invokevirtual 23) (by decide +kernel) rfl rfl (Nat.le_of_ble_eq_true rfl) (Or.inr (Or.inl ⟨rfl, hg, by decide +kernel⟩)) (x_Factors_split (by omega) hc) ?_
        refine Ev.blk (is := [.iload_n 3]) (pc2 := 59) (L2 := [(2, v0), (2, v1), (0, v2), (0, v3)]) (S2 := [(0, v3)]) (h2 := h9) (by decide +kernel) rfl trivial ?_
        obtain ⟨ha, hb⟩ := bite hx
        clear hx
        by_cases hc0 : v3 = 1
        · have hx := ha hc0
          clear ha hb
          refine Ev.jp (i := .tableswitch 69 1 3 #[25, 39, 55]) (len := 25) (pc2 := 84) (by decide +kernel) (by rw [hc0]; rfl) ?_
          clear hc0
          obtain ⟨u10, hg, he, hx⟩ := bgd hx
          refine Ev.blk (is := [.aload_n 1, .getfield 3200]) (pc2 := 88) (L2 := [(2, v0), (2, v1), (0, v2), (0, v3)]) (S2 := [(2, u10)]) (h2 := h9) (by decide +kernel) (by subst he; rfl) (by exact hg) ?_
          clear hg he
          obtain ⟨u11, hg, he, hx⟩ := bgd hx
          refine Ev.blk (is := [.aload_n 0, .getfield 1201]) (pc2 := 92) (L2 := [(2, v0), (2, v1), (0, v2), (0, v3)]) (S2 := [(2, u11), (2, u10)]) (h2 := h9) (by decide +kernel) (by subst he; rfl) (by exact hg) ?_
          clear hg he
          obtain ⟨h13, hc, hx⟩ := bca hx
          refine Ev.call (args := [(2, u10), (2, u11)]) (S2 := []) (r1 := none) (h1 := h13) (i := .invokestatic 27) (by decide +kernel) rfl rfl (Nat.le_of_ble_eq_true rfl) (Or.inl rfl) (x_Finder_layAll (by omega) hc) ?_
          refine Ev.jp (i := .goto 52) (len := 3) (pc2 := 147) (by decide +kernel) rfl ?_
          refine Ev.blk (is := [.iconst 1]) (pc2 := 148) (L2 := [(2, v0), (2, v1), (0, v2), (0, v3)]) (S2 := [(0, 1)]) (h2 := h13) (by decide +kernel) rfl trivial ?_
          cases hx
          exact Ev.ret (i := .ireturn) (len := 1) (by decide +kernel) rfl (finOf (t := some .boolean) rfl (bz1))
        have hx := hb hc0
        clear ha hb
        obtain ⟨ha, hb⟩ := bite hx
        clear hx
        by_cases hc1 : v3 = 2
        · have hx := ha hc1
          clear ha hb
          refine Ev.jp (i := .tableswitch 69 1 3 #[25, 39, 55]) (len := 25) (pc2 := 98) (by decide +kernel) (by rw [hc1]; rfl) ?_
          clear hc1
          obtain ⟨u14, hg, he, hx⟩ := bgd hx
          refine Ev.blk (is := [.aload_n 0, .aload_n 1, .aload_n 0, .getfield 1201]) (pc2 := 104) (L2 := [(2, v0), (2, v1), (0, v2), (0, v3)]) (S2 := [(2, u14), (2, v1), (2, v0)]) (h2 := h9) (by decide +kernel) (by subst he; rfl) (by exact hg) ?_
          clear hg he
          obtain ⟨u15, hg, he, hx⟩ := bgd hx
          refine Ev.blk (is := [.getfield 2]) (pc2 := 107) (L2 := [(2, v0), (2, v1), (0, v2), (0, v3)]) (S2 := [(0, u15), (2, v1), (2, v0)]) (h2 := h9) (by decide +kernel) (by subst he; rfl) (by exact hg) ?_
          clear hg he
          refine Ev.blk (is := [.iconst 0]) (pc2 := 108) (L2 := [(2, v0), (2, v1), (0, v2), (0, v3)]) (S2 := [(0, 0), (0, u15), (2, v1), (2, v0)]) (h2 := h9) (by decide +kernel) rfl trivial ?_
          obtain ⟨_, hg, -, hx⟩ := bgd hx
          obtain ⟨h17, hc, hx⟩ := bca hx
          refine Ev.call (args := [(2, v0), (2, v1), (0, u15), (0, 0)]) (S2 := []) (r1 := none) (h1 := h17) (i := .invokevirtual 31) (by decide +kernel) rfl rfl (Nat.le_of_ble_eq_true rfl) (Or.inr (Or.inl ⟨rfl, hg, by decide +kernel⟩)) (x_Finder_layByTurns (by omega) hc) ?_
          refine Ev.jp (i := .goto 36) (len := 3) (pc2 := 147) (by decide +kernel) rfl ?_
          refine Ev.blk (is := [.iconst 1]) (pc2 := 148) (L2 := [(2, v0), (2, v1), (0, v2), (0, v3)]) (S2 := [(0, 1)]) (h2 := h17) (by decide +kernel) rfl trivial ?_
          cases hx
          exact Ev.ret (i := .ireturn) (len := 1) (by decide +kernel) rfl (finOf (t := some .boolean) rfl (bz1))
        have hx := hb hc1
        clear ha hb
        obtain ⟨ha, hb⟩ := bite hx
        clear hx
        by_cases hc2 : v3 = 3
        · have hx := ha hc2
          clear ha hb
          refine Ev.jp (i := .tableswitch 69 1 3 #[25, 39, 55]) (len := 25) (pc2 := 114) (by decide +kernel) (by rw [hc2]; rfl) ?_
          clear hc2
          obtain ⟨u18, hg, he, hx⟩ := bgd hx
          refine Ev.blk (is := [.aload_n 1, .getfield 3201]) (pc2 := 118) (L2 := [(2, v0), (2, v1), (0, v2), (0, v3)]) (S2 := [(2, u18)]) (h2 := h9) (by decide +kernel) (by subst he; rfl) (by exact hg) ?_
          clear hg he
          obtain ⟨u19, hg, he, hx⟩ := bgd hx
          refine Ev.blk (is := [.aload_n 0, .getfield 1202]) (pc2 := 122) (L2 := [(2, v0), (2, v1), (0, v2), (0, v3)]) (S2 := [(2, u19), (2, u18)]) (h2 := h9) (by decide +kernel) (by subst he; rfl) (by exact hg) ?_
          clear hg he
          obtain ⟨h21, hc, hx⟩ := bca hx
          refine Ev.call (args := [(2, u18), (2, u19)]) (S2 := []) (r1 := none) (h1 := h21) (i := .invokestatic 27) (by decide +kernel) rfl rfl (Nat.le_of_ble_eq_true rfl) (Or.inl rfl) (x_Finder_layAll (by omega) hc) ?_
          refine Ev.jp (i := .goto 22) (len := 3) (pc2 := 147) (by decide +kernel) rfl ?_
          refine Ev.blk (is := [.iconst 1]) (pc2 := 148) (L2 := [(2, v0), (2, v1), (0, v2), (0, v3)]) (S2 := [(0, 1)]) (h2 := h21) (by decide +kernel) rfl trivial ?_
          cases hx
          exact Ev.ret (i := .ireturn) (len := 1) (by decide +kernel) rfl (finOf (t := some .boolean) rfl (bz1))
        have hx := hb hc2
        clear ha hb
        refine Ev.jp (i := .tableswitch 69 1 3 #[25, 39, 55]) (len := 25) (pc2 := 128) (by decide +kernel) (jsw (by omega)) ?_
        clear hc0 hc1 hc2
        obtain ⟨u22, hg, he, hx⟩ := bgd hx
        refine Ev.blk (is := [.aload_n 0, .aload_n 1, .aload_n 0, .getfield 1201]) (pc2 := 134) (L2 := [(2, v0), (2, v1), (0, v2), (0, v3)]) (S2 := [(2, u22), (2, v1), (2, v0)]) (h2 := h9) (by decide +kernel) (by subst he; rfl) (by exact hg) ?_
        clear hg he
        obtain ⟨u23, hg, he, hx⟩ := bgd hx
        refine Ev.blk (is := [.getfield 2]) (pc2 := 137) (L2 := [(2, v0), (2, v1), (0, v2), (0, v3)]) (S2 := [(0, u23), (2, v1), (2, v0)]) (h2 := h9) (by decide +kernel) (by subst he; rfl) (by exact hg) ?_
        clear hg he
        obtain ⟨u24, hg, he, hx⟩ := bgd hx
        refine Ev.blk (is := [.aload_n 0, .getfield 1202]) (pc2 := 141) (L2 := [(2, v0), (2, v1), (0, v2), (0, v3)]) (S2 := [(2, u24), (0, u23), (2, v1), (2, v0)]) (h2 := h9) (by decide +kernel) (by subst he; rfl) (by exact hg) ?_
        clear hg he
        obtain ⟨u25, hg, he, hx⟩ := bgd hx
        refine Ev.blk (is := [.getfield 2]) (pc2 := 144) (L2 := [(2, v0), (2, v1), (0, v2), (0, v3)]) (S2 := [(0, u25), (0, u23), (2, v1), (2, v0)]) (h2 := h9) (by decide +kernel) (by subst he; rfl) (by exact hg) ?_
        clear hg he
        obtain ⟨_, hg, -, hx⟩ := bgd hx
        obtain ⟨h27, hc, hx⟩ := bca hx
        refine Ev.call (args := [(2, v0), (2, v1), (0, u23), (0, u25)]) (S2 := []) (r1 := none) (h1 := h27) (i := .invokevirtual 31) (by decide +kernel) rfl rfl (Nat.le_of_ble_eq_true rfl) (Or.inr (Or.inl ⟨rfl, hg, by decide +kernel⟩)) (x_Finder_layByTurns (by omega) hc) ?_
        refine Ev.blk (is := [.iconst 1]) (pc2 := 148) (L2 := [(2, v0), (2, v1), (0, v2), (0, v3)]) (S2 := [(0, 1)]) (h2 := h27) (by decide +kernel) rfl trivial ?_
        cases hx
        exact Ev.ret (i := .ireturn) (len := 1) (by decide +kernel) rfl (finOf (t := some .boolean) rfl (bz1))
theorem x_Checker_rowFault {sc : AS} {d : Nat} (hd : 2 ≤ d) {v0 : Int} {v1 : Int} {v2 : Int} {h : AH} {r : Int} (hx : Checker_rowFault v0 v1 v2 = some r) : Runs sc d 41 [(0, v0), (0, v1), (0, v2)] h (some (0, r)) h := by
  obtain ⟨d, rfl⟩ : ∃ e, d = e + 1 := ⟨d - 1, by omega⟩
  have hd : 1 ≤ d := by omega
  unfold Checker_rowFault at hx
  refine ⟨⟨aM_41, rfl, Nat.le_of_ble_eq_true rfl⟩, ?_⟩
  show Ev sc d 41 0 [(0, v0), (0, v1), (0, v2)] [] h (some (0, r)) h
  refine Ev.blk (is := [.iload_n 2, .i2l, .iload_n 0, .iconst 1, .isub, .i2l, .iload_n 0, .i2l]) (pc2 := 8) (L2 := [(0, v0), (0, v1), (0, v2)]) (S2 := [(1, v0), (1, w32 (v0 - 1)), (1, v2)]) (h2 := h) (by decide +kernel) rfl trivial ?_
  obtain ⟨u1, hc, hx⟩ := bca hx
  refine Ev.call (args := [(1, v2), (1, w32 (v0 - 1)), (1, v0)]) (S2 := []) (r1 := (some (1, u1))) (h1 := h) (i := .invokestatic 22) (by decide +kernel) rfl rfl (Nat.le_of_ble_eq_true rfl) (Or.inl rfl) (x_Arithmetic_powerLeft (by omega) hc) ?_
  refine Ev.blk (is := [.lconst 1, .lcmp]) (pc2 := 13) (L2 := [(0, v0), (0, v1), (0, v2)]) (S2 := [(0, cmpL u1 1)]) (h2 := h) (by decide +kernel) rfl trivial ?_
  obtain ⟨ha, hb⟩ := bite hx
  clear hx
  refine Ev.br (i := .ifCond .eq 5) (len := 3) (a := 18) (b := 16) (by decide +kernel) rfl cmpL_eq (fun hc => ?_) (fun hc => ?_)
  · have hx := ha hc
    clear ha hb hc
    refine Ev.blk (is := [.iload_n 1, .iconst 1]) (pc2 := 20) (L2 := [(0, v0), (0, v1), (0, v2)]) (S2 := [(0, 1), (0, v1)]) (h2 := h) (by decide +kernel) rfl trivial ?_
    obtain ⟨ha, hb⟩ := bite hx
    clear hx
    refine Ev.br (i := .if_icmp .lt 28) (len := 3) (a := 48) (b := 23) (by decide +kernel) rfl Iff.rfl (fun hc => ?_) (fun hc => ?_)
    · have hx := ha hc
      clear ha hb hc
      refine Ev.blk (is := [.sipush 6]) (pc2 := 50) (L2 := [(0, v0), (0, v1), (0, v2)]) (S2 := [(0, 6)]) (h2 := h) (by decide +kernel) rfl trivial ?_
      refine Ev.jp (i := .goto 4) (len := 3) (pc2 := 54) (by decide +kernel) rfl ?_
      cases hx
      exact Ev.ret (i := .ireturn) (len := 1) (by decide +kernel) rfl (finOf (t := some .int) rfl (trivial))
    · have hx := hb hc
      clear ha hb hc
      obtain ⟨u2, hg, he, hx⟩ := bgd hx
      refine Ev.blk (is := [.iload_n 2, .i2l, .iload_n 0, .iconst 1, .isub, .iload_n 1, .idiv]) (pc2 := 30) (L2 := [(0, v0), (0, v1), (0, v2)]) (S2 := [(0, u2), (1, v2)]) (h2 := h) (by decide +kernel) (by subst he; rfl) (by exact hg) ?_
      clear hg he
      refine Ev.blk (is := [.i2l, .iload_n 0, .i2l]) (pc2 := 33) (L2 := [(0, v0), (0, v1), (0, v2)]) (S2 := [(1, v0), (1, u2), (1, v2)]) (h2 := h) (by decide +kernel) rfl trivial ?_
      obtain ⟨u3, hc, hx⟩ := bca hx
      refine Ev.call (args := [(1, v2), (1, u2), (1, v0)]) (S2 := []) (r1 := (some (1, u3))) (h1 := h) (i := .invokestatic 22) (by decide +kernel) rfl rfl (Nat.le_of_ble_eq_true rfl) (Or.inl rfl) (x_Arithmetic_powerLeft (by omega) hc) ?_
      refine Ev.blk (is := [.lconst 1, .lsub, .iload_n 0, .i2l]) (pc2 := 40) (L2 := [(0, v0), (0, v1), (0, v2)]) (S2 := [(1, v0), (1, w64 (u3 - 1))]) (h2 := h) (by decide +kernel) rfl trivial ?_
      obtain ⟨u4, hc, hx⟩ := bca hx
      refine Ev.call (args := [(1, w64 (u3 - 1)), (1, v0)]) (S2 := []) (r1 := (some (1, u4))) (h1 := h) (i := .invokestatic 37) (by decide +kernel) rfl rfl (Nat.le_of_ble_eq_true rfl) (Or.inl rfl) (x_Arithmetic_commonOf (by omega) hc) ?_
      refine Ev.blk (is := [.lconst 1, .lcmp]) (pc2 := 45) (L2 := [(0, v0), (0, v1), (0, v2)]) (S2 := [(0, cmpL u4 1)]) (h2 := h) (by decide +kernel) rfl trivial ?_
      obtain ⟨ha, hb⟩ := bite hx
      clear hx
      refine Ev.br (i := .ifCond .eq 8) (len := 3) (a := 53) (b := 48) (by decide +kernel) rfl cmpL_eq (fun hc => ?_) (fun hc => ?_)
      · have hx := ha hc
        clear ha hb hc
        refine Ev.blk (is := [.iconst 0]) (pc2 := 54) (L2 := [(0, v0), (0, v1), (0, v2)]) (S2 := [(0, 0)]) (h2 := h) (by decide +kernel) rfl trivial ?_
        cases hx
        exact Ev.ret (i := .ireturn) (len := 1) (by decide +kernel) rfl (finOf (t := some .int) rfl (trivial))
      · have hx := hb hc
        clear ha hb hc
        refine Ev.blk (is := [.sipush 6]) (pc2 := 50) (L2 := [(0, v0), (0, v1), (0, v2)]) (S2 := [(0, 6)]) (h2 := h) (by decide +kernel) rfl trivial ?_
        refine Ev.jp (i := .goto 4) (len := 3) (pc2 := 54) (by decide +kernel) rfl ?_
        cases hx
        exact Ev.ret (i := .ireturn) (len := 1) (by decide +kernel) rfl (finOf (t := some .int) rfl (trivial))
  · have hx := hb hc
    clear ha hb hc
    refine Ev.blk (is := [.iconst 5]) (pc2 := 17) (L2 := [(0, v0), (0, v1), (0, v2)]) (S2 := [(0, 5)]) (h2 := h) (by decide +kernel) rfl trivial ?_
    cases hx
    exact Ev.ret (i := .ireturn) (len := 1) (by decide +kernel) rfl (finOf (t := some .int) rfl (trivial))
theorem x_Math_max {sc : AS} {d : Nat} (hd : 1 ≤ d) {v0 : Int} {v1 : Int} {h : AH} {r : Int} (hx : Math_max v0 v1 = some r) : Runs sc d 42 [(0, v0), (0, v1)] h (some (0, r)) h := by
  obtain ⟨d, rfl⟩ : ∃ e, d = e + 1 := ⟨d - 1, by omega⟩
  have hd : 0 ≤ d := by omega
  unfold Math_max at hx
  refine ⟨⟨aM_42, rfl, Nat.le_of_ble_eq_true rfl⟩, ?_⟩
  show Ev sc d 42 0 [(0, v0), (0, v1)] [] h (some (0, r)) h
  refine Ev.blk (is := [.iload_n 0, .iload_n 1]) (pc2 := 2) (L2 := [(0, v0), (0, v1)]) (S2 := [(0, v1), (0, v0)]) (h2 := h) (by decide +kernel) rfl trivial ?_
  obtain ⟨ha, hb⟩ := bite hx
  clear hx
  refine Ev.br (i := .if_icmp .lt 7) (len := 3) (a := 9) (b := 5) (by decide +kernel) rfl Iff.rfl (fun hc => ?_) (fun hc => ?_)
  · have hx := ha hc
    clear ha hb hc
    refine Ev.blk (is := [.iload_n 1]) (pc2 := 10) (L2 := [(0, v0), (0, v1)]) (S2 := [(0, v1)]) (h2 := h) (by decide +kernel) rfl trivial ?_
    cases hx
    exact Ev.ret (i := .ireturn) (len := 1) (by decide +kernel) rfl (finOf (t := some .int) rfl (trivial))
  · have hx := hb hc
    clear ha hb hc
    refine Ev.blk (is := [.iload_n 0]) (pc2 := 6) (L2 := [(0, v0), (0, v1)]) (S2 := [(0, v0)]) (h2 := h) (by decide +kernel) rfl trivial ?_
    refine Ev.jp (i := .goto 4) (len := 3) (pc2 := 10) (by decide +kernel) rfl ?_
    cases hx
    exact Ev.ret (i := .ireturn) (len := 1) (by decide +kernel) rfl (finOf (t := some .int) rfl (trivial))
theorem y_Checker_downFault_9 {sc : AS} {d : Nat} (hd : 2 ≤ d) : ∀ (fu : Nat) (v0 : Int) (v1 : Int) (v2 : Int) (v3 : Int) (h : AH) (r : Int), Checker_downFault_9 fu v0 v1 v2 v3 h = some r → Ev sc d 40 9 [(2, v0), (2, v1), (0, v2), (0, v3), (9, 0)] [] h (some (0, r)) h := by
  intro fu
  induction fu with
  | zero => intro v0 v1 v2 v3 h r hx; unfold Checker_downFault_9 at hx; cases hx
  | succ fu ih =>
    intro v0 v1 v2 v3 h r hx
    unfold Checker_downFault_9 at hx
    obtain ⟨u1, hg, he, hx⟩ := bgd hx
    refine Ev.blk (is := [.iload_n 3, .aload_n 1, .getfield 5001]) (pc2 := 14) (L2 := [(2, v0), (2, v1), (0, v2), (0, v3), (9, 0)]) (S2 := [(0, u1), (0, v3)]) (h2 := h) (by decide +kernel) (by subst he; rfl) (by exact hg) ?_
    clear hg he
    obtain ⟨ha, hb⟩ := bite hx
    clear hx
    refine Ev.br (i := .if_icmp .ge 45) (len := 3) (a := 17) (b := 59) (by decide +kernel) rfl Iff.rfl (fun hc => ?_) (fun hc => ?_)
    · have hx := ha hc
      clear ha hb hc
      obtain ⟨u2, hg, he, hx⟩ := bgd hx
      refine Ev.blk (is := [.aload_n 0, .getfield 3002]) (pc2 := 21) (L2 := [(2, v0), (2, v1), (0, v2), (0, v3), (9, 0)]) (S2 := [(0, u2)]) (h2 := h) (by decide +kernel) (by subst he; rfl) (by exact hg) ?_
      clear hg he
      refine Ev.blk (is := [.aload_n 1, .iload_n 3, .iconst 0]) (pc2 := 24) (L2 := [(2, v0), (2, v1), (0, v2), (0, v3), (9, 0)]) (S2 := [(0, 0), (0, v3), (2, v1), (0, u2)]) (h2 := h) (by decide +kernel) rfl trivial ?_
      obtain ⟨_, hg, -, hx⟩ := bgd hx
      obtain ⟨u3, hc, hx⟩ := bca hx
      refine Ev.call (args := [(2, v1), (0, v3), (0, 0)]) (S2 := [(0, u2)]) (r1 := (some (0, u3))) (h1 := h) (i := .invokevirtual 34) (by decide +kernel) rfl rfl (Nat.le_of_ble_eq_true rfl) (Or.inr (Or.inl ⟨rfl, hg, by decide +kernel⟩)) (x_Side_cell (by omega) hc) ?_
      refine Ev.blk (is := [.aload_n 1, .iload_n 3, .iconst 2]) (pc2 := 30) (L2 := [(2, v0), (2, v1), (0, v2), (0, v3), (9, 0)]) (S2 := [(0, 2), (0, v3), (2, v1), (0, u3), (0, u2)]) (h2 := h) (by decide +kernel) rfl trivial ?_
      obtain ⟨_, hg, -, hx⟩ := bgd hx
      obtain ⟨u4, hc, hx⟩ := bca hx
      refine Ev.call (args := [(2, v1), (0, v3), (0, 2)]) (S2 := [(0, u3), (0, u2)]) (r1 := (some (0, u4))) (h1 := h) (i := .invokevirtual 34) (by decide +kernel) rfl rfl (Nat.le_of_ble_eq_true rfl) (Or.inr (Or.inl ⟨rfl, hg, by decide +kernel⟩)) (x_Side_cell (by omega) hc) ?_
      obtain ⟨u5, hc, hx⟩ := bca hx
      refine Ev.call (args := [(0, u2), (0, u3), (0, u4)]) (S2 := []) (r1 := (some (0, u5))) (h1 := h) (i := .invokestatic 41) (by decide +kernel) rfl rfl (Nat.le_of_ble_eq_true rfl) (Or.inl rfl) (x_Checker_rowFault (by omega) hc) ?_
      refine Ev.blk (is := [.istore 4, .iload 4, .iconst 5]) (pc2 := 41) (L2 := [(2, v0), (2, v1), (0, v2), (0, v3), (0, u5)]) (S2 := [(0, 5), (0, u5)]) (h2 := h) (by decide +kernel) rfl trivial ?_
      obtain ⟨ha, hb⟩ := bite hx
      clear hx
      refine Ev.br (i := .if_icmp .ne 5) (len := 3) (a := 44) (b := 46) (by decide +kernel) rfl Iff.rfl (fun hc => ?_) (fun hc => ?_)
      · have hx := ha hc
        clear ha hb hc
        refine Ev.blk (is := [.iconst 5]) (pc2 := 45) (L2 := [(2, v0), (2, v1), (0, v2), (0, v3), (0, u5)]) (S2 := [(0, 5)]) (h2 := h) (by decide +kernel) rfl trivial ?_
        cases hx
        exact Ev.ret (i := .ireturn) (len := 1) (by decide +kernel) rfl (finOf (t := some .int) rfl (trivial))
      · have hx := hb hc
        clear ha hb hc
        refine Ev.blk (is := [.iload_n 2, .iload 4]) (pc2 := 49) (L2 := [(2, v0), (2, v1), (0, v2), (0, v3), (0, u5)]) (S2 := [(0, u5), (0, v2)]) (h2 := h) (by decide +kernel) rfl trivial ?_
        obtain ⟨u6, hc, hx⟩ := bca hx
        refine Ev.call (args := [(0, v2), (0, u5)]) (S2 := []) (r1 := (some (0, u6))) (h1 := h) (i := .invokestatic 42) (by decide +kernel) rfl rfl (Nat.le_of_ble_eq_true rfl) (Or.inl rfl) (x_Math_max (by omega) hc) ?_
        refine Ev.blk (is := [.istore_n 2, .iinc 3 1]) (pc2 := 56) (L2 := [(2, v0), (2, v1), (0, u6), (0, w32 (v3 + 1)), (0, u5)]) (S2 := []) (h2 := h) (by decide +kernel) rfl trivial ?_
        refine Ev.jp (i := .goto (-47)) (len := 3) (pc2 := 9) (by decide +kernel) rfl ?_
        refine Ev.wk (L2 := [(2, v0), (2, v1), (0, u6), (0, w32 (v3 + 1)), (9, 0)]) (wkL_of ⟨Or.inl rfl, ⟨Or.inl rfl, ⟨Or.inl rfl, ⟨Or.inl rfl, ⟨Or.inr rfl, trivial⟩⟩⟩⟩⟩) ?_
        exact ih v0 v1 u6 (w32 (v3 + 1)) h _ hx
    · have hx := hb hc
      clear ha hb hc
      refine Ev.blk (is := [.iload_n 2]) (pc2 := 60) (L2 := [(2, v0), (2, v1), (0, v2), (0, v3), (9, 0)]) (S2 := [(0, v2)]) (h2 := h) (by decide +kernel) rfl trivial ?_
      cases hx
      exact Ev.ret (i := .ireturn) (len := 1) (by decide +kernel) rfl (finOf (t := some .int) rfl (trivial))
theorem x_Checker_downFault {sc : AS} {d : Nat} (hd : 3 ≤ d) {v0 : Int} {h : AH} {r : Int} (hx : Checker_downFault v0 h = some r) : Runs sc d 40 [(2, v0)] h (some (0, r)) h := by
  obtain ⟨d, rfl⟩ : ∃ e, d = e + 1 := ⟨d - 1, by omega⟩
  have hd : 2 ≤ d := by omega
  unfold Checker_downFault at hx
  refine ⟨⟨aM_40, rfl, Nat.le_of_ble_eq_true rfl⟩, ?_⟩
  show Ev sc d 40 0 [(2, v0), (9, 0), (9, 0), (9, 0), (9, 0)] [] h (some (0, r)) h
  obtain ⟨u1, hg, he, hx⟩ := bgd hx
  refine Ev.blk (is := [.aload_n 0, .getfield 3200]) (pc2 := 4) (L2 := [(2, v0), (9, 0), (9, 0), (9, 0), (9, 0)]) (S2 := [(2, u1)]) (h2 := h) (by decide +kernel) (by subst he; rfl) (by exact hg) ?_
  clear hg he
  refine Ev.blk (is := [.astore_n 1, .iconst 0, .istore_n 2, .iconst 0, .istore_n 3]) (pc2 := 9) (L2 := [(2, v0), (2, u1), (0, 0), (0, 0), (9, 0)]) (S2 := []) (h2 := h) (by decide +kernel) rfl trivial ?_
  exact y_Checker_downFault_9 hd FU v0 u1 0 0 h _ hx
theorem y_Finder_seekOneBase_11 {sc : AS} {d : Nat} (hd : 3 ≤ d) {k2 : Int → Int → AH → Option (Int × AH)} (hk2 : ∀ (v0 : Int) (v1 : Int) (h : AH) (r : (Int × AH)), k2 v0 v1 h = some r → Ev sc d 39 2 [(2, v0), (0, v1), (9, 0)] [] h (some (0, r.1)) r.2) : ∀ (fu : Nat) (v0 : Int) (v1 : Int) (v2 : Int) (h : AH) (r : (Int × AH)), Finder_seekOneBase_11 k2 fu v0 v1 v2 h = some r → Ev sc d 39 11 [(2, v0), (0, v1), (0, v2)] [] h (some (0, r.1)) r.2 := by
  intro fu
  induction fu with
  | zero => intro v0 v1 v2 h r hx; unfold Finder_seekOneBase_11 at hx; cases hx
  | succ fu ih =>
    intro v0 v1 v2 h r hx
    unfold Finder_seekOneBase_11 at hx
    obtain ⟨u1, hg, he, hx⟩ := bgd hx
    refine Ev.blk (is := [.iload_n 2, .aload_n 0, .getfield 3200]) (pc2 := 16) (L2 := [(2, v0), (0, v1), (0, v2)]) (S2 := [(2, u1), (0, v2)]) (h2 := h) (by decide +kernel) (by subst he; rfl) (by exact hg) ?_
    clear hg he
    obtain ⟨u2, hg, he, hx⟩ := bgd hx
    refine Ev.blk (is := [.getfield 5001]) (pc2 := 19) (L2 := [(2, v0), (0, v1), (0, v2)]) (S2 := [(0, u2), (0, v2)]) (h2 := h) (by decide +kernel) (by subst he; rfl) (by exact hg) ?_
    clear hg he
    obtain ⟨ha, hb⟩ := bite hx
    clear hx
    refine Ev.br (i := .if_icmp .ge 19) (len := 3) (a := 22) (b := 38) (by decide +kernel) rfl Iff.rfl (fun hc => ?_) (fun hc => ?_)
    · have hx := ha hc
      clear ha hb hc
      obtain ⟨u3, hg, he, hx⟩ := bgd hx
      refine Ev.blk (is := [.aload_n 0, .getfield 3200]) (pc2 := 26) (L2 := [(2, v0), (0, v1), (0, v2)]) (S2 := [(2, u3)]) (h2 := h) (by decide +kernel) (by subst he; rfl) (by exact hg) ?_
      clear hg he
      refine Ev.blk (is := [.iload_n 2, .iconst 2, .iload_n 1]) (pc2 := 29) (L2 := [(2, v0), (0, v1), (0, v2)]) (S2 := [(0, v1), (0, 2), (0, v2), (2, u3)]) (h2 := h) (by decide +kernel) rfl trivial ?_
      obtain ⟨_, hg, -, hx⟩ := bgd hx
      obtain ⟨h5, hc, hx⟩ := bca hx
      refine Ev.call (args := [(2, u3), (0, v2), (0, 2), (0, v1)]) (S2 := []) (r1 := none) (h1 := h5) (i := .invokevirtual 30) (by decide +kernel) rfl rfl (Nat.le_of_ble_eq_true rfl) (Or.inr (Or.inl ⟨rfl, hg, by decide +kernel⟩)) (x_Side_put (by omega) hc) ?_
      refine Ev.blk (is := [.iinc 2 1]) (pc2 := 35) (L2 := [(2, v0), (0, v1), (0, w32 (v2 + 1))]) (S2 := []) (h2 := h5) (by decide +kernel) rfl trivial ?_
      refine Ev.jp (i := .goto (-24)) (len := 3) (pc2 := 11) (by decide +kernel) rfl ?_
      exact ih v0 v1 (w32 (v2 + 1)) h5 _ hx
    · have hx := hb hc
      clear ha hb hc
      refine Ev.blk (is := [.aload_n 0]) (pc2 := 39) (L2 := [(2, v0), (0, v1), (0, v2)]) (S2 := [(2, v0)]) (h2 := h) (by decide +kernel) rfl trivial ?_
      obtain ⟨u6, hc, hx⟩ := bca hx
      refine Ev.call (args := [(2, v0)]) (S2 := []) (r1 := (some (0, u6))) (h1 := h) (i := .invokestatic 40) (by decide +kernel) rfl rfl (Nat.le_of_ble_eq_true rfl) (Or.inl rfl) (x_Checker_downFault (by omega) hc) ?_
      obtain ⟨ha, hb⟩ := bite hx
      clear hx
      refine Ev.br (i := .ifCond .ne 5) (len := 3) (a := 45) (b := 47) (by decide +kernel) rfl Iff.rfl (fun hc => ?_) (fun hc => ?_)
      · have hx := ha hc
        clear ha hb hc
        refine Ev.blk (is := [.iconst 1]) (pc2 := 46) (L2 := [(2, v0), (0, v1), (0, v2)]) (S2 := [(0, 1)]) (h2 := h) (by decide +kernel) rfl trivial ?_
        cases hx
        exact Ev.ret (i := .ireturn) (len := 1) (by decide +kernel) rfl (finOf (t := some .boolean) rfl (bz1))
      · have hx := hb hc
        clear ha hb hc
        refine Ev.blk (is := [.iinc 1 1]) (pc2 := 50) (L2 := [(2, v0), (0, w32 (v1 + 1)), (0, v2)]) (S2 := []) (h2 := h) (by decide +kernel) rfl trivial ?_
        refine Ev.jp (i := .goto (-48)) (len := 3) (pc2 := 2) (by decide +kernel) rfl ?_
        refine Ev.wk (L2 := [(2, v0), (0, w32 (v1 + 1)), (9, 0)]) (wkL_of ⟨Or.inl rfl, ⟨Or.inl rfl, ⟨Or.inr rfl, trivial⟩⟩⟩) ?_
        exact hk2 v0 (w32 (v1 + 1)) h _ hx
theorem y_Finder_seekOneBase_2 {sc : AS} {d : Nat} (hd : 3 ≤ d) : ∀ (fu : Nat) (v0 : Int) (v1 : Int) (h : AH) (r : (Int × AH)), Finder_seekOneBase_2 fu v0 v1 h = some r → Ev sc d 39 2 [(2, v0), (0, v1), (9, 0)] [] h (some (0, r.1)) r.2 := by
  intro fu
  induction fu with
  | zero => intro v0 v1 h r hx; unfold Finder_seekOneBase_2 at hx; cases hx
  | succ fu ih =>
    intro v0 v1 h r hx
    unfold Finder_seekOneBase_2 at hx
    refine Ev.blk (is := [.iload_n 1, .sipush 999]) (pc2 := 6) (L2 := [(2, v0), (0, v1), (9, 0)]) (S2 := [(0, 999), (0, v1)]) (h2 := h) (by decide +kernel) rfl trivial ?_
    obtain ⟨ha, hb⟩ := bite hx
    clear hx
    refine Ev.br (i := .if_icmp .gt 47) (len := 3) (a := 53) (b := 9) (by decide +kernel) rfl Iff.rfl (fun hc => ?_) (fun hc => ?_)
    · have hx := ha hc
      clear ha hb hc
      refine Ev.blk (is := [.iconst 0]) (pc2 := 54) (L2 := [(2, v0), (0, v1), (9, 0)]) (S2 := [(0, 0)]) (h2 := h) (by decide +kernel) rfl trivial ?_
      cases hx
      exact Ev.ret (i := .ireturn) (len := 1) (by decide +kernel) rfl (finOf (t := some .boolean) rfl (bz0))
    · have hx := hb hc
      clear ha hb hc
      refine Ev.blk (is := [.iconst 0, .istore_n 2]) (pc2 := 11) (L2 := [(2, v0), (0, v1), (0, 0)]) (S2 := []) (h2 := h) (by decide +kernel) rfl trivial ?_
      exact y_Finder_seekOneBase_11 hd ih FU v0 v1 0 h _ hx
theorem x_Finder_seekOneBase {sc : AS} {d : Nat} (hd : 4 ≤ d) {v0 : Int} {h : AH} {r : (Int × AH)} (hx : Finder_seekOneBase v0 h = some r) : Runs sc d 39 [(2, v0)] h (some (0, r.1)) r.2 := by
  obtain ⟨d, rfl⟩ : ∃ e, d = e + 1 := ⟨d - 1, by omega⟩
  have hd : 3 ≤ d := by omega
  unfold Finder_seekOneBase at hx
  refine ⟨⟨aM_39, rfl, Nat.le_of_ble_eq_true rfl⟩, ?_⟩
  show Ev sc d 39 0 [(2, v0), (9, 0), (9, 0)] [] h (some (0, r.1)) r.2
  refine Ev.blk (is := [.iconst 2, .istore_n 1]) (pc2 := 2) (L2 := [(2, v0), (0, 2), (9, 0)]) (S2 := []) (h2 := h) (by decide +kernel) rfl trivial ?_
  exact y_Finder_seekOneBase_2 hd FU v0 2 h _ hx
theorem y_Finder_leastBase_2 {sc : AS} {d : Nat} (hd : 2 ≤ d) : ∀ (fu : Nat) (v0 : Int) (v1 : Int) (v2 : Int) (h : AH) (r : Int), Finder_leastBase_2 fu v0 v1 v2 = some r → Ev sc d 44 2 [(0, v0), (0, v1), (0, v2)] [] h (some (0, r)) h := by
  intro fu
  induction fu with
  | zero => intro v0 v1 v2 h r hx; unfold Finder_leastBase_2 at hx; cases hx
  | succ fu ih =>
    intro v0 v1 v2 h r hx
    unfold Finder_leastBase_2 at hx
    refine Ev.blk (is := [.iload_n 2, .sipush 999]) (pc2 := 6) (L2 := [(0, v0), (0, v1), (0, v2)]) (S2 := [(0, 999), (0, v2)]) (h2 := h) (by decide +kernel) rfl trivial ?_
    obtain ⟨ha, hb⟩ := bite hx
    clear hx
    refine Ev.br (i := .if_icmp .gt 20) (len := 3) (a := 26) (b := 9) (by decide +kernel) rfl Iff.rfl (fun hc => ?_) (fun hc => ?_)
    · have hx := ha hc
      clear ha hb hc
      refine Ev.blk (is := [.iconst (-1)]) (pc2 := 27) (L2 := [(0, v0), (0, v1), (0, v2)]) (S2 := [(0, (-1))]) (h2 := h) (by decide +kernel) rfl trivial ?_
      cases hx
      exact Ev.ret (i := .ireturn) (len := 1) (by decide +kernel) rfl (finOf (t := some .int) rfl (trivial))
    · have hx := hb hc
      clear ha hb hc
      refine Ev.blk (is := [.iload_n 0, .iload_n 1, .iload_n 2]) (pc2 := 12) (L2 := [(0, v0), (0, v1), (0, v2)]) (S2 := [(0, v2), (0, v1), (0, v0)]) (h2 := h) (by decide +kernel) rfl trivial ?_
      obtain ⟨u1, hc, hx⟩ := bca hx
      refine Ev.call (args := [(0, v0), (0, v1), (0, v2)]) (S2 := []) (r1 := (some (0, u1))) (h1 := h) (i := .invokestatic 41) (by decide +kernel) rfl rfl (Nat.le_of_ble_eq_true rfl) (Or.inl rfl) (x_Checker_rowFault (by omega) hc) ?_
      obtain ⟨ha, hb⟩ := bite hx
      clear hx
      refine Ev.br (i := .ifCond .ne 5) (len := 3) (a := 18) (b := 20) (by decide +kernel) rfl Iff.rfl (fun hc => ?_) (fun hc => ?_)
      · have hx := ha hc
        clear ha hb hc
        refine Ev.blk (is := [.iload_n 2]) (pc2 := 19) (L2 := [(0, v0), (0, v1), (0, v2)]) (S2 := [(0, v2)]) (h2 := h) (by decide +kernel) rfl trivial ?_
        cases hx
        exact Ev.ret (i := .ireturn) (len := 1) (by decide +kernel) rfl (finOf (t := some .int) rfl (trivial))
      · have hx := hb hc
        clear ha hb hc
        refine Ev.blk (is := [.iinc 2 1]) (pc2 := 23) (L2 := [(0, v0), (0, v1), (0, w32 (v2 + 1))]) (S2 := []) (h2 := h) (by decide +kernel) rfl trivial ?_
        refine Ev.jp (i := .goto (-21)) (len := 3) (pc2 := 2) (by decide +kernel) rfl ?_
        exact ih v0 v1 (w32 (v2 + 1)) h _ hx
theorem x_Finder_leastBase {sc : AS} {d : Nat} (hd : 3 ≤ d) {v0 : Int} {v1 : Int} {h : AH} {r : Int} (hx : Finder_leastBase v0 v1 = some r) : Runs sc d 44 [(0, v0), (0, v1)] h (some (0, r)) h := by
  obtain ⟨d, rfl⟩ : ∃ e, d = e + 1 := ⟨d - 1, by omega⟩
  have hd : 2 ≤ d := by omega
  unfold Finder_leastBase at hx
  refine ⟨⟨aM_44, rfl, Nat.le_of_ble_eq_true rfl⟩, ?_⟩
  show Ev sc d 44 0 [(0, v0), (0, v1), (9, 0)] [] h (some (0, r)) h
  refine Ev.blk (is := [.iconst 2, .istore_n 2]) (pc2 := 2) (L2 := [(0, v0), (0, v1), (0, 2)]) (S2 := []) (h2 := h) (by decide +kernel) rfl trivial ?_
  exact y_Finder_leastBase_2 hd FU v0 v1 2 h _ hx
theorem y_Finder_seekBases_2 {sc : AS} {d : Nat} (hd : 3 ≤ d) : ∀ (fu : Nat) (v0 : Int) (v1 : Int) (h : AH) (r : (Int × AH)), Finder_seekBases_2 fu v0 v1 h = some r → Ev sc d 43 2 [(2, v0), (0, v1), (9, 0)] [] h (some (0, r.1)) r.2 := by
  intro fu
  induction fu with
  | zero => intro v0 v1 h r hx; unfold Finder_seekBases_2 at hx; cases hx
  | succ fu ih =>
    intro v0 v1 h r hx
    unfold Finder_seekBases_2 at hx
    obtain ⟨u1, hg, he, hx⟩ := bgd hx
    refine Ev.blk (is := [.iload_n 1, .aload_n 0, .getfield 3200]) (pc2 := 7) (L2 := [(2, v0), (0, v1), (9, 0)]) (S2 := [(2, u1), (0, v1)]) (h2 := h) (by decide +kernel) (by subst he; rfl) (by exact hg) ?_
    clear hg he
    obtain ⟨u2, hg, he, hx⟩ := bgd hx
    refine Ev.blk (is := [.getfield 5001]) (pc2 := 10) (L2 := [(2, v0), (0, v1), (9, 0)]) (S2 := [(0, u2), (0, v1)]) (h2 := h) (by decide +kernel) (by subst he; rfl) (by exact hg) ?_
    clear hg he
    obtain ⟨ha, hb⟩ := bite hx
    clear hx
    refine Ev.br (i := .if_icmp .ge 42) (len := 3) (a := 13) (b := 52) (by decide +kernel) rfl Iff.rfl (fun hc => ?_) (fun hc => ?_)
    · have hx := ha hc
      clear ha hb hc
      obtain ⟨u3, hg, he, hx⟩ := bgd hx
      refine Ev.blk (is := [.aload_n 0, .getfield 3002]) (pc2 := 17) (L2 := [(2, v0), (0, v1), (9, 0)]) (S2 := [(0, u3)]) (h2 := h) (by decide +kernel) (by subst he; rfl) (by exact hg) ?_
      clear hg he
      obtain ⟨u4, hg, he, hx⟩ := bgd hx
      refine Ev.blk (is := [.aload_n 0, .getfield 3200]) (pc2 := 21) (L2 := [(2, v0), (0, v1), (9, 0)]) (S2 := [(2, u4), (0, u3)]) (h2 := h) (by decide +kernel) (by subst he; rfl) (by exact hg) ?_
      clear hg he
      refine Ev.blk (is := [.iload_n 1, .iconst 0]) (pc2 := 23) (L2 := [(2, v0), (0, v1), (9, 0)]) (S2 := [(0, 0), (0, v1), (2, u4), (0, u3)]) (h2 := h) (by decide +kernel) rfl trivial ?_
      obtain ⟨_, hg, -, hx⟩ := bgd hx
      obtain ⟨u5, hc, hx⟩ := bca hx
      refine Ev.call (args := [(2, u4), (0, v1), (0, 0)]) (S2 := [(0, u3)]) (r1 := (some (0, u5))) (h1 := h) (i := .invokevirtual 34) (by decide +kernel) rfl rfl (Nat.le_of_ble_eq_true rfl) (Or.inr (Or.inl ⟨rfl, hg, by decide +kernel⟩)) (x_Side_cell (by omega) hc) ?_
      obtain ⟨u6, hc, hx⟩ := bca hx
      refine Ev.call (args := [(0, u3), (0, u5)]) (S2 := []) (r1 := (some (0, u6))) (h1 := h) (i := .invokestatic 44) (by decide +kernel) rfl rfl (Nat.le_of_ble_eq_true rfl) (Or.inl rfl) (x_Finder_leastBase (by omega) hc) ?_
      refine Ev.blk (is := [.istore_n 2, .iload_n 2]) (pc2 := 31) (L2 := [(2, v0), (0, v1), (0, u6)]) (S2 := [(0, u6)]) (h2 := h) (by decide +kernel) rfl trivial ?_
      obtain ⟨ha, hb⟩ := bite hx
      clear hx
      refine Ev.br (i := .ifCond .ge 5) (len := 3) (a := 34) (b := 36) (by decide +kernel) rfl Iff.rfl (fun hc => ?_) (fun hc => ?_)
      · have hx := ha hc
        clear ha hb hc
        refine Ev.blk (is := [.iconst 0]) (pc2 := 35) (L2 := [(2, v0), (0, v1), (0, u6)]) (S2 := [(0, 0)]) (h2 := h) (by decide +kernel) rfl trivial ?_
        cases hx
        exact Ev.ret (i := .ireturn) (len := 1) (by decide +kernel) rfl (finOf (t := some .boolean) rfl (bz0))
      · have hx := hb hc
        clear ha hb hc
        obtain ⟨u7, hg, he, hx⟩ := bgd hx
        refine Ev.blk (is := [.aload_n 0, .getfield 3200]) (pc2 := 40) (L2 := [(2, v0), (0, v1), (0, u6)]) (S2 := [(2, u7)]) (h2 := h) (by decide +kernel) (by subst he; rfl) (by exact hg) ?_
        clear hg he
        refine Ev.blk (is := [.iload_n 1, .iconst 2, .iload_n 2]) (pc2 := 43) (L2 := [(2, v0), (0, v1), (0, u6)]) (S2 := [(0, u6), (0, 2), (0, v1), (2, u7)]) (h2 := h) (by decide +kernel) rfl trivial ?_
        obtain ⟨_, hg, -, hx⟩ := bgd hx
        obtain ⟨h9, hc, hx⟩ := bca hx
        refine Ev.call (args := [(2, u7), (0, v1), (0, 2), (0, u6)]) (S2 := []) (r1 := none) (h1 := h9) (i := .invokevirtual 30) (by decide +kernel) rfl rfl (Nat.le_of_ble_eq_true rfl) (Or.inr (Or.inl ⟨rfl, hg, by decide +kernel⟩)) (x_Side_put (by omega) hc) ?_
        refine Ev.blk (is := [.iinc 1 1]) (pc2 := 49) (L2 := [(2, v0), (0, w32 (v1 + 1)), (0, u6)]) (S2 := []) (h2 := h9) (by decide +kernel) rfl trivial ?_
        refine Ev.jp (i := .goto (-47)) (len := 3) (pc2 := 2) (by decide +kernel) rfl ?_
        refine Ev.wk (L2 := [(2, v0), (0, w32 (v1 + 1)), (9, 0)]) (wkL_of ⟨Or.inl rfl, ⟨Or.inl rfl, ⟨Or.inr rfl, trivial⟩⟩⟩) ?_
        exact ih v0 (w32 (v1 + 1)) h9 _ hx
    · have hx := hb hc
      clear ha hb hc
      refine Ev.blk (is := [.iconst 1]) (pc2 := 53) (L2 := [(2, v0), (0, v1), (9, 0)]) (S2 := [(0, 1)]) (h2 := h) (by decide +kernel) rfl trivial ?_
      cases hx
      exact Ev.ret (i := .ireturn) (len := 1) (by decide +kernel) rfl (finOf (t := some .boolean) rfl (bz1))
theorem x_Finder_seekBases {sc : AS} {d : Nat} (hd : 4 ≤ d) {v0 : Int} {h : AH} {r : (Int × AH)} (hx : Finder_seekBases v0 h = some r) : Runs sc d 43 [(2, v0)] h (some (0, r.1)) r.2 := by
  obtain ⟨d, rfl⟩ : ∃ e, d = e + 1 := ⟨d - 1, by omega⟩
  have hd : 3 ≤ d := by omega
  unfold Finder_seekBases at hx
  refine ⟨⟨aM_43, rfl, Nat.le_of_ble_eq_true rfl⟩, ?_⟩
  show Ev sc d 43 0 [(2, v0), (9, 0), (9, 0)] [] h (some (0, r.1)) r.2
  refine Ev.blk (is := [.iconst 0, .istore_n 1]) (pc2 := 2) (L2 := [(2, v0), (0, 0), (9, 0)]) (S2 := []) (h2 := h) (by decide +kernel) rfl trivial ?_
  exact y_Finder_seekBases_2 hd FU v0 0 h _ hx
theorem x_Line_hasPQ {sc : AS} {d : Nat} (hd : 1 ≤ d) {v0 : Int} {h : AH} {r : Int} (hx : Line_hasPQ v0 h = some r) : Runs sc d 47 [(2, v0)] h (some (0, r)) h := by
  obtain ⟨d, rfl⟩ : ∃ e, d = e + 1 := ⟨d - 1, by omega⟩
  have hd : 0 ≤ d := by omega
  unfold Line_hasPQ at hx
  refine ⟨⟨aM_47, rfl, Nat.le_of_ble_eq_true rfl⟩, ?_⟩
  show Ev sc d 47 0 [(2, v0)] [] h (some (0, r)) h
  obtain ⟨u1, hg, he, hx⟩ := bgd hx
  refine Ev.blk (is := [.aload_n 0, .getfield 3003]) (pc2 := 4) (L2 := [(2, v0)]) (S2 := [(0, u1)]) (h2 := h) (by decide +kernel) (by subst he; rfl) (by exact hg) ?_
  clear hg he
  refine Ev.blk (is := [.iconst 3]) (pc2 := 5) (L2 := [(2, v0)]) (S2 := [(0, 3), (0, u1)]) (h2 := h) (by decide +kernel) rfl trivial ?_
  obtain ⟨ha, hb⟩ := bite hx
  clear hx
  refine Ev.br (i := .if_icmp .eq 11) (len := 3) (a := 16) (b := 8) (by decide +kernel) rfl Iff.rfl (fun hc => ?_) (fun hc => ?_)
  · have hx := ha hc
    clear ha hb hc
    refine Ev.blk (is := [.iconst 1]) (pc2 := 17) (L2 := [(2, v0)]) (S2 := [(0, 1)]) (h2 := h) (by decide +kernel) rfl trivial ?_
    refine Ev.jp (i := .goto 4) (len := 3) (pc2 := 21) (by decide +kernel) rfl ?_
    cases hx
    exact Ev.ret (i := .ireturn) (len := 1) (by decide +kernel) rfl (finOf (t := some .boolean) rfl (bz1))
  · have hx := hb hc
    clear ha hb hc
    obtain ⟨u2, hg, he, hx⟩ := bgd hx
    refine Ev.blk (is := [.aload_n 0, .getfield 3003]) (pc2 := 12) (L2 := [(2, v0)]) (S2 := [(0, u2)]) (h2 := h) (by decide +kernel) (by subst he; rfl) (by exact hg) ?_
    clear hg he
    refine Ev.blk (is := [.iconst 4]) (pc2 := 13) (L2 := [(2, v0)]) (S2 := [(0, 4), (0, u2)]) (h2 := h) (by decide +kernel) rfl trivial ?_
    obtain ⟨ha, hb⟩ := bite hx
    clear hx
    refine Ev.br (i := .if_icmp .ne 7) (len := 3) (a := 16) (b := 20) (by decide +kernel) rfl Iff.rfl (fun hc => ?_) (fun hc => ?_)
    · have hx := ha hc
      clear ha hb hc
      refine Ev.blk (is := [.iconst 1]) (pc2 := 17) (L2 := [(2, v0)]) (S2 := [(0, 1)]) (h2 := h) (by decide +kernel) rfl trivial ?_
      refine Ev.jp (i := .goto 4) (len := 3) (pc2 := 21) (by decide +kernel) rfl ?_
      cases hx
      exact Ev.ret (i := .ireturn) (len := 1) (by decide +kernel) rfl (finOf (t := some .boolean) rfl (bz1))
    · have hx := hb hc
      clear ha hb hc
      refine Ev.blk (is := [.iconst 0]) (pc2 := 21) (L2 := [(2, v0)]) (S2 := [(0, 0)]) (h2 := h) (by decide +kernel) rfl trivial ?_
      cases hx
      exact Ev.ret (i := .ireturn) (len := 1) (by decide +kernel) rfl (finOf (t := some .boolean) rfl (bz0))
theorem x_Math_floorMod {sc : AS} {d : Nat} (hd : 1 ≤ d) {v0 : Int} {v2 : Int} {h : AH} {r : Int} (hx : Math_floorMod v0 v2 = some r) : Runs sc d 49 [(1, v0), (1, v2)] h (some (1, r)) h := by
  obtain ⟨d, rfl⟩ : ∃ e, d = e + 1 := ⟨d - 1, by omega⟩
  have hd : 0 ≤ d := by omega
  unfold Math_floorMod at hx
  refine ⟨⟨aM_49, rfl, Nat.le_of_ble_eq_true rfl⟩, ?_⟩
  show Ev sc d 49 0 [(1, v0), (8, 0), (1, v2), (8, 0), (9, 0), (9, 0)] [] h (some (1, r)) h
  obtain ⟨u1, hg, he, hx⟩ := bgd hx
  refine Ev.blk (is := [.lload_n 0, .lload_n 2, .lrem]) (pc2 := 3) (L2 := [(1, v0), (8, 0), (1, v2), (8, 0), (9, 0), (9, 0)]) (S2 := [(1, u1)]) (h2 := h) (by decide +kernel) (by subst he; rfl) (by exact hg) ?_
  clear hg he
  refine Ev.blk (is := [.lstore 4, .lload_n 0, .lload_n 2, .lxor, .lconst 0, .lcmp]) (pc2 := 10) (L2 := [(1, v0), (8, 0), (1, v2), (8, 0), (1, u1), (8, 0)]) (S2 := [(0, cmpL (xorL v0 v2) 0)]) (h2 := h) (by decide +kernel) rfl trivial ?_
  obtain ⟨ha, hb⟩ := bite hx
  clear hx
  refine Ev.br (i := .ifCond .ge 15) (len := 3) (a := 13) (b := 25) (by decide +kernel) rfl cmpL_lt (fun hc => ?_) (fun hc => ?_)
  · have hx := ha hc
    clear ha hb hc
    refine Ev.blk (is := [.lload 4, .lconst 0, .lcmp]) (pc2 := 17) (L2 := [(1, v0), (8, 0), (1, v2), (8, 0), (1, u1), (8, 0)]) (S2 := [(0, cmpL u1 0)]) (h2 := h) (by decide +kernel) rfl trivial ?_
    obtain ⟨ha, hb⟩ := bite hx
    clear hx
    refine Ev.br (i := .ifCond .eq 8) (len := 3) (a := 25) (b := 20) (by decide +kernel) rfl cmpL_eq (fun hc => ?_) (fun hc => ?_)
    · have hx := ha hc
      clear ha hb hc
      refine Ev.blk (is := [.lload 4]) (pc2 := 27) (L2 := [(1, v0), (8, 0), (1, v2), (8, 0), (1, u1), (8, 0)]) (S2 := [(1, u1)]) (h2 := h) (by decide +kernel) rfl trivial ?_
      cases hx
      exact Ev.ret (i := .lreturn) (len := 1) (by decide +kernel) rfl (finOf (t := some .long) rfl (trivial))
    · have hx := hb hc
      clear ha hb hc
      refine Ev.blk (is := [.lload 4, .lload_n 2, .ladd]) (pc2 := 24) (L2 := [(1, v0), (8, 0), (1, v2), (8, 0), (1, u1), (8, 0)]) (S2 := [(1, w64 (u1 + v2))]) (h2 := h) (by decide +kernel) rfl trivial ?_
      cases hx
      exact Ev.ret (i := .lreturn) (len := 1) (by decide +kernel) rfl (finOf (t := some .long) rfl (trivial))
  · have hx := hb hc
    clear ha hb hc
    refine Ev.blk (is := [.lload 4]) (pc2 := 27) (L2 := [(1, v0), (8, 0), (1, v2), (8, 0), (1, u1), (8, 0)]) (S2 := [(1, u1)]) (h2 := h) (by decide +kernel) rfl trivial ?_
    cases hx
    exact Ev.ret (i := .lreturn) (len := 1) (by decide +kernel) rfl (finOf (t := some .long) rfl (trivial))
theorem y_Arithmetic_jacobiOf_136 {sc : AS} {d : Nat} (hd : 1 ≤ d) {k24 : Int → Int → Int → Int → Option Int} (hk24 : ∀ (v4 : Int) (v6 : Int) (v8 : Int) (v9 : Int) (h : AH) (r : Int), k24 v4 v6 v8 v9 = some r → Ev sc d 48 24 [(9, 0), (9, 0), (9, 0), (9, 0), (1, v4), (8, 0), (1, v6), (8, 0), (0, v8), (0, v9), (9, 0), (9, 0)] [] h (some (0, r)) h) : ∀ (v4 : Int) (v6 : Int) (v8 : Int) (v9 : Int) (h : AH) (r : Int), Arithmetic_jacobiOf_136 k24 v4 v6 v8 v9 = some r → Ev sc d 48 136 [(9, 0), (9, 0), (9, 0), (9, 0), (1, v4), (8, 0), (1, v6), (8, 0), (0, v8), (0, v9), (9, 0), (9, 0)] [] h (some (0, r)) h := by
  intro v4 v6 v8 v9 h r hx
  unfold Arithmetic_jacobiOf_136 at hx
  obtain ⟨u1, hg, he, hx⟩ := bgd hx
  refine Ev.blk (is := [.lload 6, .lload 4, .lrem]) (pc2 := 141) (L2 := [(9, 0), (9, 0), (9, 0), (9, 0), (1, v4), (8, 0), (1, v6), (8, 0), (0, v8), (0, v9), (9, 0), (9, 0)]) (S2 := [(1, u1)]) (h2 := h) (by decide +kernel) (by subst he; rfl) (by exact hg) ?_
  clear hg he
  refine Ev.blk (is := [.lstore 10, .lload 4, .lstore 6, .lload 10, .lstore 4, .iinc 9 1]) (pc2 := 154) (L2 := [(9, 0), (9, 0), (9, 0), (9, 0), (1, u1), (8, 0), (1, v4), (8, 0), (0, v8), (0, w32 (v9 + 1)), (1, u1), (8, 0)]) (S2 := []) (h2 := h) (by decide +kernel) rfl trivial ?_
  refine Ev.jp (i := .goto (-130)) (len := 3) (pc2 := 24) (by decide +kernel) rfl ?_
  refine Ev.wk (L2 := [(9, 0), (9, 0), (9, 0), (9, 0), (1, u1), (8, 0), (1, v4), (8, 0), (0, v8), (0, w32 (v9 + 1)), (9, 0), (9, 0)]) (wkL_of ⟨Or.inl rfl, ⟨Or.inl rfl, ⟨Or.inl rfl, ⟨Or.inl rfl, ⟨Or.inl rfl, ⟨Or.inl rfl, ⟨Or.inl rfl, ⟨Or.inl rfl, ⟨Or.inl rfl, ⟨Or.inl rfl, ⟨Or.inr rfl, ⟨Or.inr rfl, trivial⟩⟩⟩⟩⟩⟩⟩⟩⟩⟩⟩⟩) ?_
  exact hk24 u1 v4 v8 (w32 (v9 + 1)) h _ hx
theorem y_Arithmetic_jacobiOf_105 {sc : AS} {d : Nat} (hd : 1 ≤ d) {k24 : Int → Int → Int → Int → Option Int} (hk24 : ∀ (v4 : Int) (v6 : Int) (v8 : Int) (v9 : Int) (h : AH) (r : Int), k24 v4 v6 v8 v9 = some r → Ev sc d 48 24 [(9, 0), (9, 0), (9, 0), (9, 0), (1, v4), (8, 0), (1, v6), (8, 0), (0, v8), (0, v9), (9, 0), (9, 0)] [] h (some (0, r)) h) : ∀ (v4 : Int) (v6 : Int) (v8 : Int) (v9 : Int) (h : AH) (r : Int), Arithmetic_jacobiOf_105 k24 v4 v6 v8 v9 = some r → Ev sc d 48 105 [(9, 0), (9, 0), (9, 0), (9, 0), (1, v4), (8, 0), (1, v6), (8, 0), (0, v8), (0, v9), (9, 0), (9, 0)] [] h (some (0, r)) h := by
  intro v4 v6 v8 v9 h r hx
  unfold Arithmetic_jacobiOf_105 at hx
  obtain ⟨u1, hg, he, hx⟩ := bgd hx
  refine Ev.blk (is := [.lload 4, .jsr_w 4, .lrem]) (pc2 := 111) (L2 := [(9, 0), (9, 0), (9, 0), (9, 0), (1, v4), (8, 0), (1, v6), (8, 0), (0, v8), (0, v9), (9, 0), (9, 0)]) (S2 := [(1, u1)]) (h2 := h) (by decide +kernel) (by subst he; rfl) (by exact hg) ?_
  clear hg he
  refine Ev.blk (is := [.jsr_w 3, .lcmp]) (pc2 := 115) (L2 := [(9, 0), (9, 0), (9, 0), (9, 0), (1, v4), (8, 0), (1, v6), (8, 0), (0, v8), (0, v9), (9, 0), (9, 0)]) (S2 := [(0, cmpL u1 3)]) (h2 := h) (by decide +kernel) rfl trivial ?_
  obtain ⟨ha, hb⟩ := bite hx
  clear hx
  refine Ev.br (i := .ifCond .ne 21) (len := 3) (a := 118) (b := 136) (by decide +kernel) rfl cmpL_eq (fun hc => ?_) (fun hc => ?_)
  · have hx := ha hc
    clear ha hb hc
    obtain ⟨u2, hg, he, hx⟩ := bgd hx
    refine Ev.blk (is := [.lload 6, .jsr_w 4, .lrem]) (pc2 := 124) (L2 := [(9, 0), (9, 0), (9, 0), (9, 0), (1, v4), (8, 0), (1, v6), (8, 0), (0, v8), (0, v9), (9, 0), (9, 0)]) (S2 := [(1, u2)]) (h2 := h) (by decide +kernel) (by subst he; rfl) (by exact hg) ?_
    clear hg he
    refine Ev.blk (is := [.jsr_w 3, .lcmp]) (pc2 := 128) (L2 := [(9, 0), (9, 0), (9, 0), (9, 0), (1, v4), (8, 0), (1, v6), (8, 0), (0, v8), (0, v9), (9, 0), (9, 0)]) (S2 := [(0, cmpL u2 3)]) (h2 := h) (by decide +kernel) rfl trivial ?_
    obtain ⟨ha, hb⟩ := bite hx
    clear hx
    refine Ev.br (i := .ifCond .ne 8) (len := 3) (a := 131) (b := 136) (by decide +kernel) rfl cmpL_eq (fun hc => ?_) (fun hc => ?_)
    · have hx := ha hc
      clear ha hb hc
      refine Ev.blk (is := [.iload 8, .ineg, .istore 8]) (pc2 := 136) (L2 := [(9, 0), (9, 0), (9, 0), (9, 0), (1, v4), (8, 0), (1, v6), (8, 0), (0, w32 (-v8)), (0, v9), (9, 0), (9, 0)]) (S2 := []) (h2 := h) (by decide +kernel) rfl trivial ?_
      exact y_Arithmetic_jacobiOf_136 hd hk24 v4 v6 (w32 (-v8)) v9 h _ hx
    · have hx := hb hc
      clear ha hb hc
      exact y_Arithmetic_jacobiOf_136 hd hk24 v4 v6 v8 v9 h _ hx
  · have hx := hb hc
    clear ha hb hc
    exact y_Arithmetic_jacobiOf_136 hd hk24 v4 v6 v8 v9 h _ hx
theorem y_Arithmetic_jacobiOf_42 {sc : AS} {d : Nat} (hd : 1 ≤ d) {k24 : Int → Int → Int → Int → Option Int} (hk24 : ∀ (v4 : Int) (v6 : Int) (v8 : Int) (v9 : Int) (h : AH) (r : Int), k24 v4 v6 v8 v9 = some r → Ev sc d 48 24 [(9, 0), (9, 0), (9, 0), (9, 0), (1, v4), (8, 0), (1, v6), (8, 0), (0, v8), (0, v9), (9, 0), (9, 0)] [] h (some (0, r)) h) : ∀ (fu : Nat) (v4 : Int) (v6 : Int) (v8 : Int) (v9 : Int) (v10 : Int) (h : AH) (r : Int), Arithmetic_jacobiOf_42 k24 fu v4 v6 v8 v9 v10 = some r → Ev sc d 48 42 [(9, 0), (9, 0), (9, 0), (9, 0), (1, v4), (8, 0), (1, v6), (8, 0), (0, v8), (0, v9), (0, v10), (9, 0)] [] h (some (0, r)) h := by
  intro fu
  induction fu with
  | zero => intro v4 v6 v8 v9 v10 h r hx; unfold Arithmetic_jacobiOf_42 at hx; cases hx
  | succ fu ih =>
    intro v4 v6 v8 v9 v10 h r hx
    unfold Arithmetic_jacobiOf_42 at hx
    refine Ev.blk (is := [.iload 10, .sipush 64]) (pc2 := 46) (L2 := [(9, 0), (9, 0), (9, 0), (9, 0), (1, v4), (8, 0), (1, v6), (8, 0), (0, v8), (0, v9), (0, v10), (9, 0)]) (S2 := [(0, 64), (0, v10)]) (h2 := h) (by decide +kernel) rfl trivial ?_
    obtain ⟨ha, hb⟩ := bite hx
    clear hx
    refine Ev.br (i := .if_icmp .ge 59) (len := 3) (a := 49) (b := 105) (by decide +kernel) rfl Iff.rfl (fun hc => ?_) (fun hc => ?_)
    · have hx := ha hc
      clear ha hb hc
      obtain ⟨u1, hg, he, hx⟩ := bgd hx
      refine Ev.blk (is := [.lload 4, .jsr_w 2, .lrem]) (pc2 := 55) (L2 := [(9, 0), (9, 0), (9, 0), (9, 0), (1, v4), (8, 0), (1, v6), (8, 0), (0, v8), (0, v9), (0, v10), (9, 0)]) (S2 := [(1, u1)]) (h2 := h) (by decide +kernel) (by subst he; rfl) (by exact hg) ?_
      clear hg he
      refine Ev.blk (is := [.lconst 0, .lcmp]) (pc2 := 57) (L2 := [(9, 0), (9, 0), (9, 0), (9, 0), (1, v4), (8, 0), (1, v6), (8, 0), (0, v8), (0, v9), (0, v10), (9, 0)]) (S2 := [(0, cmpL u1 0)]) (h2 := h) (by decide +kernel) rfl trivial ?_
      obtain ⟨ha, hb⟩ := bite hx
      clear hx
      refine Ev.br (i := .ifCond .ne 48) (len := 3) (a := 60) (b := 105) (by decide +kernel) rfl cmpL_eq (fun hc => ?_) (fun hc => ?_)
      · have hx := ha hc
        clear ha hb hc
        obtain ⟨u2, hg, he, hx⟩ := bgd hx
        refine Ev.blk (is := [.lload 4, .jsr_w 2, .ldiv]) (pc2 := 66) (L2 := [(9, 0), (9, 0), (9, 0), (9, 0), (1, v4), (8, 0), (1, v6), (8, 0), (0, v8), (0, v9), (0, v10), (9, 0)]) (S2 := [(1, u2)]) (h2 := h) (by decide +kernel) (by subst he; rfl) (by exact hg) ?_
        clear hg he
        obtain ⟨u3, hg, he, hx⟩ := bgd hx
        refine Ev.blk (is := [.lstore 4, .lload 6, .jsr_w 8, .lrem]) (pc2 := 74) (L2 := [(9, 0), (9, 0), (9, 0), (9, 0), (1, u2), (8, 0), (1, v6), (8, 0), (0, v8), (0, v9), (0, v10), (9, 0)]) (S2 := [(1, u3)]) (h2 := h) (by decide +kernel) (by subst he; rfl) (by exact hg) ?_
        clear hg he
        refine Ev.blk (is := [.jsr_w 3, .lcmp]) (pc2 := 78) (L2 := [(9, 0), (9, 0), (9, 0), (9, 0), (1, u2), (8, 0), (1, v6), (8, 0), (0, v8), (0, v9), (0, v10), (9, 0)]) (S2 := [(0, cmpL u3 3)]) (h2 := h) (by decide +kernel) rfl trivial ?_
        obtain ⟨ha, hb⟩ := bite hx
        clear hx
        refine Ev.br (i := .ifCond .eq 16) (len := 3) (a := 94) (b := 81) (by decide +kernel) rfl cmpL_eq (fun hc => ?_) (fun hc => ?_)
        · have hx := ha hc
          clear ha hb hc
          refine Ev.blk (is := [.iload 8, .ineg, .istore 8, .iinc 10 1]) (pc2 := 102) (L2 := [(9, 0), (9, 0), (9, 0), (9, 0), (1, u2), (8, 0), (1, v6), (8, 0), (0, w32 (-v8)), (0, v9), (0, w32 (v10 + 1)), (9, 0)]) (S2 := []) (h2 := h) (by decide +kernel) rfl trivial ?_
          refine Ev.jp (i := .goto (-60)) (len := 3) (pc2 := 42) (by decide +kernel) rfl ?_
          exact ih u2 v6 (w32 (-v8)) v9 (w32 (v10 + 1)) h _ hx
        · have hx := hb hc
          clear ha hb hc
          obtain ⟨u4, hg, he, hx⟩ := bgd hx
          refine Ev.blk (is := [.lload 6, .jsr_w 8, .lrem]) (pc2 := 87) (L2 := [(9, 0), (9, 0), (9, 0), (9, 0), (1, u2), (8, 0), (1, v6), (8, 0), (0, v8), (0, v9), (0, v10), (9, 0)]) (S2 := [(1, u4)]) (h2 := h) (by decide +kernel) (by subst he; rfl) (by exact hg) ?_
          clear hg he
          refine Ev.blk (is := [.jsr_w 5, .lcmp]) (pc2 := 91) (L2 := [(9, 0), (9, 0), (9, 0), (9, 0), (1, u2), (8, 0), (1, v6), (8, 0), (0, v8), (0, v9), (0, v10), (9, 0)]) (S2 := [(0, cmpL u4 5)]) (h2 := h) (by decide +kernel) rfl trivial ?_
          obtain ⟨ha, hb⟩ := bite hx
          clear hx
          refine Ev.br (i := .ifCond .ne 8) (len := 3) (a := 94) (b := 99) (by decide +kernel) rfl cmpL_eq (fun hc => ?_) (fun hc => ?_)
          · have hx := ha hc
            clear ha hb hc
            refine Ev.blk (is := [.iload 8, .ineg, .istore 8, .iinc 10 1]) (pc2 := 102) (L2 := [(9, 0), (9, 0), (9, 0), (9, 0), (1, u2), (8, 0), (1, v6), (8, 0), (0, w32 (-v8)), (0, v9), (0, w32 (v10 + 1)), (9, 0)]) (S2 := []) (h2 := h) (by decide +kernel) rfl trivial ?_
            refine Ev.jp (i := .goto (-60)) (len := 3) (pc2 := 42) (by decide +kernel) rfl ?_
            exact ih u2 v6 (w32 (-v8)) v9 (w32 (v10 + 1)) h _ hx
          · have hx := hb hc
            clear ha hb hc
            refine Ev.blk (is := [.iinc 10 1]) (pc2 := 102) (L2 := [(9, 0), (9, 0), (9, 0), (9, 0), (1, u2), (8, 0), (1, v6), (8, 0), (0, v8), (0, v9), (0, w32 (v10 + 1)), (9, 0)]) (S2 := []) (h2 := h) (by decide +kernel) rfl trivial ?_
            refine Ev.jp (i := .goto (-60)) (len := 3) (pc2 := 42) (by decide +kernel) rfl ?_
            exact ih u2 v6 v8 v9 (w32 (v10 + 1)) h _ hx
      · have hx := hb hc
        clear ha hb hc
        refine Ev.wk (L2 := [(9, 0), (9, 0), (9, 0), (9, 0), (1, v4), (8, 0), (1, v6), (8, 0), (0, v8), (0, v9), (9, 0), (9, 0)]) (wkL_of ⟨Or.inl rfl, ⟨Or.inl rfl, ⟨Or.inl rfl, ⟨Or.inl rfl, ⟨Or.inl rfl, ⟨Or.inl rfl, ⟨Or.inl rfl, ⟨Or.inl rfl, ⟨Or.inl rfl, ⟨Or.inl rfl, ⟨Or.inr rfl, ⟨Or.inl rfl, trivial⟩⟩⟩⟩⟩⟩⟩⟩⟩⟩⟩⟩) ?_
        exact y_Arithmetic_jacobiOf_105 hd hk24 v4 v6 v8 v9 h _ hx
    · have hx := hb hc
      clear ha hb hc
      refine Ev.wk (L2 := [(9, 0), (9, 0), (9, 0), (9, 0), (1, v4), (8, 0), (1, v6), (8, 0), (0, v8), (0, v9), (9, 0), (9, 0)]) (wkL_of ⟨Or.inl rfl, ⟨Or.inl rfl, ⟨Or.inl rfl, ⟨Or.inl rfl, ⟨Or.inl rfl, ⟨Or.inl rfl, ⟨Or.inl rfl, ⟨Or.inl rfl, ⟨Or.inl rfl, ⟨Or.inl rfl, ⟨Or.inr rfl, ⟨Or.inl rfl, trivial⟩⟩⟩⟩⟩⟩⟩⟩⟩⟩⟩⟩) ?_
      exact y_Arithmetic_jacobiOf_105 hd hk24 v4 v6 v8 v9 h _ hx
theorem y_Arithmetic_jacobiOf_24 {sc : AS} {d : Nat} (hd : 1 ≤ d) : ∀ (fu : Nat) (v4 : Int) (v6 : Int) (v8 : Int) (v9 : Int) (h : AH) (r : Int), Arithmetic_jacobiOf_24 fu v4 v6 v8 v9 = some r → Ev sc d 48 24 [(9, 0), (9, 0), (9, 0), (9, 0), (1, v4), (8, 0), (1, v6), (8, 0), (0, v8), (0, v9), (9, 0), (9, 0)] [] h (some (0, r)) h := by
  intro fu
  induction fu with
  | zero => intro v4 v6 v8 v9 h r hx; unfold Arithmetic_jacobiOf_24 at hx; cases hx
  | succ fu ih =>
    intro v4 v6 v8 v9 h r hx
    unfold Arithmetic_jacobiOf_24 at hx
    refine Ev.blk (is := [.iload 9, .sipush 200]) (pc2 := 29) (L2 := [(9, 0), (9, 0), (9, 0), (9, 0), (1, v4), (8, 0), (1, v6), (8, 0), (0, v8), (0, v9), (9, 0), (9, 0)]) (S2 := [(0, 200), (0, v9)]) (h2 := h) (by decide +kernel) rfl trivial ?_
    obtain ⟨ha, hb⟩ := bite hx
    clear hx
    refine Ev.br (i := .if_icmp .ge 128) (len := 3) (a := 32) (b := 157) (by decide +kernel) rfl Iff.rfl (fun hc => ?_) (fun hc => ?_)
    · have hx := ha hc
      clear ha hb hc
      refine Ev.blk (is := [.lload 4, .lconst 0, .lcmp]) (pc2 := 36) (L2 := [(9, 0), (9, 0), (9, 0), (9, 0), (1, v4), (8, 0), (1, v6), (8, 0), (0, v8), (0, v9), (9, 0), (9, 0)]) (S2 := [(0, cmpL v4 0)]) (h2 := h) (by decide +kernel) rfl trivial ?_
      obtain ⟨ha, hb⟩ := bite hx
      clear hx
      refine Ev.br (i := .ifCond .eq 121) (len := 3) (a := 157) (b := 39) (by decide +kernel) rfl cmpL_eq (fun hc => ?_) (fun hc => ?_)
      · have hx := ha hc
        clear ha hb hc
        refine Ev.blk (is := [.lload 6, .lconst 1, .lcmp]) (pc2 := 161) (L2 := [(9, 0), (9, 0), (9, 0), (9, 0), (1, v4), (8, 0), (1, v6), (8, 0), (0, v8), (0, v9), (9, 0), (9, 0)]) (S2 := [(0, cmpL v6 1)]) (h2 := h) (by decide +kernel) rfl trivial ?_
        obtain ⟨ha, hb⟩ := bite hx
        clear hx
        refine Ev.br (i := .ifCond .ne 8) (len := 3) (a := 164) (b := 169) (by decide +kernel) rfl cmpL_eq (fun hc => ?_) (fun hc => ?_)
        · have hx := ha hc
          clear ha hb hc
          refine Ev.blk (is := [.iload 8]) (pc2 := 166) (L2 := [(9, 0), (9, 0), (9, 0), (9, 0), (1, v4), (8, 0), (1, v6), (8, 0), (0, v8), (0, v9), (9, 0), (9, 0)]) (S2 := [(0, v8)]) (h2 := h) (by decide +kernel) rfl trivial ?_
          refine Ev.jp (i := .goto 4) (len := 3) (pc2 := 170) (by decide +kernel) rfl ?_
          cases hx
          exact Ev.ret (i := .ireturn) (len := 1) (by decide +kernel) rfl (finOf (t := some .int) rfl (trivial))
        · have hx := hb hc
          clear ha hb hc
          refine Ev.blk (is := [.iconst 0]) (pc2 := 170) (L2 := [(9, 0), (9, 0), (9, 0), (9, 0), (1, v4), (8, 0), (1, v6), (8, 0), (0, v8), (0, v9), (9, 0), (9, 0)]) (S2 := [(0, 0)]) (h2 := h) (by decide +kernel) rfl trivial ?_
          cases hx
          exact Ev.ret (i := .ireturn) (len := 1) (by decide +kernel) rfl (finOf (t := some .int) rfl (trivial))
      · have hx := hb hc
        clear ha hb hc
        refine Ev.blk (is := [.iconst 0, .istore 10]) (pc2 := 42) (L2 := [(9, 0), (9, 0), (9, 0), (9, 0), (1, v4), (8, 0), (1, v6), (8, 0), (0, v8), (0, v9), (0, 0), (9, 0)]) (S2 := []) (h2 := h) (by decide +kernel) rfl trivial ?_
        exact y_Arithmetic_jacobiOf_42 hd ih FU v4 v6 v8 v9 0 h _ hx
    · have hx := hb hc
      clear ha hb hc
      refine Ev.blk (is := [.lload 6, .lconst 1, .lcmp]) (pc2 := 161) (L2 := [(9, 0), (9, 0), (9, 0), (9, 0), (1, v4), (8, 0), (1, v6), (8, 0), (0, v8), (0, v9), (9, 0), (9, 0)]) (S2 := [(0, cmpL v6 1)]) (h2 := h) (by decide +kernel) rfl trivial ?_
      obtain ⟨ha, hb⟩ := bite hx
      clear hx
      refine Ev.br (i := .ifCond .ne 8) (len := 3) (a := 164) (b := 169) (by decide +kernel) rfl cmpL_eq (fun hc => ?_) (fun hc => ?_)
      · have hx := ha hc
        clear ha hb hc
        refine Ev.blk (is := [.iload 8]) (pc2 := 166) (L2 := [(9, 0), (9, 0), (9, 0), (9, 0), (1, v4), (8, 0), (1, v6), (8, 0), (0, v8), (0, v9), (9, 0), (9, 0)]) (S2 := [(0, v8)]) (h2 := h) (by decide +kernel) rfl trivial ?_
        refine Ev.jp (i := .goto 4) (len := 3) (pc2 := 170) (by decide +kernel) rfl ?_
        cases hx
        exact Ev.ret (i := .ireturn) (len := 1) (by decide +kernel) rfl (finOf (t := some .int) rfl (trivial))
      · have hx := hb hc
        clear ha hb hc
        refine Ev.blk (is := [.iconst 0]) (pc2 := 170) (L2 := [(9, 0), (9, 0), (9, 0), (9, 0), (1, v4), (8, 0), (1, v6), (8, 0), (0, v8), (0, v9), (9, 0), (9, 0)]) (S2 := [(0, 0)]) (h2 := h) (by decide +kernel) rfl trivial ?_
        cases hx
        exact Ev.ret (i := .ireturn) (len := 1) (by decide +kernel) rfl (finOf (t := some .int) rfl (trivial))
theorem x_Arithmetic_jacobiOf {sc : AS} {d : Nat} (hd : 2 ≤ d) {v0 : Int} {v2 : Int} {h : AH} {r : Int} (hx : Arithmetic_jacobiOf v0 v2 = some r) : Runs sc d 48 [(1, v0), (1, v2)] h (some (0, r)) h := by
  obtain ⟨d, rfl⟩ : ∃ e, d = e + 1 := ⟨d - 1, by omega⟩
  have hd : 1 ≤ d := by omega
  unfold Arithmetic_jacobiOf at hx
  refine ⟨⟨aM_48, rfl, Nat.le_of_ble_eq_true rfl⟩, ?_⟩
  show Ev sc d 48 0 [(1, v0), (8, 0), (1, v2), (8, 0), (9, 0), (9, 0), (9, 0), (9, 0), (9, 0), (9, 0), (9, 0), (9, 0)] [] h (some (0, r)) h
  refine Ev.blk (is := [.lload_n 2, .lconst 1, .lcmp]) (pc2 := 3) (L2 := [(1, v0), (8, 0), (1, v2), (8, 0), (9, 0), (9, 0), (9, 0), (9, 0), (9, 0), (9, 0), (9, 0), (9, 0)]) (S2 := [(0, cmpL v2 1)]) (h2 := h) (by decide +kernel) rfl trivial ?_
  obtain ⟨ha, hb⟩ := bite hx
  clear hx
  refine Ev.br (i := .ifCond .ge 5) (len := 3) (a := 6) (b := 8) (by decide +kernel) rfl cmpL_lt (fun hc => ?_) (fun hc => ?_)
  · have hx := ha hc
    clear ha hb hc
    refine Ev.blk (is := [.iconst 0]) (pc2 := 7) (L2 := [(1, v0), (8, 0), (1, v2), (8, 0), (9, 0), (9, 0), (9, 0), (9, 0), (9, 0), (9, 0), (9, 0), (9, 0)]) (S2 := [(0, 0)]) (h2 := h) (by decide +kernel) rfl trivial ?_
    cases hx
    exact Ev.ret (i := .ireturn) (len := 1) (by decide +kernel) rfl (finOf (t := some .int) rfl (trivial))
  · have hx := hb hc
    clear ha hb hc
    refine Ev.blk (is := [.lload_n 0, .lload_n 2]) (pc2 := 10) (L2 := [(1, v0), (8, 0), (1, v2), (8, 0), (9, 0), (9, 0), (9, 0), (9, 0), (9, 0), (9, 0), (9, 0), (9, 0)]) (S2 := [(1, v2), (1, v0)]) (h2 := h) (by decide +kernel) rfl trivial ?_
    obtain ⟨u1, hc, hx⟩ := bca hx
    refine Ev.call (args := [(1, v0), (1, v2)]) (S2 := []) (r1 := (some (1, u1))) (h1 := h) (i := .invokestatic 49) (by decide +kernel) rfl rfl (Nat.le_of_ble_eq_true rfl) (Or.inl rfl) (x_Math_floorMod (by omega) hc) ?_
    refine Ev.blk (is := [.lstore 4, .lload_n 2, .lstore 6, .iconst 1, .istore 8, .iconst 0, .istore 9]) (pc2 := 24) (L2 := [(1, v0), (8, 0), (1, v2), (8, 0), (1, u1), (8, 0), (1, v2), (8, 0), (0, 1), (0, 0), (9, 0), (9, 0)]) (S2 := []) (h2 := h) (by decide +kernel) rfl trivial ?_
    refine Ev.wk (L2 := [(9, 0), (9, 0), (9, 0), (9, 0), (1, u1), (8, 0), (1, v2), (8, 0), (0, 1), (0, 0), (9, 0), (9, 0)]) (wkL_of ⟨Or.inr rfl, ⟨Or.inr rfl, ⟨Or.inr rfl, ⟨Or.inr rfl, ⟨Or.inl rfl, ⟨Or.inl rfl, ⟨Or.inl rfl, ⟨Or.inl rfl, ⟨Or.inl rfl, ⟨Or.inl rfl, ⟨Or.inl rfl, ⟨Or.inl rfl, trivial⟩⟩⟩⟩⟩⟩⟩⟩⟩⟩⟩⟩) ?_
    exact y_Arithmetic_jacobiOf_24 hd FU u1 v2 1 0 h _ hx
theorem y_Arithmetic_sequenceLeft_22 {sc : AS} {d : Nat} (hd : 1 ≤ d) : ∀ (fu : Nat) (v0 : Int) (v2 : Int) (v4 : Int) (v6 : Int) (v8 : Int) (v10 : Int) (v12 : Int) (h : AH) (r : Int), Arithmetic_sequenceLeft_22 fu v0 v2 v4 v6 v8 v10 v12 = some r → Ev sc d 50 22 [(1, v0), (8, 0), (1, v2), (8, 0), (1, v4), (8, 0), (1, v6), (8, 0), (1, v8), (8, 0), (1, v10), (8, 0), (0, v12), (9, 0), (9, 0), (9, 0), (9, 0)] [] h (some (1, r)) h := by
  intro fu
  induction fu with
  | zero => intro v0 v2 v4 v6 v8 v10 v12 h r hx; unfold Arithmetic_sequenceLeft_22 at hx; cases hx
  | succ fu ih =>
    intro v0 v2 v4 v6 v8 v10 v12 h r hx
    unfold Arithmetic_sequenceLeft_22 at hx
    refine Ev.blk (is := [.iload 12]) (pc2 := 24) (L2 := [(1, v0), (8, 0), (1, v2), (8, 0), (1, v4), (8, 0), (1, v6), (8, 0), (1, v8), (8, 0), (1, v10), (8, 0), (0, v12), (9, 0), (9, 0), (9, 0), (9, 0)]) (S2 := [(0, v12)]) (h2 := h) (by decide +kernel) rfl trivial ?_
    obtain ⟨ha, hb⟩ := bite hx
    clear hx
    refine Ev.br (i := .ifCond .lt 99) (len := 3) (a := 123) (b := 27) (by decide +kernel) rfl Iff.rfl (fun hc => ?_) (fun hc => ?_)
    · have hx := ha hc
      clear ha hb hc
      refine Ev.blk (is := [.lload 8]) (pc2 := 125) (L2 := [(1, v0), (8, 0), (1, v2), (8, 0), (1, v4), (8, 0), (1, v6), (8, 0), (1, v8), (8, 0), (1, v10), (8, 0), (0, v12), (9, 0), (9, 0), (9, 0), (9, 0)]) (S2 := [(1, v8)]) (h2 := h) (by decide +kernel) rfl trivial ?_
      cases hx
      exact Ev.ret (i := .lreturn) (len := 1) (by decide +kernel) rfl (finOf (t := some .long) rfl (trivial))
    · have hx := hb hc
      clear ha hb hc
      refine Ev.blk (is := [.lload 8, .jsr_w 2, .lload 10, .lmul, .lload_n 0, .lload 8, .lmul, .lsub, .lload 6]) (pc2 := 42) (L2 := [(1, v0), (8, 0), (1, v2), (8, 0), (1, v4), (8, 0), (1, v6), (8, 0), (1, v8), (8, 0), (1, v10), (8, 0), (0, v12), (9, 0), (9, 0), (9, 0), (9, 0)]) (S2 := [(1, v6), (1, w64 ((w64 (2 * v10)) - (w64 (v0 * v8)))), (1, v8)]) (h2 := h) (by decide +kernel) rfl trivial ?_
      obtain ⟨u1, hc, hx⟩ := bca hx
      refine Ev.call (args := [(1, w64 ((w64 (2 * v10)) - (w64 (v0 * v8)))), (1, v6)]) (S2 := [(1, v8)]) (r1 := (some (1, u1))) (h1 := h) (i := .invokestatic 49) (by decide +kernel) rfl rfl (Nat.le_of_ble_eq_true rfl) (Or.inl rfl) (x_Math_floorMod (by omega) hc) ?_
      obtain ⟨u2, hg, he, hx⟩ := bgd hx
      refine Ev.blk (is := [.lmul, .lload 6, .lrem]) (pc2 := 49) (L2 := [(1, v0), (8, 0), (1, v2), (8, 0), (1, v4), (8, 0), (1, v6), (8, 0), (1, v8), (8, 0), (1, v10), (8, 0), (0, v12), (9, 0), (9, 0), (9, 0), (9, 0)]) (S2 := [(1, u2)]) (h2 := h) (by decide +kernel) (by subst he; rfl) (by exact hg) ?_
      clear hg he
      obtain ⟨u3, hg, he, hx⟩ := bgd hx
      refine Ev.blk (is := [.lstore 13, .lload 10, .lload 10, .lmul, .lload_n 2, .lload 8, .lload 8, .lmul, .lload 6, .lrem]) (pc2 := 65) (L2 := [(1, v0), (8, 0), (1, v2), (8, 0), (1, v4), (8, 0), (1, v6), (8, 0), (1, v8), (8, 0), (1, v10), (8, 0), (0, v12), (1, u2), (8, 0), (9, 0), (9, 0)]) (S2 := [(1, u3), (1, v2), (1, w64 (v10 * v10))]) (h2 := h) (by decide +kernel) (by subst he; rfl) (by exact hg) ?_
      clear hg he
      refine Ev.blk (is := [.lmul, .lsub, .lload 6]) (pc2 := 69) (L2 := [(1, v0), (8, 0), (1, v2), (8, 0), (1, v4), (8, 0), (1, v6), (8, 0), (1, v8), (8, 0), (1, v10), (8, 0), (0, v12), (1, u2), (8, 0), (9, 0), (9, 0)]) (S2 := [(1, v6), (1, w64 ((w64 (v10 * v10)) - (w64 (v2 * u3))))]) (h2 := h) (by decide +kernel) rfl trivial ?_
      obtain ⟨u4, hc, hx⟩ := bca hx
      refine Ev.call (args := [(1, w64 ((w64 (v10 * v10)) - (w64 (v2 * u3)))), (1, v6)]) (S2 := []) (r1 := (some (1, u4))) (h1 := h) (i := .invokestatic 49) (by decide +kernel) rfl rfl (Nat.le_of_ble_eq_true rfl) (Or.inl rfl) (x_Math_floorMod (by omega) hc) ?_
      refine Ev.blk (is := [.lstore 15, .lload 4, .iload 12, .lshr, .lconst 1, .land, .lconst 0, .lcmp]) (pc2 := 83) (L2 := [(1, v0), (8, 0), (1, v2), (8, 0), (1, v4), (8, 0), (1, v6), (8, 0), (1, v8), (8, 0), (1, v10), (8, 0), (0, v12), (1, u2), (8, 0), (1, u4), (8, 0)]) (S2 := [(0, cmpL (andL (shrL v4 v12) 1) 0)]) (h2 := h) (by decide +kernel) rfl trivial ?_
      obtain ⟨ha, hb⟩ := bite hx
      clear hx
      refine Ev.br (i := .ifCond .ne 14) (len := 3) (a := 86) (b := 97) (by decide +kernel) rfl cmpL_eq (fun hc => ?_) (fun hc => ?_)
      · have hx := ha hc
        clear ha hb hc
        refine Ev.blk (is := [.lload 13, .lstore 8, .lload 15, .lstore 10]) (pc2 := 94) (L2 := [(1, v0), (8, 0), (1, v2), (8, 0), (1, v4), (8, 0), (1, v6), (8, 0), (1, u2), (8, 0), (1, u4), (8, 0), (0, v12), (1, u2), (8, 0), (1, u4), (8, 0)]) (S2 := []) (h2 := h) (by decide +kernel) rfl trivial ?_
        refine Ev.jp (i := .goto 23) (len := 3) (pc2 := 117) (by decide +kernel) rfl ?_
        refine Ev.blk (is := [.iinc 12 (-1)]) (pc2 := 120) (L2 := [(1, v0), (8, 0), (1, v2), (8, 0), (1, v4), (8, 0), (1, v6), (8, 0), (1, u2), (8, 0), (1, u4), (8, 0), (0, w32 (v12 + (-1))), (1, u2), (8, 0), (1, u4), (8, 0)]) (S2 := []) (h2 := h) (by decide +kernel) rfl trivial ?_
        refine Ev.jp (i := .goto (-98)) (len := 3) (pc2 := 22) (by decide +kernel) rfl ?_
        refine Ev.wk (L2 := [(1, v0), (8, 0), (1, v2), (8, 0), (1, v4), (8, 0), (1, v6), (8, 0), (1, u2), (8, 0), (1, u4), (8, 0), (0, w32 (v12 + (-1))), (9, 0), (9, 0), (9, 0), (9, 0)]) (wkL_of ⟨Or.inl rfl, ⟨Or.inl rfl, ⟨Or.inl rfl, ⟨Or.inl rfl, ⟨Or.inl rfl, ⟨Or.inl rfl, ⟨Or.inl rfl, ⟨Or.inl rfl, ⟨Or.inl rfl, ⟨Or.inl rfl, ⟨Or.inl rfl, ⟨Or.inl rfl, ⟨Or.inl rfl, ⟨Or.inr rfl, ⟨Or.inr rfl, ⟨Or.inr rfl, ⟨Or.inr rfl, trivial⟩⟩⟩⟩⟩⟩⟩⟩⟩⟩⟩⟩⟩⟩⟩⟩⟩) ?_
        exact ih v0 v2 v4 v6 u2 u4 (w32 (v12 + (-1))) h _ hx
      · have hx := hb hc
        clear ha hb hc
        refine Ev.blk (is := [.lload 15, .lstore 8, .lload_n 0, .lload 15, .lmul, .lload_n 2, .lload 13, .lmul, .lsub, .lload 6]) (pc2 := 112) (L2 := [(1, v0), (8, 0), (1, v2), (8, 0), (1, v4), (8, 0), (1, v6), (8, 0), (1, u4), (8, 0), (1, v10), (8, 0), (0, v12), (1, u2), (8, 0), (1, u4), (8, 0)]) (S2 := [(1, v6), (1, w64 ((w64 (v0 * u4)) - (w64 (v2 * u2))))]) (h2 := h) (by decide +kernel) rfl trivial ?_
        obtain ⟨u5, hc, hx⟩ := bca hx
        refine Ev.call (args := [(1, w64 ((w64 (v0 * u4)) - (w64 (v2 * u2)))), (1, v6)]) (S2 := []) (r1 := (some (1, u5))) (h1 := h) (i := .invokestatic 49) (by decide +kernel) rfl rfl (Nat.le_of_ble_eq_true rfl) (Or.inl rfl) (x_Math_floorMod (by omega) hc) ?_
        refine Ev.blk (is := [.lstore 10, .iinc 12 (-1)]) (pc2 := 120) (L2 := [(1, v0), (8, 0), (1, v2), (8, 0), (1, v4), (8, 0), (1, v6), (8, 0), (1, u4), (8, 0), (1, u5), (8, 0), (0, w32 (v12 + (-1))), (1, u2), (8, 0), (1, u4), (8, 0)]) (S2 := []) (h2 := h) (by decide +kernel) rfl trivial ?_
        refine Ev.jp (i := .goto (-98)) (len := 3) (pc2 := 22) (by decide +kernel) rfl ?_
        refine Ev.wk (L2 := [(1, v0), (8, 0), (1, v2), (8, 0), (1, v4), (8, 0), (1, v6), (8, 0), (1, u4), (8, 0), (1, u5), (8, 0), (0, w32 (v12 + (-1))), (9, 0), (9, 0), (9, 0), (9, 0)]) (wkL_of ⟨Or.inl rfl, ⟨Or.inl rfl, ⟨Or.inl rfl, ⟨Or.inl rfl, ⟨Or.inl rfl, ⟨Or.inl rfl, ⟨Or.inl rfl, ⟨Or.inl rfl, ⟨Or.inl rfl, ⟨Or.inl rfl, ⟨Or.inl rfl, ⟨Or.inl rfl, ⟨Or.inl rfl, ⟨Or.inr rfl, ⟨Or.inr rfl, ⟨Or.inr rfl, ⟨Or.inr rfl, trivial⟩⟩⟩⟩⟩⟩⟩⟩⟩⟩⟩⟩⟩⟩⟩⟩⟩) ?_
        exact ih v0 v2 v4 v6 u4 u5 (w32 (v12 + (-1))) h _ hx
theorem x_Arithmetic_sequenceLeft {sc : AS} {d : Nat} (hd : 2 ≤ d) {v0 : Int} {v2 : Int} {v4 : Int} {v6 : Int} {h : AH} {r : Int} (hx : Arithmetic_sequenceLeft v0 v2 v4 v6 = some r) : Runs sc d 50 [(1, v0), (1, v2), (1, v4), (1, v6)] h (some (1, r)) h := by
  obtain ⟨d, rfl⟩ : ∃ e, d = e + 1 := ⟨d - 1, by omega⟩
  have hd : 1 ≤ d := by omega
  unfold Arithmetic_sequenceLeft at hx
  refine ⟨⟨aM_50, rfl, Nat.le_of_ble_eq_true rfl⟩, ?_⟩
  show Ev sc d 50 0 [(1, v0), (8, 0), (1, v2), (8, 0), (1, v4), (8, 0), (1, v6), (8, 0), (9, 0), (9, 0), (9, 0), (9, 0), (9, 0), (9, 0), (9, 0), (9, 0), (9, 0)] [] h (some (1, r)) h
  refine Ev.blk (is := [.lload 6, .lconst 1, .lcmp]) (pc2 := 4) (L2 := [(1, v0), (8, 0), (1, v2), (8, 0), (1, v4), (8, 0), (1, v6), (8, 0), (9, 0), (9, 0), (9, 0), (9, 0), (9, 0), (9, 0), (9, 0), (9, 0), (9, 0)]) (S2 := [(0, cmpL v6 1)]) (h2 := h) (by decide +kernel) rfl trivial ?_
  obtain ⟨ha, hb⟩ := bite hx
  clear hx
  refine Ev.br (i := .ifCond .ge 5) (len := 3) (a := 7) (b := 9) (by decide +kernel) rfl cmpL_lt (fun hc => ?_) (fun hc => ?_)
  · have hx := ha hc
    clear ha hb hc
    refine Ev.blk (is := [.lconst 0]) (pc2 := 8) (L2 := [(1, v0), (8, 0), (1, v2), (8, 0), (1, v4), (8, 0), (1, v6), (8, 0), (9, 0), (9, 0), (9, 0), (9, 0), (9, 0), (9, 0), (9, 0), (9, 0), (9, 0)]) (S2 := [(1, 0)]) (h2 := h) (by decide +kernel) rfl trivial ?_
    cases hx
    exact Ev.ret (i := .lreturn) (len := 1) (by decide +kernel) rfl (finOf (t := some .long) rfl (trivial))
  · have hx := hb hc
    clear ha hb hc
    obtain ⟨u1, hg, he, hx⟩ := bgd hx
    refine Ev.blk (is := [.lconst 0, .lstore 8, .lconst 1, .lload 6, .lrem]) (pc2 := 16) (L2 := [(1, v0), (8, 0), (1, v2), (8, 0), (1, v4), (8, 0), (1, v6), (8, 0), (1, 0), (8, 0), (9, 0), (9, 0), (9, 0), (9, 0), (9, 0), (9, 0), (9, 0)]) (S2 := [(1, u1)]) (h2 := h) (by decide +kernel) (by subst he; rfl) (by exact hg) ?_
    clear hg he
    refine Ev.blk (is := [.lstore 10, .sipush 31, .istore 12]) (pc2 := 22) (L2 := [(1, v0), (8, 0), (1, v2), (8, 0), (1, v4), (8, 0), (1, v6), (8, 0), (1, 0), (8, 0), (1, u1), (8, 0), (0, 31), (9, 0), (9, 0), (9, 0), (9, 0)]) (S2 := []) (h2 := h) (by decide +kernel) rfl trivial ?_
    exact y_Arithmetic_sequenceLeft_22 hd FU v0 v2 v4 v6 0 u1 31 h _ hx
theorem y_Checker_upFault_91 {sc : AS} {d : Nat} (hd : 2 ≤ d) : ∀ (fu : Nat) (v0 : Int) (v1 : Int) (v5 : Int) (h : AH) (r : Int), Checker_upFault_91 fu v0 v1 v5 h = some r → Ev sc d 46 91 [(2, v0), (1, v1), (8, 0), (9, 0), (9, 0), (0, v5), (9, 0), (9, 0)] [] h (some (0, r)) h := by
  intro fu
  induction fu with
  | zero => intro v0 v1 v5 h r hx; unfold Checker_upFault_91 at hx; cases hx
  | succ fu ih =>
    intro v0 v1 v5 h r hx
    unfold Checker_upFault_91 at hx
    obtain ⟨u1, hg, he, hx⟩ := bgd hx
    refine Ev.blk (is := [.iload 5, .aload_n 0, .getfield 3201]) (pc2 := 97) (L2 := [(2, v0), (1, v1), (8, 0), (9, 0), (9, 0), (0, v5), (9, 0), (9, 0)]) (S2 := [(2, u1), (0, v5)]) (h2 := h) (by decide +kernel) (by subst he; rfl) (by exact hg) ?_
    clear hg he
    obtain ⟨u2, hg, he, hx⟩ := bgd hx
    refine Ev.blk (is := [.getfield 5001]) (pc2 := 100) (L2 := [(2, v0), (1, v1), (8, 0), (9, 0), (9, 0), (0, v5), (9, 0), (9, 0)]) (S2 := [(0, u2), (0, v5)]) (h2 := h) (by decide +kernel) (by subst he; rfl) (by exact hg) ?_
    clear hg he
    obtain ⟨ha, hb⟩ := bite hx
    clear hx
    refine Ev.br (i := .if_icmp .ge 61) (len := 3) (a := 103) (b := 161) (by decide +kernel) rfl Iff.rfl (fun hc => ?_) (fun hc => ?_)
    · have hx := ha hc
      clear ha hb hc
      obtain ⟨u3, hg, he, hx⟩ := bgd hx
      refine Ev.blk (is := [.aload_n 0, .getfield 3201]) (pc2 := 107) (L2 := [(2, v0), (1, v1), (8, 0), (9, 0), (9, 0), (0, v5), (9, 0), (9, 0)]) (S2 := [(2, u3)]) (h2 := h) (by decide +kernel) (by subst he; rfl) (by exact hg) ?_
      clear hg he
      refine Ev.blk (is := [.iload 5, .iconst 0]) (pc2 := 110) (L2 := [(2, v0), (1, v1), (8, 0), (9, 0), (9, 0), (0, v5), (9, 0), (9, 0)]) (S2 := [(0, 0), (0, v5), (2, u3)]) (h2 := h) (by decide +kernel) rfl trivial ?_
      obtain ⟨_, hg, -, hx⟩ := bgd hx
      obtain ⟨u4, hc, hx⟩ := bca hx
      refine Ev.call (args := [(2, u3), (0, v5), (0, 0)]) (S2 := []) (r1 := (some (0, u4))) (h1 := h) (i := .invokevirtual 34) (by decide +kernel) rfl rfl (Nat.le_of_ble_eq_true rfl) (Or.inr (Or.inl ⟨rfl, hg, by decide +kernel⟩)) (x_Side_cell (by omega) hc) ?_
      refine Ev.blk (is := [.i2l, .lstore 6, .lload 6, .lconst 1, .lcmp]) (pc2 := 120) (L2 := [(2, v0), (1, v1), (8, 0), (9, 0), (9, 0), (0, v5), (1, u4), (8, 0)]) (S2 := [(0, cmpL u4 1)]) (h2 := h) (by decide +kernel) rfl trivial ?_
      obtain ⟨ha, hb⟩ := bite hx
      clear hx
      refine Ev.br (i := .ifCond .lt 32) (len := 3) (a := 152) (b := 123) (by decide +kernel) rfl cmpL_lt (fun hc => ?_) (fun hc => ?_)
      · have hx := ha hc
        clear ha hb hc
        refine Ev.blk (is := [.sipush 9]) (pc2 := 154) (L2 := [(2, v0), (1, v1), (8, 0), (9, 0), (9, 0), (0, v5), (1, u4), (8, 0)]) (S2 := [(0, 9)]) (h2 := h) (by decide +kernel) rfl trivial ?_
        cases hx
        exact Ev.ret (i := .ireturn) (len := 1) (by decide +kernel) rfl (finOf (t := some .int) rfl (trivial))
      · have hx := hb hc
        clear ha hb hc
        obtain ⟨u5, hg, he, hx⟩ := bgd hx
        refine Ev.blk (is := [.aload_n 0, .getfield 3004]) (pc2 := 127) (L2 := [(2, v0), (1, v1), (8, 0), (9, 0), (9, 0), (0, v5), (1, u4), (8, 0)]) (S2 := [(0, u5)]) (h2 := h) (by decide +kernel) (by subst he; rfl) (by exact hg) ?_
        clear hg he
        obtain ⟨u6, hg, he, hx⟩ := bgd hx
        refine Ev.blk (is := [.i2l, .aload_n 0, .getfield 3005]) (pc2 := 132) (L2 := [(2, v0), (1, v1), (8, 0), (9, 0), (9, 0), (0, v5), (1, u4), (8, 0)]) (S2 := [(0, u6), (1, u5)]) (h2 := h) (by decide +kernel) (by subst he; rfl) (by exact hg) ?_
        clear hg he
        obtain ⟨u7, hg, he, hx⟩ := bgd hx
        refine Ev.blk (is := [.i2l, .lload_n 1, .lconst 1, .ladd, .lload 6, .ldiv]) (pc2 := 139) (L2 := [(2, v0), (1, v1), (8, 0), (9, 0), (9, 0), (0, v5), (1, u4), (8, 0)]) (S2 := [(1, u7), (1, u6), (1, u5)]) (h2 := h) (by decide +kernel) (by subst he; rfl) (by exact hg) ?_
        clear hg he
        refine Ev.blk (is := [.lload_n 1]) (pc2 := 140) (L2 := [(2, v0), (1, v1), (8, 0), (9, 0), (9, 0), (0, v5), (1, u4), (8, 0)]) (S2 := [(1, v1), (1, u7), (1, u6), (1, u5)]) (h2 := h) (by decide +kernel) rfl trivial ?_
        obtain ⟨u8, hc, hx⟩ := bca hx
        refine Ev.call (args := [(1, u5), (1, u6), (1, u7), (1, v1)]) (S2 := []) (r1 := (some (1, u8))) (h1 := h) (i := .invokestatic 50) (by decide +kernel) rfl rfl (Nat.le_of_ble_eq_true rfl) (Or.inl rfl) (x_Arithmetic_sequenceLeft (by omega) hc) ?_
        refine Ev.blk (is := [.lload_n 1]) (pc2 := 144) (L2 := [(2, v0), (1, v1), (8, 0), (9, 0), (9, 0), (0, v5), (1, u4), (8, 0)]) (S2 := [(1, v1), (1, u8)]) (h2 := h) (by decide +kernel) rfl trivial ?_
        obtain ⟨u9, hc, hx⟩ := bca hx
        refine Ev.call (args := [(1, u8), (1, v1)]) (S2 := []) (r1 := (some (1, u9))) (h1 := h) (i := .invokestatic 37) (by decide +kernel) rfl rfl (Nat.le_of_ble_eq_true rfl) (Or.inl rfl) (x_Arithmetic_commonOf (by omega) hc) ?_
        refine Ev.blk (is := [.lconst 1, .lcmp]) (pc2 := 149) (L2 := [(2, v0), (1, v1), (8, 0), (9, 0), (9, 0), (0, v5), (1, u4), (8, 0)]) (S2 := [(0, cmpL u9 1)]) (h2 := h) (by decide +kernel) rfl trivial ?_
        obtain ⟨ha, hb⟩ := bite hx
        clear hx
        refine Ev.br (i := .ifCond .eq 6) (len := 3) (a := 155) (b := 152) (by decide +kernel) rfl cmpL_eq (fun hc => ?_) (fun hc => ?_)
        · have hx := ha hc
          clear ha hb hc
          refine Ev.blk (is := [.iinc 5 1]) (pc2 := 158) (L2 := [(2, v0), (1, v1), (8, 0), (9, 0), (9, 0), (0, w32 (v5 + 1)), (1, u4), (8, 0)]) (S2 := []) (h2 := h) (by decide +kernel) rfl trivial ?_
          refine Ev.jp (i := .goto (-67)) (len := 3) (pc2 := 91) (by decide +kernel) rfl ?_
          refine Ev.wk (L2 := [(2, v0), (1, v1), (8, 0), (9, 0), (9, 0), (0, w32 (v5 + 1)), (9, 0), (9, 0)]) (wkL_of ⟨Or.inl rfl, ⟨Or.inl rfl, ⟨Or.inl rfl, ⟨Or.inl rfl, ⟨Or.inl rfl, ⟨Or.inl rfl, ⟨Or.inr rfl, ⟨Or.inr rfl, trivial⟩⟩⟩⟩⟩⟩⟩⟩) ?_
          exact ih v0 v1 (w32 (v5 + 1)) h _ hx
        · have hx := hb hc
          clear ha hb hc
          refine Ev.blk (is := [.sipush 9]) (pc2 := 154) (L2 := [(2, v0), (1, v1), (8, 0), (9, 0), (9, 0), (0, v5), (1, u4), (8, 0)]) (S2 := [(0, 9)]) (h2 := h) (by decide +kernel) rfl trivial ?_
          cases hx
          exact Ev.ret (i := .ireturn) (len := 1) (by decide +kernel) rfl (finOf (t := some .int) rfl (trivial))
    · have hx := hb hc
      clear ha hb hc
      refine Ev.blk (is := [.iconst 0]) (pc2 := 162) (L2 := [(2, v0), (1, v1), (8, 0), (9, 0), (9, 0), (0, v5), (9, 0), (9, 0)]) (S2 := [(0, 0)]) (h2 := h) (by decide +kernel) rfl trivial ?_
      cases hx
      exact Ev.ret (i := .ireturn) (len := 1) (by decide +kernel) rfl (finOf (t := some .int) rfl (trivial))
theorem x_Checker_upFault {sc : AS} {d : Nat} (hd : 3 ≤ d) {v0 : Int} {h : AH} {r : Int} (hx : Checker_upFault v0 h = some r) : Runs sc d 46 [(2, v0)] h (some (0, r)) h := by
  obtain ⟨d, rfl⟩ : ∃ e, d = e + 1 := ⟨d - 1, by omega⟩
  have hd : 2 ≤ d := by omega
  unfold Checker_upFault at hx
  refine ⟨⟨aM_46, rfl, Nat.le_of_ble_eq_true rfl⟩, ?_⟩
  show Ev sc d 46 0 [(2, v0), (9, 0), (9, 0), (9, 0), (9, 0), (9, 0), (9, 0), (9, 0)] [] h (some (0, r)) h
  refine Ev.blk (is := [.aload_n 0]) (pc2 := 1) (L2 := [(2, v0), (9, 0), (9, 0), (9, 0), (9, 0), (9, 0), (9, 0), (9, 0)]) (S2 := [(2, v0)]) (h2 := h) (by decide +kernel) rfl trivial ?_
  obtain ⟨_, hg, -, hx⟩ := bgd hx
  obtain ⟨u1, hc, hx⟩ := bca hx
  refine Ev.call (args := [(2, v0)]) (S2 := []) (r1 := (some (0, u1))) (h1 := h) (i := .invokevirtual 47) (by decide +kernel) rfl rfl (Nat.le_of_ble_eq_true rfl) (Or.inr (Or.inl ⟨rfl, hg, by decide +kernel⟩)) (x_Line_hasPQ (by omega) hc) ?_
  obtain ⟨ha, hb⟩ := bite hx
  clear hx
  refine Ev.br (i := .ifCond .ne 5) (len := 3) (a := 7) (b := 9) (by decide +kernel) rfl Iff.rfl (fun hc => ?_) (fun hc => ?_)
  · have hx := ha hc
    clear ha hb hc
    refine Ev.blk (is := [.iconst 0]) (pc2 := 8) (L2 := [(2, v0), (9, 0), (9, 0), (9, 0), (9, 0), (9, 0), (9, 0), (9, 0)]) (S2 := [(0, 0)]) (h2 := h) (by decide +kernel) rfl trivial ?_
    cases hx
    exact Ev.ret (i := .ireturn) (len := 1) (by decide +kernel) rfl (finOf (t := some .int) rfl (trivial))
  · have hx := hb hc
    clear ha hb hc
    obtain ⟨u2, hg, he, hx⟩ := bgd hx
    refine Ev.blk (is := [.aload_n 0, .getfield 3002]) (pc2 := 13) (L2 := [(2, v0), (9, 0), (9, 0), (9, 0), (9, 0), (9, 0), (9, 0), (9, 0)]) (S2 := [(0, u2)]) (h2 := h) (by decide +kernel) (by subst he; rfl) (by exact hg) ?_
    clear hg he
    obtain ⟨u3, hg, he, hx⟩ := bgd hx
    refine Ev.blk (is := [.i2l, .lstore_n 1, .aload_n 0, .getfield 3004]) (pc2 := 19) (L2 := [(2, v0), (1, u2), (8, 0), (9, 0), (9, 0), (9, 0), (9, 0), (9, 0)]) (S2 := [(0, u3)]) (h2 := h) (by decide +kernel) (by subst he; rfl) (by exact hg) ?_
    clear hg he
    obtain ⟨u4, hg, he, hx⟩ := bgd hx
    refine Ev.blk (is := [.i2l, .aload_n 0, .getfield 3004]) (pc2 := 24) (L2 := [(2, v0), (1, u2), (8, 0), (9, 0), (9, 0), (9, 0), (9, 0), (9, 0)]) (S2 := [(0, u4), (1, u3)]) (h2 := h) (by decide +kernel) (by subst he; rfl) (by exact hg) ?_
    clear hg he
    obtain ⟨u5, hg, he, hx⟩ := bgd hx
    refine Ev.blk (is := [.i2l, .lmul, .jsr_w 4, .aload_n 0, .getfield 3005]) (pc2 := 33) (L2 := [(2, v0), (1, u2), (8, 0), (9, 0), (9, 0), (9, 0), (9, 0), (9, 0)]) (S2 := [(0, u5), (1, 4), (1, w64 (u3 * u4))]) (h2 := h) (by decide +kernel) (by subst he; rfl) (by exact hg) ?_
    clear hg he
    refine Ev.blk (is := [.i2l, .lmul, .lsub, .lstore_n 3, .lload_n 3, .lload_n 1]) (pc2 := 39) (L2 := [(2, v0), (1, u2), (8, 0), (1, w64 ((w64 (u3 * u4)) - (w64 (4 * u5)))), (8, 0), (9, 0), (9, 0), (9, 0)]) (S2 := [(1, u2), (1, w64 ((w64 (u3 * u4)) - (w64 (4 * u5))))]) (h2 := h) (by decide +kernel) rfl trivial ?_
    obtain ⟨u6, hc, hx⟩ := bca hx
    refine Ev.call (args := [(1, w64 ((w64 (u3 * u4)) - (w64 (4 * u5)))), (1, u2)]) (S2 := []) (r1 := (some (0, u6))) (h1 := h) (i := .invokestatic 48) (by decide +kernel) rfl rfl (Nat.le_of_ble_eq_true rfl) (Or.inl rfl) (x_Arithmetic_jacobiOf (by omega) hc) ?_
    refine Ev.blk (is := [.iconst (-1)]) (pc2 := 43) (L2 := [(2, v0), (1, u2), (8, 0), (1, w64 ((w64 (u3 * u4)) - (w64 (4 * u5)))), (8, 0), (9, 0), (9, 0), (9, 0)]) (S2 := [(0, (-1)), (0, u6)]) (h2 := h) (by decide +kernel) rfl trivial ?_
    obtain ⟨ha, hb⟩ := bite hx
    clear hx
    refine Ev.br (i := .if_icmp .ne 17) (len := 3) (a := 46) (b := 60) (by decide +kernel) rfl Iff.rfl (fun hc => ?_) (fun hc => ?_)
    · have hx := ha hc
      clear ha hb hc
      obtain ⟨u7, hg, he, hx⟩ := bgd hx
      refine Ev.blk (is := [.aload_n 0, .getfield 3005]) (pc2 := 50) (L2 := [(2, v0), (1, u2), (8, 0), (1, w64 ((w64 (u3 * u4)) - (w64 (4 * u5)))), (8, 0), (9, 0), (9, 0), (9, 0)]) (S2 := [(0, u7)]) (h2 := h) (by decide +kernel) (by subst he; rfl) (by exact hg) ?_
      clear hg he
      refine Ev.blk (is := [.i2l, .lload_n 1]) (pc2 := 52) (L2 := [(2, v0), (1, u2), (8, 0), (1, w64 ((w64 (u3 * u4)) - (w64 (4 * u5)))), (8, 0), (9, 0), (9, 0), (9, 0)]) (S2 := [(1, u2), (1, u7)]) (h2 := h) (by decide +kernel) rfl trivial ?_
      obtain ⟨u8, hc, hx⟩ := bca hx
      refine Ev.call (args := [(1, u7), (1, u2)]) (S2 := []) (r1 := (some (1, u8))) (h1 := h) (i := .invokestatic 37) (by decide +kernel) rfl rfl (Nat.le_of_ble_eq_true rfl) (Or.inl rfl) (x_Arithmetic_commonOf (by omega) hc) ?_
      refine Ev.blk (is := [.lconst 1, .lcmp]) (pc2 := 57) (L2 := [(2, v0), (1, u2), (8, 0), (1, w64 ((w64 (u3 * u4)) - (w64 (4 * u5)))), (8, 0), (9, 0), (9, 0), (9, 0)]) (S2 := [(0, cmpL u8 1)]) (h2 := h) (by decide +kernel) rfl trivial ?_
      obtain ⟨ha, hb⟩ := bite hx
      clear hx
      refine Ev.br (i := .ifCond .eq 6) (len := 3) (a := 63) (b := 60) (by decide +kernel) rfl cmpL_eq (fun hc => ?_) (fun hc => ?_)
      · have hx := ha hc
        clear ha hb hc
        obtain ⟨u9, hg, he, hx⟩ := bgd hx
        refine Ev.blk (is := [.aload_n 0, .getfield 3004]) (pc2 := 67) (L2 := [(2, v0), (1, u2), (8, 0), (1, w64 ((w64 (u3 * u4)) - (w64 (4 * u5)))), (8, 0), (9, 0), (9, 0), (9, 0)]) (S2 := [(0, u9)]) (h2 := h) (by decide +kernel) (by subst he; rfl) (by exact hg) ?_
        clear hg he
        obtain ⟨u10, hg, he, hx⟩ := bgd hx
        refine Ev.blk (is := [.i2l, .aload_n 0, .getfield 3005]) (pc2 := 72) (L2 := [(2, v0), (1, u2), (8, 0), (1, w64 ((w64 (u3 * u4)) - (w64 (4 * u5)))), (8, 0), (9, 0), (9, 0), (9, 0)]) (S2 := [(0, u10), (1, u9)]) (h2 := h) (by decide +kernel) (by subst he; rfl) (by exact hg) ?_
        clear hg he
        refine Ev.blk (is := [.i2l, .lload_n 1, .lconst 1, .ladd, .lload_n 1]) (pc2 := 77) (L2 := [(2, v0), (1, u2), (8, 0), (1, w64 ((w64 (u3 * u4)) - (w64 (4 * u5)))), (8, 0), (9, 0), (9, 0), (9, 0)]) (S2 := [(1, u2), (1, w64 (u2 + 1)), (1, u10), (1, u9)]) (h2 := h) (by decide +kernel) rfl trivial ?_
        obtain ⟨u11, hc, hx⟩ := bca hx
        refine Ev.call (args := [(1, u9), (1, u10), (1, w64 (u2 + 1)), (1, u2)]) (S2 := []) (r1 := (some (1, u11))) (h1 := h) (i := .invokestatic 50) (by decide +kernel) rfl rfl (Nat.le_of_ble_eq_true rfl) (Or.inl rfl) (x_Arithmetic_sequenceLeft (by omega) hc) ?_
        refine Ev.blk (is := [.lconst 0, .lcmp]) (pc2 := 82) (L2 := [(2, v0), (1, u2), (8, 0), (1, w64 ((w64 (u3 * u4)) - (w64 (4 * u5)))), (8, 0), (9, 0), (9, 0), (9, 0)]) (S2 := [(0, cmpL u11 0)]) (h2 := h) (by decide +kernel) rfl trivial ?_
        obtain ⟨ha, hb⟩ := bite hx
        clear hx
        refine Ev.br (i := .ifCond .eq 6) (len := 3) (a := 88) (b := 85) (by decide +kernel) rfl cmpL_eq (fun hc => ?_) (fun hc => ?_)
        · have hx := ha hc
          clear ha hb hc
          refine Ev.blk (is := [.iconst 0, .istore 5]) (pc2 := 91) (L2 := [(2, v0), (1, u2), (8, 0), (1, w64 ((w64 (u3 * u4)) - (w64 (4 * u5)))), (8, 0), (0, 0), (9, 0), (9, 0)]) (S2 := []) (h2 := h) (by decide +kernel) rfl trivial ?_
          refine Ev.wk (L2 := [(2, v0), (1, u2), (8, 0), (9, 0), (9, 0), (0, 0), (9, 0), (9, 0)]) (wkL_of ⟨Or.inl rfl, ⟨Or.inl rfl, ⟨Or.inl rfl, ⟨Or.inr rfl, ⟨Or.inr rfl, ⟨Or.inl rfl, ⟨Or.inl rfl, ⟨Or.inl rfl, trivial⟩⟩⟩⟩⟩⟩⟩⟩) ?_
          exact y_Checker_upFault_91 hd FU v0 u2 0 h _ hx
        · have hx := hb hc
          clear ha hb hc
          refine Ev.blk (is := [.sipush 8]) (pc2 := 87) (L2 := [(2, v0), (1, u2), (8, 0), (1, w64 ((w64 (u3 * u4)) - (w64 (4 * u5)))), (8, 0), (9, 0), (9, 0), (9, 0)]) (S2 := [(0, 8)]) (h2 := h) (by decide +kernel) rfl trivial ?_
          cases hx
          exact Ev.ret (i := .ireturn) (len := 1) (by decide +kernel) rfl (finOf (t := some .int) rfl (trivial))
      · have hx := hb hc
        clear ha hb hc
        refine Ev.blk (is := [.sipush 7]) (pc2 := 62) (L2 := [(2, v0), (1, u2), (8, 0), (1, w64 ((w64 (u3 * u4)) - (w64 (4 * u5)))), (8, 0), (9, 0), (9, 0), (9, 0)]) (S2 := [(0, 7)]) (h2 := h) (by decide +kernel) rfl trivial ?_
        cases hx
        exact Ev.ret (i := .ireturn) (len := 1) (by decide +kernel) rfl (finOf (t := some .int) rfl (trivial))
    · have hx := hb hc
      clear ha hb hc
      refine Ev.blk (is := [.sipush 7]) (pc2 := 62) (L2 := [(2, v0), (1, u2), (8, 0), (1, w64 ((w64 (u3 * u4)) - (w64 (4 * u5)))), (8, 0), (9, 0), (9, 0), (9, 0)]) (S2 := [(0, 7)]) (h2 := h) (by decide +kernel) rfl trivial ?_
      cases hx
      exact Ev.ret (i := .ireturn) (len := 1) (by decide +kernel) rfl (finOf (t := some .int) rfl (trivial))
theorem y_Finder_seekPQ_10 {sc : AS} {d : Nat} (hd : 3 ≤ d) {k2 : Int → Int → AH → Option (Int × AH)} (hk2 : ∀ (v0 : Int) (v1 : Int) (h : AH) (r : (Int × AH)), k2 v0 v1 h = some r → Ev sc d 45 2 [(2, v0), (0, v1), (9, 0)] [] h (some (0, r.1)) r.2) : ∀ (fu : Nat) (v0 : Int) (v1 : Int) (v2 : Int) (h : AH) (r : (Int × AH)), Finder_seekPQ_10 k2 fu v0 v1 v2 h = some r → Ev sc d 45 10 [(2, v0), (0, v1), (0, v2)] [] h (some (0, r.1)) r.2 := by
  intro fu
  induction fu with
  | zero => intro v0 v1 v2 h r hx; unfold Finder_seekPQ_10 at hx; cases hx
  | succ fu ih =>
    intro v0 v1 v2 h r hx
    unfold Finder_seekPQ_10 at hx
    refine Ev.blk (is := [.iload_n 2, .sipush 99]) (pc2 := 13) (L2 := [(2, v0), (0, v1), (0, v2)]) (S2 := [(0, 99), (0, v2)]) (h2 := h) (by decide +kernel) rfl trivial ?_
    obtain ⟨ha, hb⟩ := bite hx
    clear hx
    refine Ev.br (i := .if_icmp .gt 28) (len := 3) (a := 41) (b := 16) (by decide +kernel) rfl Iff.rfl (fun hc => ?_) (fun hc => ?_)
    · have hx := ha hc
      clear ha hb hc
      refine Ev.blk (is := [.iinc 1 1]) (pc2 := 44) (L2 := [(2, v0), (0, w32 (v1 + 1)), (0, v2)]) (S2 := []) (h2 := h) (by decide +kernel) rfl trivial ?_
      refine Ev.jp (i := .goto (-42)) (len := 3) (pc2 := 2) (by decide +kernel) rfl ?_
      refine Ev.wk (L2 := [(2, v0), (0, w32 (v1 + 1)), (9, 0)]) (wkL_of ⟨Or.inl rfl, ⟨Or.inl rfl, ⟨Or.inr rfl, trivial⟩⟩⟩) ?_
      exact hk2 v0 (w32 (v1 + 1)) h _ hx
    · have hx := hb hc
      clear ha hb hc
      obtain ⟨h1, hg, he, hx⟩ := bgd hx
      refine Ev.blk (is := [.aload_n 0, .iload_n 1, .putfield 3004]) (pc2 := 21) (L2 := [(2, v0), (0, v1), (0, v2)]) (S2 := []) (h2 := h1) (by decide +kernel) (by subst he; rfl) (by exact hg) ?_
      clear hg he
      obtain ⟨h2, hg, he, hx⟩ := bgd hx
      refine Ev.blk (is := [.aload_n 0, .iload_n 2, .putfield 3005]) (pc2 := 26) (L2 := [(2, v0), (0, v1), (0, v2)]) (S2 := []) (h2 := h2) (by decide +kernel) (by subst he; rfl) (by exact hg) ?_
      clear hg he
      refine Ev.blk (is := [.aload_n 0]) (pc2 := 27) (L2 := [(2, v0), (0, v1), (0, v2)]) (S2 := [(2, v0)]) (h2 := h2) (by decide +kernel) rfl trivial ?_
      obtain ⟨u3, hc, hx⟩ := bca hx
      refine Ev.call (args := [(2, v0)]) (S2 := []) (r1 := (some (0, u3))) (h1 := h2) (i := .invokestatic 46) (by decide +kernel) rfl rfl (Nat.le_of_ble_eq_true rfl) (Or.inl rfl) (x_Checker_upFault (by omega) hc) ?_
      obtain ⟨ha, hb⟩ := bite hx
      clear hx
      refine Ev.br (i := .ifCond .ne 5) (len := 3) (a := 33) (b := 35) (by decide +kernel) rfl Iff.rfl (fun hc => ?_) (fun hc => ?_)
      · have hx := ha hc
        clear ha hb hc
        refine Ev.blk (is := [.iconst 1]) (pc2 := 34) (L2 := [(2, v0), (0, v1), (0, v2)]) (S2 := [(0, 1)]) (h2 := h2) (by decide +kernel) rfl trivial ?_
        cases hx
        exact Ev.ret (i := .ireturn) (len := 1) (by decide +kernel) rfl (finOf (t := some .boolean) rfl (bz1))
      · have hx := hb hc
        clear ha hb hc
        refine Ev.blk (is := [.iinc 2 1]) (pc2 := 38) (L2 := [(2, v0), (0, v1), (0, w32 (v2 + 1))]) (S2 := []) (h2 := h2) (by decide +kernel) rfl trivial ?_
        refine Ev.jp (i := .goto (-28)) (len := 3) (pc2 := 10) (by decide +kernel) rfl ?_
        exact ih v0 v1 (w32 (v2 + 1)) h2 _ hx
theorem y_Finder_seekPQ_2 {sc : AS} {d : Nat} (hd : 3 ≤ d) : ∀ (fu : Nat) (v0 : Int) (v1 : Int) (h : AH) (r : (Int × AH)), Finder_seekPQ_2 fu v0 v1 h = some r → Ev sc d 45 2 [(2, v0), (0, v1), (9, 0)] [] h (some (0, r.1)) r.2 := by
  intro fu
  induction fu with
  | zero => intro v0 v1 h r hx; unfold Finder_seekPQ_2 at hx; cases hx
  | succ fu ih =>
    intro v0 v1 h r hx
    unfold Finder_seekPQ_2 at hx
    refine Ev.blk (is := [.iload_n 1, .sipush 99]) (pc2 := 5) (L2 := [(2, v0), (0, v1), (9, 0)]) (S2 := [(0, 99), (0, v1)]) (h2 := h) (by decide +kernel) rfl trivial ?_
    obtain ⟨ha, hb⟩ := bite hx
    clear hx
    refine Ev.br (i := .if_icmp .gt 42) (len := 3) (a := 47) (b := 8) (by decide +kernel) rfl Iff.rfl (fun hc => ?_) (fun hc => ?_)
    · have hx := ha hc
      clear ha hb hc
      refine Ev.blk (is := [.iconst 0]) (pc2 := 48) (L2 := [(2, v0), (0, v1), (9, 0)]) (S2 := [(0, 0)]) (h2 := h) (by decide +kernel) rfl trivial ?_
      cases hx
      exact Ev.ret (i := .ireturn) (len := 1) (by decide +kernel) rfl (finOf (t := some .boolean) rfl (bz0))
    · have hx := hb hc
      clear ha hb hc
      refine Ev.blk (is := [.iconst 1, .istore_n 2]) (pc2 := 10) (L2 := [(2, v0), (0, v1), (0, 1)]) (S2 := []) (h2 := h) (by decide +kernel) rfl trivial ?_
      exact y_Finder_seekPQ_10 hd ih FU v0 v1 1 h _ hx
theorem x_Finder_seekPQ {sc : AS} {d : Nat} (hd : 4 ≤ d) {v0 : Int} {h : AH} {r : (Int × AH)} (hx : Finder_seekPQ v0 h = some r) : Runs sc d 45 [(2, v0)] h (some (0, r.1)) r.2 := by
  obtain ⟨d, rfl⟩ : ∃ e, d = e + 1 := ⟨d - 1, by omega⟩
  have hd : 3 ≤ d := by omega
  unfold Finder_seekPQ at hx
  refine ⟨⟨aM_45, rfl, Nat.le_of_ble_eq_true rfl⟩, ?_⟩
  show Ev sc d 45 0 [(2, v0), (9, 0), (9, 0)] [] h (some (0, r.1)) r.2
  refine Ev.blk (is := [.iconst 1, .istore_n 1]) (pc2 := 2) (L2 := [(2, v0), (0, 1), (9, 0)]) (S2 := []) (h2 := h) (by decide +kernel) rfl trivial ?_
  exact y_Finder_seekPQ_2 hd FU v0 1 h _ hx
theorem x_Finder_seek {sc : AS} {d : Nat} (hd : 5 ≤ d) {v0 : Int} {h : AH} {r : (Int × AH)} (hx : Finder_seek v0 h = some r) : Runs sc d 38 [(2, v0)] h (some (0, r.1)) r.2 := by
  obtain ⟨d, rfl⟩ : ∃ e, d = e + 1 := ⟨d - 1, by omega⟩
  have hd : 4 ≤ d := by omega
  unfold Finder_seek at hx
  refine ⟨⟨aM_38, rfl, Nat.le_of_ble_eq_true rfl⟩, ?_⟩
  show Ev sc d 38 0 [(2, v0)] [] h (some (0, r.1)) r.2
  obtain ⟨u1, hg, he, hx⟩ := bgd hx
  refine Ev.blk (is := [.aload_n 0, .getfield 3003]) (pc2 := 4) (L2 := [(2, v0)]) (S2 := [(0, u1)]) (h2 := h) (by decide +kernel) (by subst he; rfl) (by exact hg) ?_
  clear hg he
  obtain ⟨ha, hb⟩ := bite hx
  clear hx
  by_cases hc0 : u1 = 1
  · have hx := ha hc0
    clear ha hb
    refine Ev.jp (i := .tableswitch 67 1 4 #[32, 37, 42, 47]) (len := 32) (pc2 := 36) (by decide +kernel) (by rw [hc0]; rfl) ?_
    clear hc0
    refine Ev.blk (is := [.aload_n 0]) (pc2 := 37) (L2 := [(2, v0)]) (S2 := [(2, v0)]) (h2 := h) (by decide +kernel) rfl trivial ?_
    obtain ⟨u2, hc, hx⟩ := bca hx
    refine Ev.call (args := [(2, v0)]) (S2 := []) (r1 := (some (0, u2.1))) (h1 := u2.2) (i := .invokestatic 39) (by decide +kernel) rfl rfl (Nat.le_of_ble_eq_true rfl) (Or.inl rfl) (x_Finder_seekOneBase (by omega) hc) ?_
    obtain ⟨_, hg, -, hx⟩ := bgd hx
    cases hx
    exact Ev.ret (i := .ireturn) (len := 1) (by decide +kernel) rfl (finOf (t := some .boolean) rfl (hg))
  have hx := hb hc0
  clear ha hb
  obtain ⟨ha, hb⟩ := bite hx
  clear hx
  by_cases hc1 : u1 = 2
  · have hx := ha hc1
    clear ha hb
    refine Ev.jp (i := .tableswitch 67 1 4 #[32, 37, 42, 47]) (len := 32) (pc2 := 41) (by decide +kernel) (by rw [hc1]; rfl) ?_
    clear hc1
    refine Ev.blk (is := [.aload_n 0]) (pc2 := 42) (L2 := [(2, v0)]) (S2 := [(2, v0)]) (h2 := h) (by decide +kernel) rfl trivial ?_
    obtain ⟨u3, hc, hx⟩ := bca hx
    refine Ev.call (args := [(2, v0)]) (S2 := []) (r1 := (some (0, u3.1))) (h1 := u3.2) (i := .invokestatic 43) (by decide +kernel) rfl rfl (Nat.le_of_ble_eq_true rfl) (Or.inl rfl) (x_Finder_seekBases (by omega) hc) ?_
    obtain ⟨_, hg, -, hx⟩ := bgd hx
    cases hx
    exact Ev.ret (i := .ireturn) (len := 1) (by decide +kernel) rfl (finOf (t := some .boolean) rfl (hg))
  have hx := hb hc1
  clear ha hb
  obtain ⟨ha, hb⟩ := bite hx
  clear hx
  by_cases hc2 : u1 = 3
  · have hx := ha hc2
    clear ha hb
    refine Ev.jp (i := .tableswitch 67 1 4 #[32, 37, 42, 47]) (len := 32) (pc2 := 46) (by decide +kernel) (by rw [hc2]; rfl) ?_
    clear hc2
    refine Ev.blk (is := [.aload_n 0]) (pc2 := 47) (L2 := [(2, v0)]) (S2 := [(2, v0)]) (h2 := h) (by decide +kernel) rfl trivial ?_
    obtain ⟨u4, hc, hx⟩ := bca hx
    refine Ev.call (args := [(2, v0)]) (S2 := []) (r1 := (some (0, u4.1))) (h1 := u4.2) (i := .invokestatic 45) (by decide +kernel) rfl rfl (Nat.le_of_ble_eq_true rfl) (Or.inl rfl) (x_Finder_seekPQ (by omega) hc) ?_
    obtain ⟨_, hg, -, hx⟩ := bgd hx
    cases hx
    exact Ev.ret (i := .ireturn) (len := 1) (by decide +kernel) rfl (finOf (t := some .boolean) rfl (hg))
  have hx := hb hc2
  clear ha hb
  obtain ⟨ha, hb⟩ := bite hx
  clear hx
  by_cases hc3 : u1 = 4
  · have hx := ha hc3
    clear ha hb
    refine Ev.jp (i := .tableswitch 67 1 4 #[32, 37, 42, 47]) (len := 32) (pc2 := 51) (by decide +kernel) (by rw [hc3]; rfl) ?_
    clear hc3
    refine Ev.blk (is := [.aload_n 0]) (pc2 := 52) (L2 := [(2, v0)]) (S2 := [(2, v0)]) (h2 := h) (by decide +kernel) rfl trivial ?_
    obtain ⟨u5, hc, hx⟩ := bca hx
    refine Ev.call (args := [(2, v0)]) (S2 := []) (r1 := (some (0, u5.1))) (h1 := u5.2) (i := .invokestatic 43) (by decide +kernel) rfl rfl (Nat.le_of_ble_eq_true rfl) (Or.inl rfl) (x_Finder_seekBases (by omega) hc) ?_
    obtain ⟨ha, hb⟩ := bite hx
    clear hx
    refine Ev.br (i := .ifCond .eq 14) (len := 3) (a := 69) (b := 58) (by decide +kernel) rfl Iff.rfl (fun hc => ?_) (fun hc => ?_)
    · have hx := ha hc
      clear ha hb hc
      refine Ev.blk (is := [.iconst 0]) (pc2 := 70) (L2 := [(2, v0)]) (S2 := [(0, 0)]) (h2 := u5.2) (by decide +kernel) rfl trivial ?_
      cases hx
      exact Ev.ret (i := .ireturn) (len := 1) (by decide +kernel) rfl (finOf (t := some .boolean) rfl (bz0))
    · have hx := hb hc
      clear ha hb hc
      refine Ev.blk (is := [.aload_n 0]) (pc2 := 59) (L2 := [(2, v0)]) (S2 := [(2, v0)]) (h2 := u5.2) (by decide +kernel) rfl trivial ?_
      obtain ⟨u6, hc, hx⟩ := bca hx
      refine Ev.call (args := [(2, v0)]) (S2 := []) (r1 := (some (0, u6.1))) (h1 := u6.2) (i := .invokestatic 45) (by decide +kernel) rfl rfl (Nat.le_of_ble_eq_true rfl) (Or.inl rfl) (x_Finder_seekPQ (by omega) hc) ?_
      obtain ⟨ha, hb⟩ := bite hx
      clear hx
      refine Ev.br (i := .ifCond .eq 7) (len := 3) (a := 69) (b := 65) (by decide +kernel) rfl Iff.rfl (fun hc => ?_) (fun hc => ?_)
      · have hx := ha hc
        clear ha hb hc
        refine Ev.blk (is := [.iconst 0]) (pc2 := 70) (L2 := [(2, v0)]) (S2 := [(0, 0)]) (h2 := u6.2) (by decide +kernel) rfl trivial ?_
        cases hx
        exact Ev.ret (i := .ireturn) (len := 1) (by decide +kernel) rfl (finOf (t := some .boolean) rfl (bz0))
      · have hx := hb hc
        clear ha hb hc
        refine Ev.blk (is := [.iconst 1]) (pc2 := 66) (L2 := [(2, v0)]) (S2 := [(0, 1)]) (h2 := u6.2) (by decide +kernel) rfl trivial ?_
        refine Ev.jp (i := .goto 4) (len := 3) (pc2 := 70) (by decide +kernel) rfl ?_
        cases hx
        exact Ev.ret (i := .ireturn) (len := 1) (by decide +kernel) rfl (finOf (t := some .boolean) rfl (bz1))
  have hx := hb hc3
  clear ha hb
  refine Ev.jp (i := .tableswitch 67 1 4 #[32, 37, 42, 47]) (len := 32) (pc2 := 71) (by decide +kernel) (jsw (by omega)) ?_
  clear hc0 hc1 hc2 hc3
  refine Ev.blk (is := [.iconst 1]) (pc2 := 72) (L2 := [(2, v0)]) (S2 := [(0, 1)]) (h2 := h) (by decide +kernel) rfl trivial ?_
  cases hx
  exact Ev.ret (i := .ireturn) (len := 1) (by decide +kernel) rfl (finOf (t := some .boolean) rfl (bz1))
theorem x_Line_rowCount {sc : AS} {d : Nat} (hd : 1 ≤ d) {v0 : Int} {h : AH} {r : Int} (hx : Line_rowCount v0 h = some r) : Runs sc d 51 [(2, v0)] h (some (0, r)) h := by
  obtain ⟨d, rfl⟩ : ∃ e, d = e + 1 := ⟨d - 1, by omega⟩
  have hd : 0 ≤ d := by omega
  unfold Line_rowCount at hx
  refine ⟨⟨aM_51, rfl, Nat.le_of_ble_eq_true rfl⟩, ?_⟩
  show Ev sc d 51 0 [(2, v0)] [] h (some (0, r)) h
  obtain ⟨u1, hg, he, hx⟩ := bgd hx
  refine Ev.blk (is := [.aload_n 0, .getfield 3200]) (pc2 := 4) (L2 := [(2, v0)]) (S2 := [(2, u1)]) (h2 := h) (by decide +kernel) (by subst he; rfl) (by exact hg) ?_
  clear hg he
  obtain ⟨u2, hg, he, hx⟩ := bgd hx
  refine Ev.blk (is := [.getfield 5001]) (pc2 := 7) (L2 := [(2, v0)]) (S2 := [(0, u2)]) (h2 := h) (by decide +kernel) (by subst he; rfl) (by exact hg) ?_
  clear hg he
  obtain ⟨u3, hg, he, hx⟩ := bgd hx
  refine Ev.blk (is := [.aload_n 0, .getfield 3201]) (pc2 := 11) (L2 := [(2, v0)]) (S2 := [(2, u3), (0, u2)]) (h2 := h) (by decide +kernel) (by subst he; rfl) (by exact hg) ?_
  clear hg he
  obtain ⟨u4, hg, he, hx⟩ := bgd hx
  refine Ev.blk (is := [.getfield 5001]) (pc2 := 14) (L2 := [(2, v0)]) (S2 := [(0, u4), (0, u2)]) (h2 := h) (by decide +kernel) (by subst he; rfl) (by exact hg) ?_
  clear hg he
  refine Ev.blk (is := [.iadd]) (pc2 := 15) (L2 := [(2, v0)]) (S2 := [(0, w32 (u2 + u4))]) (h2 := h) (by decide +kernel) rfl trivial ?_
  cases hx
  exact Ev.ret (i := .ireturn) (len := 1) (by decide +kernel) rfl (finOf (t := some .int) rfl (trivial))
theorem x_Line_divisor {sc : AS} {d : Nat} (hd : 2 ≤ d) {v0 : Int} {v1 : Int} {h : AH} {r : Int} (hx : Line_divisor v0 v1 h = some r) : Runs sc d 52 [(2, v0), (0, v1)] h (some (0, r)) h := by
  obtain ⟨d, rfl⟩ : ∃ e, d = e + 1 := ⟨d - 1, by omega⟩
  have hd : 1 ≤ d := by omega
  unfold Line_divisor at hx
  refine ⟨⟨aM_52, rfl, Nat.le_of_ble_eq_true rfl⟩, ?_⟩
  show Ev sc d 52 0 [(2, v0), (0, v1)] [] h (some (0, r)) h
  obtain ⟨u1, hg, he, hx⟩ := bgd hx
  refine Ev.blk (is := [.iload_n 1, .aload_n 0, .getfield 3200]) (pc2 := 5) (L2 := [(2, v0), (0, v1)]) (S2 := [(2, u1), (0, v1)]) (h2 := h) (by decide +kernel) (by subst he; rfl) (by exact hg) ?_
  clear hg he
  obtain ⟨u2, hg, he, hx⟩ := bgd hx
  refine Ev.blk (is := [.getfield 5001]) (pc2 := 8) (L2 := [(2, v0), (0, v1)]) (S2 := [(0, u2), (0, v1)]) (h2 := h) (by decide +kernel) (by subst he; rfl) (by exact hg) ?_
  clear hg he
  obtain ⟨ha, hb⟩ := bite hx
  clear hx
  refine Ev.br (i := .if_icmp .ge 15) (len := 3) (a := 11) (b := 23) (by decide +kernel) rfl Iff.rfl (fun hc => ?_) (fun hc => ?_)
  · have hx := ha hc
    clear ha hb hc
    obtain ⟨u3, hg, he, hx⟩ := bgd hx
    refine Ev.blk (is := [.aload_n 0, .getfield 3200]) (pc2 := 15) (L2 := [(2, v0), (0, v1)]) (S2 := [(2, u3)]) (h2 := h) (by decide +kernel) (by subst he; rfl) (by exact hg) ?_
    clear hg he
    refine Ev.blk (is := [.iload_n 1, .iconst 0]) (pc2 := 17) (L2 := [(2, v0), (0, v1)]) (S2 := [(0, 0), (0, v1), (2, u3)]) (h2 := h) (by decide +kernel) rfl trivial ?_
    obtain ⟨_, hg, -, hx⟩ := bgd hx
    obtain ⟨u4, hc, hx⟩ := bca hx
    refine Ev.call (args := [(2, u3), (0, v1), (0, 0)]) (S2 := []) (r1 := (some (0, u4))) (h1 := h) (i := .invokevirtual 34) (by decide +kernel) rfl rfl (Nat.le_of_ble_eq_true rfl) (Or.inr (Or.inl ⟨rfl, hg, by decide +kernel⟩)) (x_Side_cell (by omega) hc) ?_
    refine Ev.jp (i := .goto 20) (len := 3) (pc2 := 40) (by decide +kernel) rfl ?_
    cases hx
    exact Ev.ret (i := .ireturn) (len := 1) (by decide +kernel) rfl (finOf (t := some .int) rfl (trivial))
  · have hx := hb hc
    clear ha hb hc
    obtain ⟨u5, hg, he, hx⟩ := bgd hx
    refine Ev.blk (is := [.aload_n 0, .getfield 3201]) (pc2 := 27) (L2 := [(2, v0), (0, v1)]) (S2 := [(2, u5)]) (h2 := h) (by decide +kernel) (by subst he; rfl) (by exact hg) ?_
    clear hg he
    obtain ⟨u6, hg, he, hx⟩ := bgd hx
    refine Ev.blk (is := [.iload_n 1, .aload_n 0, .getfield 3200]) (pc2 := 32) (L2 := [(2, v0), (0, v1)]) (S2 := [(2, u6), (0, v1), (2, u5)]) (h2 := h) (by decide +kernel) (by subst he; rfl) (by exact hg) ?_
    clear hg he
    obtain ⟨u7, hg, he, hx⟩ := bgd hx
    refine Ev.blk (is := [.getfield 5001]) (pc2 := 35) (L2 := [(2, v0), (0, v1)]) (S2 := [(0, u7), (0, v1), (2, u5)]) (h2 := h) (by decide +kernel) (by subst he; rfl) (by exact hg) ?_
    clear hg he
    refine Ev.blk (is := [.isub, .iconst 0]) (pc2 := 37) (L2 := [(2, v0), (0, v1)]) (S2 := [(0, 0), (0, w32 (v1 - u7)), (2, u5)]) (h2 := h) (by decide +kernel) rfl trivial ?_
    obtain ⟨_, hg, -, hx⟩ := bgd hx
    obtain ⟨u8, hc, hx⟩ := bca hx
    refine Ev.call (args := [(2, u5), (0, w32 (v1 - u7)), (0, 0)]) (S2 := []) (r1 := (some (0, u8))) (h1 := h) (i := .invokevirtual 34) (by decide +kernel) rfl rfl (Nat.le_of_ble_eq_true rfl) (Or.inr (Or.inl ⟨rfl, hg, by decide +kernel⟩)) (x_Side_cell (by omega) hc) ?_
    cases hx
    exact Ev.ret (i := .ireturn) (len := 1) (by decide +kernel) rfl (finOf (t := some .int) rfl (trivial))
theorem y_Ledger_leastAhead_3 {sc : AS} {d : Nat} (hd : 1 ≤ d) : ∀ (fu : Nat) (v0 : Int) (v1 : Int) (v3 : Int) (v4 : Int) (v5 : Int) (h : AH) (r : Int), Ledger_leastAhead_3 fu v0 v1 v3 v4 v5 h = some r → Ev sc d 54 3 [(2, v0), (1, v1), (8, 0), (0, v3), (0, v4), (0, v5)] [] h (some (0, r)) h := by
  intro fu
  induction fu with
  | zero => intro v0 v1 v3 v4 v5 h r hx; unfold Ledger_leastAhead_3 at hx; cases hx
  | succ fu ih =>
    intro v0 v1 v3 v4 v5 h r hx
    unfold Ledger_leastAhead_3 at hx
    refine Ev.blk (is := [.iload 5, .iload_n 3]) (pc2 := 6) (L2 := [(2, v0), (1, v1), (8, 0), (0, v3), (0, v4), (0, v5)]) (S2 := [(0, v3), (0, v5)]) (h2 := h) (by decide +kernel) rfl trivial ?_
    obtain ⟨ha, hb⟩ := bite hx
    clear hx
    refine Ev.br (i := .if_icmp .ge 45) (len := 3) (a := 9) (b := 51) (by decide +kernel) rfl Iff.rfl (fun hc => ?_) (fun hc => ?_)
    · have hx := ha hc
      clear ha hb hc
      refine Ev.blk (is := [.lload_n 1, .iload 5]) (pc2 := 12) (L2 := [(2, v0), (1, v1), (8, 0), (0, v3), (0, v4), (0, v5)]) (S2 := [(0, v5), (1, v1)]) (h2 := h) (by decide +kernel) rfl trivial ?_
      obtain ⟨u1, hc, hx⟩ := bca hx
      refine Ev.call (args := [(1, v1), (0, v5)]) (S2 := []) (r1 := (some (0, u1))) (h1 := h) (i := .invokestatic 14) (by decide +kernel) rfl rfl (Nat.le_of_ble_eq_true rfl) (Or.inl rfl) (x_Ledger_isIn (by omega) hc) ?_
      obtain ⟨ha, hb⟩ := bite hx
      clear hx
      refine Ev.br (i := .ifCond .eq 30) (len := 3) (a := 45) (b := 18) (by decide +kernel) rfl Iff.rfl (fun hc => ?_) (fun hc => ?_)
      · have hx := ha hc
        clear ha hb hc
        refine Ev.blk (is := [.iinc 5 1]) (pc2 := 48) (L2 := [(2, v0), (1, v1), (8, 0), (0, v3), (0, v4), (0, w32 (v5 + 1))]) (S2 := []) (h2 := h) (by decide +kernel) rfl trivial ?_
        refine Ev.jp (i := .goto (-45)) (len := 3) (pc2 := 3) (by decide +kernel) rfl ?_
        exact ih v0 v1 v3 v4 (w32 (v5 + 1)) h _ hx
      · have hx := hb hc
        clear ha hb hc
        refine Ev.blk (is := [.aload_n 0, .iload 5]) (pc2 := 21) (L2 := [(2, v0), (1, v1), (8, 0), (0, v3), (0, v4), (0, v5)]) (S2 := [(0, v5), (2, v0)]) (h2 := h) (by decide +kernel) rfl trivial ?_
        obtain ⟨_, hg, -, hx⟩ := bgd hx
        obtain ⟨u2, hc, hx⟩ := bca hx
        refine Ev.call (args := [(2, v0), (0, v5)]) (S2 := []) (r1 := (some (0, u2))) (h1 := h) (i := .invokevirtual 13) (by decide +kernel) rfl rfl (Nat.le_of_ble_eq_true rfl) (Or.inr (Or.inl ⟨rfl, hg, by decide +kernel⟩)) (x_Ledger_has (by omega) hc) ?_
        obtain ⟨ha, hb⟩ := bite hx
        clear hx
        refine Ev.br (i := .ifCond .eq 21) (len := 3) (a := 45) (b := 27) (by decide +kernel) rfl Iff.rfl (fun hc => ?_) (fun hc => ?_)
        · have hx := ha hc
          clear ha hb hc
          refine Ev.blk (is := [.iinc 5 1]) (pc2 := 48) (L2 := [(2, v0), (1, v1), (8, 0), (0, v3), (0, v4), (0, w32 (v5 + 1))]) (S2 := []) (h2 := h) (by decide +kernel) rfl trivial ?_
          refine Ev.jp (i := .goto (-45)) (len := 3) (pc2 := 3) (by decide +kernel) rfl ?_
          exact ih v0 v1 v3 v4 (w32 (v5 + 1)) h _ hx
        · have hx := hb hc
          clear ha hb hc
          obtain ⟨u3, hg, he, hx⟩ := bgd hx
          refine Ev.blk (is := [.aload_n 0, .getfield 2200]) (pc2 := 31) (L2 := [(2, v0), (1, v1), (8, 0), (0, v3), (0, v4), (0, v5)]) (S2 := [(2, u3)]) (h2 := h) (by decide +kernel) (by subst he; rfl) (by exact hg) ?_
          clear hg he
          obtain ⟨u4, hg, he, hx⟩ := bgd hx
          refine Ev.blk (is := [.iload 5, .aaload]) (pc2 := 34) (L2 := [(2, v0), (1, v1), (8, 0), (0, v3), (0, v4), (0, v5)]) (S2 := [(2, u4)]) (h2 := h) (by decide +kernel) (by subst he; rfl) (by exact hg) ?_
          clear hg he
          obtain ⟨u5, hg, he, hx⟩ := bgd hx
          refine Ev.blk (is := [.getfield 3002]) (pc2 := 37) (L2 := [(2, v0), (1, v1), (8, 0), (0, v3), (0, v4), (0, v5)]) (S2 := [(0, u5)]) (h2 := h) (by decide +kernel) (by subst he; rfl) (by exact hg) ?_
          clear hg he
          refine Ev.blk (is := [.iload 4]) (pc2 := 39) (L2 := [(2, v0), (1, v1), (8, 0), (0, v3), (0, v4), (0, v5)]) (S2 := [(0, v4), (0, u5)]) (h2 := h) (by decide +kernel) rfl trivial ?_
          obtain ⟨ha, hb⟩ := bite hx
          clear hx
          refine Ev.br (i := .if_icmp .ne 6) (len := 3) (a := 42) (b := 45) (by decide +kernel) rfl Iff.rfl (fun hc => ?_) (fun hc => ?_)
          · have hx := ha hc
            clear ha hb hc
            refine Ev.blk (is := [.iload 5]) (pc2 := 44) (L2 := [(2, v0), (1, v1), (8, 0), (0, v3), (0, v4), (0, v5)]) (S2 := [(0, v5)]) (h2 := h) (by decide +kernel) rfl trivial ?_
            cases hx
            exact Ev.ret (i := .ireturn) (len := 1) (by decide +kernel) rfl (finOf (t := some .int) rfl (trivial))
          · have hx := hb hc
            clear ha hb hc
            refine Ev.blk (is := [.iinc 5 1]) (pc2 := 48) (L2 := [(2, v0), (1, v1), (8, 0), (0, v3), (0, v4), (0, w32 (v5 + 1))]) (S2 := []) (h2 := h) (by decide +kernel) rfl trivial ?_
            refine Ev.jp (i := .goto (-45)) (len := 3) (pc2 := 3) (by decide +kernel) rfl ?_
            exact ih v0 v1 v3 v4 (w32 (v5 + 1)) h _ hx
    · have hx := hb hc
      clear ha hb hc
      refine Ev.blk (is := [.iconst (-1)]) (pc2 := 52) (L2 := [(2, v0), (1, v1), (8, 0), (0, v3), (0, v4), (0, v5)]) (S2 := [(0, (-1))]) (h2 := h) (by decide +kernel) rfl trivial ?_
      cases hx
      exact Ev.ret (i := .ireturn) (len := 1) (by decide +kernel) rfl (finOf (t := some .int) rfl (trivial))
theorem x_Ledger_leastAhead {sc : AS} {d : Nat} (hd : 2 ≤ d) {v0 : Int} {v1 : Int} {v3 : Int} {v4 : Int} {h : AH} {r : Int} (hx : Ledger_leastAhead v0 v1 v3 v4 h = some r) : Runs sc d 54 [(2, v0), (1, v1), (0, v3), (0, v4)] h (some (0, r)) h := by
  obtain ⟨d, rfl⟩ : ∃ e, d = e + 1 := ⟨d - 1, by omega⟩
  have hd : 1 ≤ d := by omega
  unfold Ledger_leastAhead at hx
  refine ⟨⟨aM_54, rfl, Nat.le_of_ble_eq_true rfl⟩, ?_⟩
  show Ev sc d 54 0 [(2, v0), (1, v1), (8, 0), (0, v3), (0, v4), (9, 0)] [] h (some (0, r)) h
  refine Ev.blk (is := [.iconst 0, .istore 5]) (pc2 := 3) (L2 := [(2, v0), (1, v1), (8, 0), (0, v3), (0, v4), (0, 0)]) (S2 := []) (h2 := h) (by decide +kernel) rfl trivial ?_
  exact y_Ledger_leastAhead_3 hd FU v0 v1 v3 v4 0 h _ hx
theorem x_Ledger_leastFor {sc : AS} {d : Nat} (hd : 3 ≤ d) {v0 : Int} {v1 : Int} {h : AH} {r : Int} (hx : Ledger_leastFor v0 v1 h = some r) : Runs sc d 53 [(2, v0), (0, v1)] h (some (0, r)) h := by
  obtain ⟨d, rfl⟩ : ∃ e, d = e + 1 := ⟨d - 1, by omega⟩
  have hd : 2 ≤ d := by omega
  unfold Ledger_leastFor at hx
  refine ⟨⟨aM_53, rfl, Nat.le_of_ble_eq_true rfl⟩, ?_⟩
  show Ev sc d 53 0 [(2, v0), (0, v1)] [] h (some (0, r)) h
  obtain ⟨u1, hg, he, hx⟩ := bgd hx
  refine Ev.blk (is := [.aload_n 0, .aload_n 0, .getfield 2104]) (pc2 := 5) (L2 := [(2, v0), (0, v1)]) (S2 := [(1, u1), (2, v0)]) (h2 := h) (by decide +kernel) (by subst he; rfl) (by exact hg) ?_
  clear hg he
  obtain ⟨u2, hg, he, hx⟩ := bgd hx
  refine Ev.blk (is := [.aload_n 0, .getfield 2005]) (pc2 := 9) (L2 := [(2, v0), (0, v1)]) (S2 := [(0, u2), (1, u1), (2, v0)]) (h2 := h) (by decide +kernel) (by subst he; rfl) (by exact hg) ?_
  clear hg he
  refine Ev.blk (is := [.iload_n 1]) (pc2 := 10) (L2 := [(2, v0), (0, v1)]) (S2 := [(0, v1), (0, u2), (1, u1), (2, v0)]) (h2 := h) (by decide +kernel) rfl trivial ?_
  obtain ⟨_, hg, -, hx⟩ := bgd hx
  obtain ⟨u3, hc, hx⟩ := bca hx
  refine Ev.call (args := [(2, v0), (1, u1), (0, u2), (0, v1)]) (S2 := []) (r1 := (some (0, u3))) (h1 := h) (i := .invokevirtual 54) (by decide +kernel) rfl rfl (Nat.le_of_ble_eq_true rfl) (Or.inr (Or.inl ⟨rfl, hg, by decide +kernel⟩)) (x_Ledger_leastAhead (by omega) hc) ?_
  cases hx
  exact Ev.ret (i := .ireturn) (len := 1) (by decide +kernel) rfl (finOf (t := some .int) rfl (trivial))
theorem x_Side_copy {sc : AS} {d : Nat} (hd : 1 ≤ d) {v0 : Int} {v1 : Int} {h : AH} {r : AH} (hx : Side_copy v0 v1 h = some r) : Runs sc d 58 [(2, v0), (2, v1)] h none r := by
  obtain ⟨d, rfl⟩ : ∃ e, d = e + 1 := ⟨d - 1, by omega⟩
  have hd : 0 ≤ d := by omega
  unfold Side_copy at hx
  refine ⟨⟨aM_58, rfl, Nat.le_of_ble_eq_true rfl⟩, ?_⟩
  show Ev sc d 58 0 [(2, v0), (2, v1)] [] h none r
  obtain ⟨u1, hg, he, hx⟩ := bgd hx
  refine Ev.blk (is := [.aload_n 0, .aload_n 1, .getfield 5001]) (pc2 := 5) (L2 := [(2, v0), (2, v1)]) (S2 := [(0, u1), (2, v0)]) (h2 := h) (by decide +kernel) (by subst he; rfl) (by exact hg) ?_
  clear hg he
  obtain ⟨h2, hg, he, hx⟩ := bgd hx
  refine Ev.blk (is := [.putfield 5001]) (pc2 := 8) (L2 := [(2, v0), (2, v1)]) (S2 := []) (h2 := h2) (by decide +kernel) (by subst he; rfl) (by exact hg) ?_
  clear hg he
  obtain ⟨u3, hg, he, hx⟩ := bgd hx
  refine Ev.blk (is := [.aload_n 1, .getfield 5200]) (pc2 := 12) (L2 := [(2, v0), (2, v1)]) (S2 := [(2, u3)]) (h2 := h2) (by decide +kernel) (by subst he; rfl) (by exact hg) ?_
  clear hg he
  obtain ⟨u4, hg, he, hx⟩ := bgd hx
  refine Ev.blk (is := [.iconst 0, .aload_n 0, .getfield 5200]) (pc2 := 17) (L2 := [(2, v0), (2, v1)]) (S2 := [(2, u4), (0, 0), (2, u3)]) (h2 := h2) (by decide +kernel) (by subst he; rfl) (by exact hg) ?_
  clear hg he
  obtain ⟨u5, hg, he, hx⟩ := bgd hx
  refine Ev.blk (is := [.iconst 0, .aload_n 0, .getfield 5200]) (pc2 := 22) (L2 := [(2, v0), (2, v1)]) (S2 := [(2, u5), (0, 0), (2, u4), (0, 0), (2, u3)]) (h2 := h2) (by decide +kernel) (by subst he; rfl) (by exact hg) ?_
  clear hg he
  obtain ⟨u6, hg, he, hx⟩ := bgd hx
  refine Ev.blk (is := [.arraylength]) (pc2 := 23) (L2 := [(2, v0), (2, v1)]) (S2 := [(0, u6), (0, 0), (2, u4), (0, 0), (2, u3)]) (h2 := h2) (by decide +kernel) (by subst he; rfl) (by exact hg) ?_
  clear hg he
  obtain ⟨h7, hg, he, hx⟩ := bgd hx
  refine Ev.blk (is := [.swap]) (pc2 := 26) (L2 := [(2, v0), (2, v1)]) (S2 := []) (h2 := h7) (by decide +kernel) (by subst he; rfl) (by exact hg) ?_
  clear hg he
  cases hx
  exact Ev.ret (i := .return_) (len := 1) (by decide +kernel) rfl (finOf (t := none) rfl (trivial))
theorem x_Line_copy {sc : AS} {d : Nat} (hd : 2 ≤ d) {v0 : Int} {v1 : Int} {h : AH} {r : AH} (hx : Line_copy v0 v1 h = some r) : Runs sc d 57 [(2, v0), (2, v1)] h none r := by
  obtain ⟨d, rfl⟩ : ∃ e, d = e + 1 := ⟨d - 1, by omega⟩
  have hd : 1 ≤ d := by omega
  unfold Line_copy at hx
  refine ⟨⟨aM_57, rfl, Nat.le_of_ble_eq_true rfl⟩, ?_⟩
  show Ev sc d 57 0 [(2, v0), (2, v1)] [] h none r
  obtain ⟨u1, hg, he, hx⟩ := bgd hx
  refine Ev.blk (is := [.aload_n 0, .aload_n 1, .getfield 3002]) (pc2 := 5) (L2 := [(2, v0), (2, v1)]) (S2 := [(0, u1), (2, v0)]) (h2 := h) (by decide +kernel) (by subst he; rfl) (by exact hg) ?_
  clear hg he
  obtain ⟨h2, hg, he, hx⟩ := bgd hx
  refine Ev.blk (is := [.putfield 3002]) (pc2 := 8) (L2 := [(2, v0), (2, v1)]) (S2 := []) (h2 := h2) (by decide +kernel) (by subst he; rfl) (by exact hg) ?_
  clear hg he
  obtain ⟨u3, hg, he, hx⟩ := bgd hx
  refine Ev.blk (is := [.aload_n 0, .aload_n 1, .getfield 3003]) (pc2 := 13) (L2 := [(2, v0), (2, v1)]) (S2 := [(0, u3), (2, v0)]) (h2 := h2) (by decide +kernel) (by subst he; rfl) (by exact hg) ?_
  clear hg he
  obtain ⟨h4, hg, he, hx⟩ := bgd hx
  refine Ev.blk (is := [.putfield 3003]) (pc2 := 16) (L2 := [(2, v0), (2, v1)]) (S2 := []) (h2 := h4) (by decide +kernel) (by subst he; rfl) (by exact hg) ?_
  clear hg he
  obtain ⟨u5, hg, he, hx⟩ := bgd hx
  refine Ev.blk (is := [.aload_n 0, .aload_n 1, .getfield 3004]) (pc2 := 21) (L2 := [(2, v0), (2, v1)]) (S2 := [(0, u5), (2, v0)]) (h2 := h4) (by decide +kernel) (by subst he; rfl) (by exact hg) ?_
  clear hg he
  obtain ⟨h6, hg, he, hx⟩ := bgd hx
  refine Ev.blk (is := [.putfield 3004]) (pc2 := 24) (L2 := [(2, v0), (2, v1)]) (S2 := []) (h2 := h6) (by decide +kernel) (by subst he; rfl) (by exact hg) ?_
  clear hg he
  obtain ⟨u7, hg, he, hx⟩ := bgd hx
  refine Ev.blk (is := [.aload_n 0, .aload_n 1, .getfield 3005]) (pc2 := 29) (L2 := [(2, v0), (2, v1)]) (S2 := [(0, u7), (2, v0)]) (h2 := h6) (by decide +kernel) (by subst he; rfl) (by exact hg) ?_
  clear hg he
  obtain ⟨h8, hg, he, hx⟩ := bgd hx
  refine Ev.blk (is := [.putfield 3005]) (pc2 := 32) (L2 := [(2, v0), (2, v1)]) (S2 := []) (h2 := h8) (by decide +kernel) (by subst he; rfl) (by exact hg) ?_
  clear hg he
  obtain ⟨u9, hg, he, hx⟩ := bgd hx
  refine Ev.blk (is := [.aload_n 0, .getfield 3200]) (pc2 := 36) (L2 := [(2, v0), (2, v1)]) (S2 := [(2, u9)]) (h2 := h8) (by decide +kernel) (by subst he; rfl) (by exact hg) ?_
  clear hg he
  obtain ⟨u10, hg, he, hx⟩ := bgd hx
  refine Ev.blk (is := [.aload_n 1, .getfield 3200]) (pc2 := 40) (L2 := [(2, v0), (2, v1)]) (S2 := [(2, u10), (2, u9)]) (h2 := h8) (by decide +kernel) (by subst he; rfl) (by exact hg) ?_
  clear hg he
  obtain ⟨_, hg, -, hx⟩ := bgd hx
  obtain ⟨h12, hc, hx⟩ := bca hx
  refine Ev.call (args := [(2, u9), (2, u10)]) (S2 := []) (r1 := none) (h1 := h12) (i := .invokevirtual 58) (by decide +kernel) rfl rfl (Nat.le_of_ble_eq_true rfl) (Or.inr (Or.inl ⟨rfl, hg, by decide +kernel⟩)) (x_Side_copy (by omega) hc) ?_
  obtain ⟨u13, hg, he, hx⟩ := bgd hx
  refine Ev.blk (is := [.aload_n 0, .getfield 3201]) (pc2 := 47) (L2 := [(2, v0), (2, v1)]) (S2 := [(2, u13)]) (h2 := h12) (by decide +kernel) (by subst he; rfl) (by exact hg) ?_
  clear hg he
  obtain ⟨u14, hg, he, hx⟩ := bgd hx
  refine Ev.blk (is := [.aload_n 1, .getfield 3201]) (pc2 := 51) (L2 := [(2, v0), (2, v1)]) (S2 := [(2, u14), (2, u13)]) (h2 := h12) (by decide +kernel) (by subst he; rfl) (by exact hg) ?_
  clear hg he
  obtain ⟨_, hg, -, hx⟩ := bgd hx
  obtain ⟨h16, hc, hx⟩ := bca hx
  refine Ev.call (args := [(2, u13), (2, u14)]) (S2 := []) (r1 := none) (h1 := h16) (i := .invokevirtual 58) (by decide +kernel) rfl rfl (Nat.le_of_ble_eq_true rfl) (Or.inr (Or.inl ⟨rfl, hg, by decide +kernel⟩)) (x_Side_copy (by omega) hc) ?_
  obtain ⟨u17, hg, he, hx⟩ := bgd hx
  refine Ev.blk (is := [.aload_n 0, .aload_n 1, .getfield 3006]) (pc2 := 59) (L2 := [(2, v0), (2, v1)]) (S2 := [(0, u17), (2, v0)]) (h2 := h16) (by decide +kernel) (by subst he; rfl) (by exact hg) ?_
  clear hg he
  obtain ⟨h18, hg, he, hx⟩ := bgd hx
  refine Ev.blk (is := [.putfield 3006]) (pc2 := 62) (L2 := [(2, v0), (2, v1)]) (S2 := []) (h2 := h18) (by decide +kernel) (by subst he; rfl) (by exact hg) ?_
  clear hg he
  cases hx
  exact Ev.ret (i := .return_) (len := 1) (by decide +kernel) rfl (finOf (t := none) rfl (trivial))
theorem y_Ledger_append_40 {sc : AS} {d : Nat} (hd : 2 ≤ d) : ∀ (v0 : Int) (v1 : Int) (h : AH) (r : (Int × AH)), Ledger_append_40 v0 v1 h = some r → Ev sc d 56 40 [(2, v0), (2, v1)] [] h (some (0, r.1)) r.2 := by
  intro v0 v1 h r hx
  unfold Ledger_append_40 at hx
  obtain ⟨u1, hg, he, hx⟩ := bgd hx
  refine Ev.blk (is := [.aload_n 0, .getfield 2200]) (pc2 := 44) (L2 := [(2, v0), (2, v1)]) (S2 := [(2, u1)]) (h2 := h) (by decide +kernel) (by subst he; rfl) (by exact hg) ?_
  clear hg he
  obtain ⟨u2, hg, he, hx⟩ := bgd hx
  refine Ev.blk (is := [.aload_n 0, .getfield 2005]) (pc2 := 48) (L2 := [(2, v0), (2, v1)]) (S2 := [(0, u2), (2, u1)]) (h2 := h) (by decide +kernel) (by subst he; rfl) (by exact hg) ?_
  clear hg he
  obtain ⟨u3, hg, he, hx⟩ := bgd hx
  refine Ev.blk (is := [.aaload]) (pc2 := 49) (L2 := [(2, v0), (2, v1)]) (S2 := [(2, u3)]) (h2 := h) (by decide +kernel) (by subst he; rfl) (by exact hg) ?_
  clear hg he
  refine Ev.blk (is := [.aload_n 1]) (pc2 := 50) (L2 := [(2, v0), (2, v1)]) (S2 := [(2, v1), (2, u3)]) (h2 := h) (by decide +kernel) rfl trivial ?_
  obtain ⟨_, hg, -, hx⟩ := bgd hx
  obtain ⟨h5, hc, hx⟩ := bca hx
  refine Ev.call (args := [(2, u3), (2, v1)]) (S2 := []) (r1 := none) (h1 := h5) (i := .invokevirtual 57) (by decide +kernel) rfl rfl (Nat.le_of_ble_eq_true rfl) (Or.inr (Or.inl ⟨rfl, hg, by decide +kernel⟩)) (x_Line_copy (by omega) hc) ?_
  obtain ⟨u6, hg, he, hx⟩ := bgd hx
  refine Ev.blk (is := [.aload_n 0, .dup, .getfield 2005]) (pc2 := 58) (L2 := [(2, v0), (2, v1)]) (S2 := [(0, u6), (2, v0)]) (h2 := h5) (by decide +kernel) (by subst he; rfl) (by exact hg) ?_
  clear hg he
  obtain ⟨h7, hg, he, hx⟩ := bgd hx
  refine Ev.blk (is := [.iconst 1, .iadd, .putfield 2005]) (pc2 := 63) (L2 := [(2, v0), (2, v1)]) (S2 := []) (h2 := h7) (by decide +kernel) (by subst he; rfl) (by exact hg) ?_
  clear hg he
  obtain ⟨u8, hg, he, hx⟩ := bgd hx
  refine Ev.blk (is := [.aload_n 0, .getfield 2005]) (pc2 := 67) (L2 := [(2, v0), (2, v1)]) (S2 := [(0, u8)]) (h2 := h7) (by decide +kernel) (by subst he; rfl) (by exact hg) ?_
  clear hg he
  refine Ev.blk (is := [.iconst 1, .isub]) (pc2 := 69) (L2 := [(2, v0), (2, v1)]) (S2 := [(0, w32 (u8 - 1))]) (h2 := h7) (by decide +kernel) rfl trivial ?_
  cases hx
  exact Ev.ret (i := .ireturn) (len := 1) (by decide +kernel) rfl (finOf (t := some .int) rfl (trivial))
theorem x_Ledger_append {sc : AS} {d : Nat} (hd : 3 ≤ d) {v0 : Int} {v1 : Int} {h : AH} {r : (Int × AH)} (hx : Ledger_append v0 v1 h = some r) : Runs sc d 56 [(2, v0), (2, v1)] h (some (0, r.1)) r.2 := by
  obtain ⟨d, rfl⟩ : ∃ e, d = e + 1 := ⟨d - 1, by omega⟩
  have hd : 2 ≤ d := by omega
  unfold Ledger_append at hx
  refine ⟨⟨aM_56, rfl, Nat.le_of_ble_eq_true rfl⟩, ?_⟩
  show Ev sc d 56 0 [(2, v0), (2, v1)] [] h (some (0, r.1)) r.2
  obtain ⟨u1, hg, he, hx⟩ := bgd hx
  refine Ev.blk (is := [.aload_n 0, .getfield 2005]) (pc2 := 4) (L2 := [(2, v0), (2, v1)]) (S2 := [(0, u1)]) (h2 := h) (by decide +kernel) (by subst he; rfl) (by exact hg) ?_
  clear hg he
  refine Ev.blk (is := [.sipush 60]) (pc2 := 6) (L2 := [(2, v0), (2, v1)]) (S2 := [(0, 60), (0, u1)]) (h2 := h) (by decide +kernel) rfl trivial ?_
  obtain ⟨ha, hb⟩ := bite hx
  clear hx
  refine Ev.br (i := .if_icmp .lt 6) (len := 3) (a := 12) (b := 9) (by decide +kernel) rfl Iff.rfl (fun hc => ?_) (fun hc => ?_)
  · have hx := ha hc
    clear ha hb hc
    obtain ⟨u2, hg, he, hx⟩ := bgd hx
    refine Ev.blk (is := [.aload_n 0, .getfield 2200]) (pc2 := 16) (L2 := [(2, v0), (2, v1)]) (S2 := [(2, u2)]) (h2 := h) (by decide +kernel) (by subst he; rfl) (by exact hg) ?_
    clear hg he
    obtain ⟨u3, hg, he, hx⟩ := bgd hx
    refine Ev.blk (is := [.aload_n 0, .getfield 2005]) (pc2 := 20) (L2 := [(2, v0), (2, v1)]) (S2 := [(0, u3), (2, u2)]) (h2 := h) (by decide +kernel) (by subst he; rfl) (by exact hg) ?_
    clear hg he
    obtain ⟨u4, hg, he, hx⟩ := bgd hx
    refine Ev.blk (is := [.aaload]) (pc2 := 21) (L2 := [(2, v0), (2, v1)]) (S2 := [(2, u4)]) (h2 := h) (by decide +kernel) (by subst he; rfl) (by exact hg) ?_
    clear hg he
    obtain ⟨ha, hb⟩ := bite hx
    clear hx
    refine Ev.br (i := .ifnonnull 19) (len := 3) (a := 24) (b := 40) (by decide +kernel) rfl Iff.rfl (fun hc => ?_) (fun hc => ?_)
    · have hx := ha hc
      clear ha hb hc
      obtain ⟨u5, hg, he, hx⟩ := bgd hx
      refine Ev.blk (is := [.aload_n 0, .getfield 2200]) (pc2 := 28) (L2 := [(2, v0), (2, v1)]) (S2 := [(2, u5)]) (h2 := h) (by decide +kernel) (by subst he; rfl) (by exact hg) ?_
      clear hg he
      obtain ⟨u6, hg, he, hx⟩ := bgd hx
      refine Ev.blk (is := [.aload_n 0, .getfield 2005]) (pc2 := 32) (L2 := [(2, v0), (2, v1)]) (S2 := [(0, u6), (2, u5)]) (h2 := h) (by decide +kernel) (by subst he; rfl) (by exact hg) ?_
      clear hg he
      obtain ⟨h7, hg, he, hx⟩ := bgd hx
      refine Ev.blk (is := [.new 3]) (pc2 := 35) (L2 := [(2, v0), (2, v1)]) (S2 := [(2, hNx h), (0, u6), (2, u5)]) (h2 := h7) (by decide +kernel) (by subst he; rfl) (by exact trivial) ?_
      clear hg he
      refine Ev.blk (is := [.dup]) (pc2 := 36) (L2 := [(2, v0), (2, v1)]) (S2 := [(2, hNx h), (2, hNx h), (0, u6), (2, u5)]) (h2 := h7) (by decide +kernel) rfl trivial ?_
      obtain ⟨_, hg, -, hx⟩ := bgd hx
      obtain ⟨h9, hc, hx⟩ := bca hx
      refine Ev.call (args := [(2, hNx h)]) (S2 := [(2, hNx h), (0, u6), (2, u5)]) (r1 := none) (h1 := h9) (i := .invokespecial 6) (by decide +kernel) rfl rfl (Nat.le_of_ble_eq_true rfl) (Or.inr (Or.inr ⟨rfl, _, _, rfl, hg⟩)) (x_Line_init (by omega) hc) ?_
      obtain ⟨h10, hg, he, hx⟩ := bgd hx
      refine Ev.blk (is := [.aastore]) (pc2 := 40) (L2 := [(2, v0), (2, v1)]) (S2 := []) (h2 := h10) (by decide +kernel) (by subst he; rfl) (by exact hg) ?_
      clear hg he
      exact y_Ledger_append_40 hd v0 v1 h10 _ hx
    · have hx := hb hc
      clear ha hb hc
      exact y_Ledger_append_40 hd v0 v1 h _ hx
  · have hx := hb hc
    clear ha hb hc
    refine Ev.blk (is := [.sipush (-3)]) (pc2 := 11) (L2 := [(2, v0), (2, v1)]) (S2 := [(0, (-3))]) (h2 := h) (by decide +kernel) rfl trivial ?_
    cases hx
    exact Ev.ret (i := .ireturn) (len := 1) (by decide +kernel) rfl (finOf (t := some .int) rfl (trivial))
theorem y_Ledger_settle_54 {sc : AS} {d : Nat} (hd : 2 ≤ d) : ∀ (fu : Nat) (v0 : Int) (v1 : Int) (v3 : Int) (v4 : Int) (h : AH) (r : AH), Ledger_settle_54 fu v0 v1 v3 v4 h = some r → Ev sc d 59 54 [(2, v0), (0, v1), (9, 0), (2, v3), (0, v4), (9, 0)] [] h none r := by
  intro fu
  induction fu with
  | zero => intro v0 v1 v3 v4 h r hx; unfold Ledger_settle_54 at hx; cases hx
  | succ fu ih =>
    intro v0 v1 v3 v4 h r hx
    unfold Ledger_settle_54 at hx
    refine Ev.blk (is := [.iload 4, .aload_n 3]) (pc2 := 57) (L2 := [(2, v0), (0, v1), (9, 0), (2, v3), (0, v4), (9, 0)]) (S2 := [(2, v3), (0, v4)]) (h2 := h) (by decide +kernel) rfl trivial ?_
    obtain ⟨_, hg, -, hx⟩ := bgd hx
    obtain ⟨u1, hc, hx⟩ := bca hx
    refine Ev.call (args := [(2, v3)]) (S2 := [(0, v4)]) (r1 := (some (0, u1))) (h1 := h) (i := .invokevirtual 51) (by decide +kernel) rfl rfl (Nat.le_of_ble_eq_true rfl) (Or.inr (Or.inl ⟨rfl, hg, by decide +kernel⟩)) (x_Line_rowCount (by omega) hc) ?_
    obtain ⟨ha, hb⟩ := bite hx
    clear hx
    refine Ev.br (i := .if_icmp .ge 71) (len := 3) (a := 63) (b := 131) (by decide +kernel) rfl Iff.rfl (fun hc => ?_) (fun hc => ?_)
    · have hx := ha hc
      clear ha hb hc
      obtain ⟨u2, hg, he, hx⟩ := bgd hx
      refine Ev.blk (is := [.aload_n 0, .aload_n 0, .getfield 2104]) (pc2 := 68) (L2 := [(2, v0), (0, v1), (9, 0), (2, v3), (0, v4), (9, 0)]) (S2 := [(1, u2), (2, v0)]) (h2 := h) (by decide +kernel) (by subst he; rfl) (by exact hg) ?_
      clear hg he
      refine Ev.blk (is := [.iload_n 1, .aload_n 3, .iload 4]) (pc2 := 72) (L2 := [(2, v0), (0, v1), (9, 0), (2, v3), (0, v4), (9, 0)]) (S2 := [(0, v4), (2, v3), (0, v1), (1, u2), (2, v0)]) (h2 := h) (by decide +kernel) rfl trivial ?_
      obtain ⟨_, hg, -, hx⟩ := bgd hx
      obtain ⟨u3, hc, hx⟩ := bca hx
      refine Ev.call (args := [(2, v3), (0, v4)]) (S2 := [(0, v1), (1, u2), (2, v0)]) (r1 := (some (0, u3))) (h1 := h) (i := .invokevirtual 52) (by decide +kernel) rfl rfl (Nat.le_of_ble_eq_true rfl) (Or.inr (Or.inl ⟨rfl, hg, by decide +kernel⟩)) (x_Line_divisor (by omega) hc) ?_
      obtain ⟨_, hg, -, hx⟩ := bgd hx
      obtain ⟨u4, hc, hx⟩ := bca hx
      refine Ev.call (args := [(2, v0), (1, u2), (0, v1), (0, u3)]) (S2 := []) (r1 := (some (0, u4))) (h1 := h) (i := .invokevirtual 54) (by decide +kernel) rfl rfl (Nat.le_of_ble_eq_true rfl) (Or.inr (Or.inl ⟨rfl, hg, by decide +kernel⟩)) (x_Ledger_leastAhead (by omega) hc) ?_
      refine Ev.blk (is := [.istore 5, .iload 5]) (pc2 := 82) (L2 := [(2, v0), (0, v1), (9, 0), (2, v3), (0, v4), (0, u4)]) (S2 := [(0, u4)]) (h2 := h) (by decide +kernel) rfl trivial ?_
      obtain ⟨ha, hb⟩ := bite hx
      clear hx
      refine Ev.br (i := .ifCond .lt 43) (len := 3) (a := 125) (b := 85) (by decide +kernel) rfl Iff.rfl (fun hc => ?_) (fun hc => ?_)
      · have hx := ha hc
        clear ha hb hc
        refine Ev.blk (is := [.iinc 4 1]) (pc2 := 128) (L2 := [(2, v0), (0, v1), (9, 0), (2, v3), (0, w32 (v4 + 1)), (0, u4)]) (S2 := []) (h2 := h) (by decide +kernel) rfl trivial ?_
        refine Ev.jp (i := .goto (-74)) (len := 3) (pc2 := 54) (by decide +kernel) rfl ?_
        refine Ev.wk (L2 := [(2, v0), (0, v1), (9, 0), (2, v3), (0, w32 (v4 + 1)), (9, 0)]) (wkL_of ⟨Or.inl rfl, ⟨Or.inl rfl, ⟨Or.inl rfl, ⟨Or.inl rfl, ⟨Or.inl rfl, ⟨Or.inr rfl, trivial⟩⟩⟩⟩⟩⟩) ?_
        exact ih v0 v1 v3 (w32 (v4 + 1)) h _ hx
      · have hx := hb hc
        clear ha hb hc
        obtain ⟨u5, hg, he, hx⟩ := bgd hx
        refine Ev.blk (is := [.aload_n 0, .getfield 2202]) (pc2 := 89) (L2 := [(2, v0), (0, v1), (9, 0), (2, v3), (0, v4), (0, u4)]) (S2 := [(2, u5)]) (h2 := h) (by decide +kernel) (by subst he; rfl) (by exact hg) ?_
        clear hg he
        obtain ⟨u6, hg, he, hx⟩ := bgd hx
        refine Ev.blk (is := [.iload_n 1, .dup2, .laload]) (pc2 := 92) (L2 := [(2, v0), (0, v1), (9, 0), (2, v3), (0, v4), (0, u4)]) (S2 := [(1, u6), (0, v1), (2, u5)]) (h2 := h) (by decide +kernel) (by subst he; rfl) (by exact hg) ?_
        clear hg he
        obtain ⟨u7, hg, he, hx⟩ := bgd hx
        refine Ev.blk (is := [.aload_n 0, .getfield 2202]) (pc2 := 96) (L2 := [(2, v0), (0, v1), (9, 0), (2, v3), (0, v4), (0, u4)]) (S2 := [(2, u7), (1, u6), (0, v1), (2, u5)]) (h2 := h) (by decide +kernel) (by subst he; rfl) (by exact hg) ?_
        clear hg he
        obtain ⟨u8, hg, he, hx⟩ := bgd hx
        refine Ev.blk (is := [.iload 5, .laload]) (pc2 := 99) (L2 := [(2, v0), (0, v1), (9, 0), (2, v3), (0, v4), (0, u4)]) (S2 := [(1, u8), (1, u6), (0, v1), (2, u5)]) (h2 := h) (by decide +kernel) (by subst he; rfl) (by exact hg) ?_
        clear hg he
        obtain ⟨h9, hg, he, hx⟩ := bgd hx
        refine Ev.blk (is := [.lor, .lastore]) (pc2 := 101) (L2 := [(2, v0), (0, v1), (9, 0), (2, v3), (0, v4), (0, u4)]) (S2 := []) (h2 := h9) (by decide +kernel) (by subst he; rfl) (by exact hg) ?_
        clear hg he
        obtain ⟨u10, hg, he, hx⟩ := bgd hx
        refine Ev.blk (is := [.aload_n 0, .getfield 2203]) (pc2 := 105) (L2 := [(2, v0), (0, v1), (9, 0), (2, v3), (0, v4), (0, u4)]) (S2 := [(2, u10)]) (h2 := h9) (by decide +kernel) (by subst he; rfl) (by exact hg) ?_
        clear hg he
        obtain ⟨u11, hg, he, hx⟩ := bgd hx
        refine Ev.blk (is := [.iload_n 1, .aload_n 0, .getfield 2203]) (pc2 := 110) (L2 := [(2, v0), (0, v1), (9, 0), (2, v3), (0, v4), (0, u4)]) (S2 := [(2, u11), (0, v1), (2, u10)]) (h2 := h9) (by decide +kernel) (by subst he; rfl) (by exact hg) ?_
        clear hg he
        obtain ⟨u12, hg, he, hx⟩ := bgd hx
        refine Ev.blk (is := [.iload_n 1, .iaload]) (pc2 := 112) (L2 := [(2, v0), (0, v1), (9, 0), (2, v3), (0, v4), (0, u4)]) (S2 := [(0, u12), (0, v1), (2, u10)]) (h2 := h9) (by decide +kernel) (by subst he; rfl) (by exact hg) ?_
        clear hg he
        obtain ⟨u13, hg, he, hx⟩ := bgd hx
        refine Ev.blk (is := [.aload_n 0, .getfield 2203]) (pc2 := 116) (L2 := [(2, v0), (0, v1), (9, 0), (2, v3), (0, v4), (0, u4)]) (S2 := [(2, u13), (0, u12), (0, v1), (2, u10)]) (h2 := h9) (by decide +kernel) (by subst he; rfl) (by exact hg) ?_
        clear hg he
        obtain ⟨u14, hg, he, hx⟩ := bgd hx
        refine Ev.blk (is := [.iload 5, .iaload]) (pc2 := 119) (L2 := [(2, v0), (0, v1), (9, 0), (2, v3), (0, v4), (0, u4)]) (S2 := [(0, u14), (0, u12), (0, v1), (2, u10)]) (h2 := h9) (by decide +kernel) (by subst he; rfl) (by exact hg) ?_
        clear hg he
        refine Ev.blk (is := [.iconst 1, .iadd]) (pc2 := 121) (L2 := [(2, v0), (0, v1), (9, 0), (2, v3), (0, v4), (0, u4)]) (S2 := [(0, w32 (u14 + 1)), (0, u12), (0, v1), (2, u10)]) (h2 := h9) (by decide +kernel) rfl trivial ?_
        obtain ⟨u15, hc, hx⟩ := bca hx
        refine Ev.call (args := [(0, u12), (0, w32 (u14 + 1))]) (S2 := [(0, v1), (2, u10)]) (r1 := (some (0, u15))) (h1 := h9) (i := .invokestatic 42) (by decide +kernel) rfl rfl (Nat.le_of_ble_eq_true rfl) (Or.inl rfl) (x_Math_max (by omega) hc) ?_
        obtain ⟨h16, hg, he, hx⟩ := bgd hx
        refine Ev.blk (is := [.iastore]) (pc2 := 125) (L2 := [(2, v0), (0, v1), (9, 0), (2, v3), (0, v4), (0, u4)]) (S2 := []) (h2 := h16) (by decide +kernel) (by subst he; rfl) (by exact hg) ?_
        clear hg he
        refine Ev.blk (is := [.iinc 4 1]) (pc2 := 128) (L2 := [(2, v0), (0, v1), (9, 0), (2, v3), (0, w32 (v4 + 1)), (0, u4)]) (S2 := []) (h2 := h16) (by decide +kernel) rfl trivial ?_
        refine Ev.jp (i := .goto (-74)) (len := 3) (pc2 := 54) (by decide +kernel) rfl ?_
        refine Ev.wk (L2 := [(2, v0), (0, v1), (9, 0), (2, v3), (0, w32 (v4 + 1)), (9, 0)]) (wkL_of ⟨Or.inl rfl, ⟨Or.inl rfl, ⟨Or.inl rfl, ⟨Or.inl rfl, ⟨Or.inl rfl, ⟨Or.inr rfl, trivial⟩⟩⟩⟩⟩⟩) ?_
        exact ih v0 v1 v3 (w32 (v4 + 1)) h16 _ hx
    · have hx := hb hc
      clear ha hb hc
      obtain ⟨u17, hg, he, hx⟩ := bgd hx
      refine Ev.blk (is := [.aload_n 0, .dup, .getfield 2104]) (pc2 := 136) (L2 := [(2, v0), (0, v1), (9, 0), (2, v3), (0, v4), (9, 0)]) (S2 := [(1, u17), (2, v0)]) (h2 := h) (by decide +kernel) (by subst he; rfl) (by exact hg) ?_
      clear hg he
      obtain ⟨h18, hg, he, hx⟩ := bgd hx
      refine Ev.blk (is := [.lconst 1, .iload_n 1, .lshl, .lor, .putfield 2104]) (pc2 := 143) (L2 := [(2, v0), (0, v1), (9, 0), (2, v3), (0, v4), (9, 0)]) (S2 := []) (h2 := h18) (by decide +kernel) (by subst he; rfl) (by exact hg) ?_
      clear hg he
      cases hx
      exact Ev.ret (i := .return_) (len := 1) (by decide +kernel) rfl (finOf (t := none) rfl (trivial))
theorem x_Ledger_settle {sc : AS} {d : Nat} (hd : 3 ≤ d) {v0 : Int} {v1 : Int} {v2 : Int} {h : AH} {r : AH} (hx : Ledger_settle v0 v1 v2 h = some r) : Runs sc d 59 [(2, v0), (0, v1), (0, v2)] h none r := by
  obtain ⟨d, rfl⟩ : ∃ e, d = e + 1 := ⟨d - 1, by omega⟩
  have hd : 2 ≤ d := by omega
  unfold Ledger_settle at hx
  refine ⟨⟨aM_59, rfl, Nat.le_of_ble_eq_true rfl⟩, ?_⟩
  show Ev sc d 59 0 [(2, v0), (0, v1), (0, v2), (9, 0), (9, 0), (9, 0)] [] h none r
  obtain ⟨u1, hg, he, hx⟩ := bgd hx
  refine Ev.blk (is := [.aload_n 0, .getfield 2200]) (pc2 := 4) (L2 := [(2, v0), (0, v1), (0, v2), (9, 0), (9, 0), (9, 0)]) (S2 := [(2, u1)]) (h2 := h) (by decide +kernel) (by subst he; rfl) (by exact hg) ?_
  clear hg he
  obtain ⟨u2, hg, he, hx⟩ := bgd hx
  refine Ev.blk (is := [.iload_n 1, .aaload]) (pc2 := 6) (L2 := [(2, v0), (0, v1), (0, v2), (9, 0), (9, 0), (9, 0)]) (S2 := [(2, u2)]) (h2 := h) (by decide +kernel) (by subst he; rfl) (by exact hg) ?_
  clear hg he
  obtain ⟨u3, hg, he, hx⟩ := bgd hx
  refine Ev.blk (is := [.astore_n 3, .aload_n 0, .getfield 2201]) (pc2 := 11) (L2 := [(2, v0), (0, v1), (0, v2), (2, u2), (9, 0), (9, 0)]) (S2 := [(2, u3)]) (h2 := h) (by decide +kernel) (by subst he; rfl) (by exact hg) ?_
  clear hg he
  obtain ⟨h4, hg, he, hx⟩ := bgd hx
  refine Ev.blk (is := [.iload_n 1, .iload_n 2, .iastore]) (pc2 := 14) (L2 := [(2, v0), (0, v1), (0, v2), (2, u2), (9, 0), (9, 0)]) (S2 := []) (h2 := h4) (by decide +kernel) (by subst he; rfl) (by exact hg) ?_
  clear hg he
  obtain ⟨u5, hg, he, hx⟩ := bgd hx
  refine Ev.blk (is := [.aload_n 0, .getfield 2202]) (pc2 := 18) (L2 := [(2, v0), (0, v1), (0, v2), (2, u2), (9, 0), (9, 0)]) (S2 := [(2, u5)]) (h2 := h4) (by decide +kernel) (by subst he; rfl) (by exact hg) ?_
  clear hg he
  obtain ⟨h6, hg, he, hx⟩ := bgd hx
  refine Ev.blk (is := [.iload_n 1, .lconst 1, .iload_n 1, .lshl, .lastore]) (pc2 := 23) (L2 := [(2, v0), (0, v1), (0, v2), (2, u2), (9, 0), (9, 0)]) (S2 := []) (h2 := h6) (by decide +kernel) (by subst he; rfl) (by exact hg) ?_
  clear hg he
  obtain ⟨u7, hg, he, hx⟩ := bgd hx
  refine Ev.blk (is := [.aload_n 0, .getfield 2203]) (pc2 := 27) (L2 := [(2, v0), (0, v1), (0, v2), (2, u2), (9, 0), (9, 0)]) (S2 := [(2, u7)]) (h2 := h6) (by decide +kernel) (by subst he; rfl) (by exact hg) ?_
  clear hg he
  obtain ⟨h8, hg, he, hx⟩ := bgd hx
  refine Ev.blk (is := [.iload_n 1, .iconst 0, .iastore]) (pc2 := 30) (L2 := [(2, v0), (0, v1), (0, v2), (2, u2), (9, 0), (9, 0)]) (S2 := []) (h2 := h8) (by decide +kernel) (by subst he; rfl) (by exact hg) ?_
  clear hg he
  obtain ⟨u9, hg, he, hx⟩ := bgd hx
  refine Ev.blk (is := [.aload_n 0, .dup, .getfield 2104]) (pc2 := 35) (L2 := [(2, v0), (0, v1), (0, v2), (2, u2), (9, 0), (9, 0)]) (S2 := [(1, u9), (2, v0)]) (h2 := h8) (by decide +kernel) (by subst he; rfl) (by exact hg) ?_
  clear hg he
  obtain ⟨h10, hg, he, hx⟩ := bgd hx
  refine Ev.blk (is := [.lconst 1, .iload_n 1, .lshl, .jsr_w (-1), .lxor, .land, .putfield 2104]) (pc2 := 46) (L2 := [(2, v0), (0, v1), (0, v2), (2, u2), (9, 0), (9, 0)]) (S2 := []) (h2 := h10) (by decide +kernel) (by subst he; rfl) (by exact hg) ?_
  clear hg he
  refine Ev.blk (is := [.iload_n 2]) (pc2 := 47) (L2 := [(2, v0), (0, v1), (0, v2), (2, u2), (9, 0), (9, 0)]) (S2 := [(0, v2)]) (h2 := h10) (by decide +kernel) rfl trivial ?_
  obtain ⟨ha, hb⟩ := bite hx
  clear hx
  refine Ev.br (i := .ifCond .eq 4) (len := 3) (a := 51) (b := 50) (by decide +kernel) rfl Iff.rfl (fun hc => ?_) (fun hc => ?_)
  · have hx := ha hc
    clear ha hb hc
    refine Ev.blk (is := [.iconst 0, .istore 4]) (pc2 := 54) (L2 := [(2, v0), (0, v1), (0, v2), (2, u2), (0, 0), (9, 0)]) (S2 := []) (h2 := h10) (by decide +kernel) rfl trivial ?_
    refine Ev.wk (L2 := [(2, v0), (0, v1), (9, 0), (2, u2), (0, 0), (9, 0)]) (wkL_of ⟨Or.inl rfl, ⟨Or.inl rfl, ⟨Or.inr rfl, ⟨Or.inl rfl, ⟨Or.inl rfl, ⟨Or.inl rfl, trivial⟩⟩⟩⟩⟩⟩) ?_
    exact y_Ledger_settle_54 hd FU v0 v1 u2 0 h10 _ hx
  · have hx := hb hc
    clear ha hb hc
    cases hx
    exact Ev.ret (i := .return_) (len := 1) (by decide +kernel) rfl (finOf (t := none) rfl (trivial))
theorem x_Ledger_appendRight {sc : AS} {d : Nat} (hd : 4 ≤ d) {v0 : Int} {v1 : Int} {h : AH} {r : (Int × AH)} (hx : Ledger_appendRight v0 v1 h = some r) : Runs sc d 55 [(2, v0), (2, v1)] h (some (0, r.1)) r.2 := by
  obtain ⟨d, rfl⟩ : ∃ e, d = e + 1 := ⟨d - 1, by omega⟩
  have hd : 3 ≤ d := by omega
  unfold Ledger_appendRight at hx
  refine ⟨⟨aM_55, rfl, Nat.le_of_ble_eq_true rfl⟩, ?_⟩
  show Ev sc d 55 0 [(2, v0), (2, v1), (9, 0)] [] h (some (0, r.1)) r.2
  refine Ev.blk (is := [.aload_n 0, .aload_n 1]) (pc2 := 2) (L2 := [(2, v0), (2, v1), (9, 0)]) (S2 := [(2, v1), (2, v0)]) (h2 := h) (by decide +kernel) rfl trivial ?_
  obtain ⟨_, hg, -, hx⟩ := bgd hx
  obtain ⟨u1, hc, hx⟩ := bca hx
  refine Ev.call (args := [(2, v0), (2, v1)]) (S2 := []) (r1 := (some (0, u1.1))) (h1 := u1.2) (i := .invokevirtual 56) (by decide +kernel) rfl rfl (Nat.le_of_ble_eq_true rfl) (Or.inr (Or.inl ⟨rfl, hg, by decide +kernel⟩)) (x_Ledger_append (by omega) hc) ?_
  refine Ev.blk (is := [.istore_n 2, .iload_n 2]) (pc2 := 7) (L2 := [(2, v0), (2, v1), (0, u1.1)]) (S2 := [(0, u1.1)]) (h2 := u1.2) (by decide +kernel) rfl trivial ?_
  obtain ⟨ha, hb⟩ := bite hx
  clear hx
  refine Ev.br (i := .ifCond .lt 9) (len := 3) (a := 16) (b := 10) (by decide +kernel) rfl Iff.rfl (fun hc => ?_) (fun hc => ?_)
  · have hx := ha hc
    clear ha hb hc
    refine Ev.blk (is := [.iload_n 2]) (pc2 := 17) (L2 := [(2, v0), (2, v1), (0, u1.1)]) (S2 := [(0, u1.1)]) (h2 := u1.2) (by decide +kernel) rfl trivial ?_
    cases hx
    exact Ev.ret (i := .ireturn) (len := 1) (by decide +kernel) rfl (finOf (t := some .int) rfl (trivial))
  · have hx := hb hc
    clear ha hb hc
    refine Ev.blk (is := [.aload_n 0, .iload_n 2, .iconst 0]) (pc2 := 13) (L2 := [(2, v0), (2, v1), (0, u1.1)]) (S2 := [(0, 0), (0, u1.1), (2, v0)]) (h2 := u1.2) (by decide +kernel) rfl trivial ?_
    obtain ⟨_, hg, -, hx⟩ := bgd hx
    obtain ⟨h3, hc, hx⟩ := bca hx
    refine Ev.call (args := [(2, v0), (0, u1.1), (0, 0)]) (S2 := []) (r1 := none) (h1 := h3) (i := .invokevirtual 59) (by decide +kernel) rfl rfl (Nat.le_of_ble_eq_true rfl) (Or.inr (Or.inl ⟨rfl, hg, by decide +kernel⟩)) (x_Ledger_settle (by omega) hc) ?_
    refine Ev.blk (is := [.iload_n 2]) (pc2 := 17) (L2 := [(2, v0), (2, v1), (0, u1.1)]) (S2 := [(0, u1.1)]) (h2 := h3) (by decide +kernel) rfl trivial ?_
    cases hx
    exact Ev.ret (i := .ireturn) (len := 1) (by decide +kernel) rfl (finOf (t := some .int) rfl (trivial))
theorem y_Finder_bringAt_86 {sc : AS} {d : Nat} (hd : 5 ≤ d) {slf : Int → Int → Int → Int → AH → Option (Int × AH)} (hslf : ∀ (v0 : Int) (v1 : Int) (v2 : Int) (v3 : Int) (h : AH) (r : (Int × AH)), slf v0 v1 v2 v3 h = some r → Runs sc d 16 [(2, v0), (0, v1), (0, v2), (0, v3)] h (some (0, r.1)) r.2) {k40 : Int → Int → Int → Int → AH → Option (Int × AH)} (hk40 : ∀ (v0 : Int) (v3 : Int) (v4 : Int) (v5 : Int) (h : AH) (r : (Int × AH)), k40 v0 v3 v4 v5 h = some r → Ev sc d 16 40 [(2, v0), (9, 0), (9, 0), (0, v3), (2, v4), (0, v5), (9, 0), (9, 0)] [] h (some (0, r.1)) r.2) : ∀ (v0 : Int) (v3 : Int) (v4 : Int) (v5 : Int) (s0 : Int) (s1 : Int) (s2 : Int) (h : AH) (r : (Int × AH)), Finder_bringAt_86 slf k40 v0 v3 v4 v5 s0 s1 s2 h = some r → Ev sc d 16 86 [(2, v0), (9, 0), (9, 0), (0, v3), (2, v4), (0, v5), (9, 0), (9, 0)] [(0, s0), (0, s1), (2, s2)] h (some (0, r.1)) r.2 := by
  intro v0 v3 v4 v5 s0 s1 s2 h r hx
  unfold Finder_bringAt_86 at hx
  refine Ev.blk (is := [.iload_n 3, .iconst 1, .iadd]) (pc2 := 89) (L2 := [(2, v0), (9, 0), (9, 0), (0, v3), (2, v4), (0, v5), (9, 0), (9, 0)]) (S2 := [(0, w32 (v3 + 1)), (0, s0), (0, s1), (2, s2)]) (h2 := h) (by decide +kernel) rfl trivial ?_
  obtain ⟨_, hg, -, hx⟩ := bgd hx
  obtain ⟨u1, hc, hx⟩ := bca hx
  refine Ev.call (args := [(2, s2), (0, s1), (0, s0), (0, w32 (v3 + 1))]) (S2 := []) (r1 := (some (0, u1.1))) (h1 := u1.2) (i := .invokevirtual 16) (by decide +kernel) rfl rfl (Nat.le_of_ble_eq_true rfl) (Or.inr (Or.inl ⟨rfl, hg, by decide +kernel⟩)) (hslf s2 s1 s0 (w32 (v3 + 1)) h _ hc) ?_
  refine Ev.blk (is := [.istore 7, .iload 7]) (pc2 := 96) (L2 := [(2, v0), (9, 0), (9, 0), (0, v3), (2, v4), (0, v5), (9, 0), (0, u1.1)]) (S2 := [(0, u1.1)]) (h2 := u1.2) (by decide +kernel) rfl trivial ?_
  obtain ⟨ha, hb⟩ := bite hx
  clear hx
  refine Ev.br (i := .ifCond .ge 6) (len := 3) (a := 99) (b := 102) (by decide +kernel) rfl Iff.rfl (fun hc => ?_) (fun hc => ?_)
  · have hx := ha hc
    clear ha hb hc
    refine Ev.blk (is := [.iload 7]) (pc2 := 101) (L2 := [(2, v0), (9, 0), (9, 0), (0, v3), (2, v4), (0, v5), (9, 0), (0, u1.1)]) (S2 := [(0, u1.1)]) (h2 := u1.2) (by decide +kernel) rfl trivial ?_
    cases hx
    exact Ev.ret (i := .ireturn) (len := 1) (by decide +kernel) rfl (finOf (t := some .int) rfl (trivial))
  · have hx := hb hc
    clear ha hb hc
    refine Ev.blk (is := [.iinc 5 1]) (pc2 := 105) (L2 := [(2, v0), (9, 0), (9, 0), (0, v3), (2, v4), (0, w32 (v5 + 1)), (9, 0), (0, u1.1)]) (S2 := []) (h2 := u1.2) (by decide +kernel) rfl trivial ?_
    refine Ev.jp (i := .goto (-65)) (len := 3) (pc2 := 40) (by decide +kernel) rfl ?_
    refine Ev.wk (L2 := [(2, v0), (9, 0), (9, 0), (0, v3), (2, v4), (0, w32 (v5 + 1)), (9, 0), (9, 0)]) (wkL_of ⟨Or.inl rfl, ⟨Or.inl rfl, ⟨Or.inl rfl, ⟨Or.inl rfl, ⟨Or.inl rfl, ⟨Or.inl rfl, ⟨Or.inl rfl, ⟨Or.inr rfl, trivial⟩⟩⟩⟩⟩⟩⟩⟩) ?_
    exact hk40 v0 v3 v4 (w32 (v5 + 1)) u1.2 _ hx
theorem y_Finder_bringAt_40 {sc : AS} {d : Nat} (hd : 5 ≤ d) {slf : Int → Int → Int → Int → AH → Option (Int × AH)} (hslf : ∀ (v0 : Int) (v1 : Int) (v2 : Int) (v3 : Int) (h : AH) (r : (Int × AH)), slf v0 v1 v2 v3 h = some r → Runs sc d 16 [(2, v0), (0, v1), (0, v2), (0, v3)] h (some (0, r.1)) r.2) : ∀ (fu : Nat) (v0 : Int) (v3 : Int) (v4 : Int) (v5 : Int) (h : AH) (r : (Int × AH)), Finder_bringAt_40 slf fu v0 v3 v4 v5 h = some r → Ev sc d 16 40 [(2, v0), (9, 0), (9, 0), (0, v3), (2, v4), (0, v5), (9, 0), (9, 0)] [] h (some (0, r.1)) r.2 := by
  intro fu
  induction fu with
  | zero => intro v0 v3 v4 v5 h r hx; unfold Finder_bringAt_40 at hx; cases hx
  | succ fu ih =>
    intro v0 v3 v4 v5 h r hx
    unfold Finder_bringAt_40 at hx
    refine Ev.blk (is := [.iload 5, .aload 4]) (pc2 := 44) (L2 := [(2, v0), (9, 0), (9, 0), (0, v3), (2, v4), (0, v5), (9, 0), (9, 0)]) (S2 := [(2, v4), (0, v5)]) (h2 := h) (by decide +kernel) rfl trivial ?_
    obtain ⟨_, hg, -, hx⟩ := bgd hx
    obtain ⟨u1, hc, hx⟩ := bca hx
    refine Ev.call (args := [(2, v4)]) (S2 := [(0, v5)]) (r1 := (some (0, u1))) (h1 := h) (i := .invokevirtual 51) (by decide +kernel) rfl rfl (Nat.le_of_ble_eq_true rfl) (Or.inr (Or.inl ⟨rfl, hg, by decide +kernel⟩)) (x_Line_rowCount (by omega) hc) ?_
    obtain ⟨ha, hb⟩ := bite hx
    clear hx
    refine Ev.br (i := .if_icmp .ge 61) (len := 3) (a := 50) (b := 108) (by decide +kernel) rfl Iff.rfl (fun hc => ?_) (fun hc => ?_)
    · have hx := ha hc
      clear ha hb hc
      refine Ev.blk (is := [.aload 4, .iload 5]) (pc2 := 54) (L2 := [(2, v0), (9, 0), (9, 0), (0, v3), (2, v4), (0, v5), (9, 0), (9, 0)]) (S2 := [(0, v5), (2, v4)]) (h2 := h) (by decide +kernel) rfl trivial ?_
      obtain ⟨_, hg, -, hx⟩ := bgd hx
      obtain ⟨u2, hc, hx⟩ := bca hx
      refine Ev.call (args := [(2, v4), (0, v5)]) (S2 := []) (r1 := (some (0, u2))) (h1 := h) (i := .invokevirtual 52) (by decide +kernel) rfl rfl (Nat.le_of_ble_eq_true rfl) (Or.inr (Or.inl ⟨rfl, hg, by decide +kernel⟩)) (x_Line_divisor (by omega) hc) ?_
      obtain ⟨u3, hg, he, hx⟩ := bgd hx
      refine Ev.blk (is := [.istore 6, .aload_n 0, .getfield 1200]) (pc2 := 63) (L2 := [(2, v0), (9, 0), (9, 0), (0, v3), (2, v4), (0, v5), (0, u2), (9, 0)]) (S2 := [(2, u3)]) (h2 := h) (by decide +kernel) (by subst he; rfl) (by exact hg) ?_
      clear hg he
      refine Ev.blk (is := [.iload 6]) (pc2 := 65) (L2 := [(2, v0), (9, 0), (9, 0), (0, v3), (2, v4), (0, v5), (0, u2), (9, 0)]) (S2 := [(0, u2), (2, u3)]) (h2 := h) (by decide +kernel) rfl trivial ?_
      obtain ⟨_, hg, -, hx⟩ := bgd hx
      obtain ⟨u4, hc, hx⟩ := bca hx
      refine Ev.call (args := [(2, u3), (0, u2)]) (S2 := []) (r1 := (some (0, u4))) (h1 := h) (i := .invokevirtual 53) (by decide +kernel) rfl rfl (Nat.le_of_ble_eq_true rfl) (Or.inr (Or.inl ⟨rfl, hg, by decide +kernel⟩)) (x_Ledger_leastFor (by omega) hc) ?_
      obtain ⟨ha, hb⟩ := bite hx
      clear hx
      refine Ev.br (i := .ifCond .ge 34) (len := 3) (a := 71) (b := 102) (by decide +kernel) rfl Iff.rfl (fun hc => ?_) (fun hc => ?_)
      · have hx := ha hc
        clear ha hb hc
        refine Ev.blk (is := [.aload_n 0, .iload 6, .iload 6, .sipush 100]) (pc2 := 78) (L2 := [(2, v0), (9, 0), (9, 0), (0, v3), (2, v4), (0, v5), (0, u2), (9, 0)]) (S2 := [(0, 100), (0, u2), (0, u2), (2, v0)]) (h2 := h) (by decide +kernel) rfl trivial ?_
        obtain ⟨ha, hb⟩ := bite hx
        clear hx
        refine Ev.br (i := .if_icmp .ge 7) (len := 3) (a := 81) (b := 85) (by decide +kernel) rfl Iff.rfl (fun hc => ?_) (fun hc => ?_)
        · have hx := ha hc
          clear ha hb hc
          refine Ev.blk (is := [.iconst 0]) (pc2 := 82) (L2 := [(2, v0), (9, 0), (9, 0), (0, v3), (2, v4), (0, v5), (0, u2), (9, 0)]) (S2 := [(0, 0), (0, u2), (2, v0)]) (h2 := h) (by decide +kernel) rfl trivial ?_
          refine Ev.jp (i := .goto 4) (len := 3) (pc2 := 86) (by decide +kernel) rfl ?_
          refine Ev.wk (L2 := [(2, v0), (9, 0), (9, 0), (0, v3), (2, v4), (0, v5), (9, 0), (9, 0)]) (wkL_of ⟨Or.inl rfl, ⟨Or.inl rfl, ⟨Or.inl rfl, ⟨Or.inl rfl, ⟨Or.inl rfl, ⟨Or.inl rfl, ⟨Or.inr rfl, ⟨Or.inl rfl, trivial⟩⟩⟩⟩⟩⟩⟩⟩) ?_
          exact y_Finder_bringAt_86 hd hslf ih v0 v3 v4 v5 0 u2 v0 h _ hx
        · have hx := hb hc
          clear ha hb hc
          refine Ev.blk (is := [.iconst 1]) (pc2 := 86) (L2 := [(2, v0), (9, 0), (9, 0), (0, v3), (2, v4), (0, v5), (0, u2), (9, 0)]) (S2 := [(0, 1), (0, u2), (2, v0)]) (h2 := h) (by decide +kernel) rfl trivial ?_
          refine Ev.wk (L2 := [(2, v0), (9, 0), (9, 0), (0, v3), (2, v4), (0, v5), (9, 0), (9, 0)]) (wkL_of ⟨Or.inl rfl, ⟨Or.inl rfl, ⟨Or.inl rfl, ⟨Or.inl rfl, ⟨Or.inl rfl, ⟨Or.inl rfl, ⟨Or.inr rfl, ⟨Or.inl rfl, trivial⟩⟩⟩⟩⟩⟩⟩⟩) ?_
          exact y_Finder_bringAt_86 hd hslf ih v0 v3 v4 v5 1 u2 v0 h _ hx
      · have hx := hb hc
        clear ha hb hc
        refine Ev.blk (is := [.iinc 5 1]) (pc2 := 105) (L2 := [(2, v0), (9, 0), (9, 0), (0, v3), (2, v4), (0, w32 (v5 + 1)), (0, u2), (9, 0)]) (S2 := []) (h2 := h) (by decide +kernel) rfl trivial ?_
        refine Ev.jp (i := .goto (-65)) (len := 3) (pc2 := 40) (by decide +kernel) rfl ?_
        refine Ev.wk (L2 := [(2, v0), (9, 0), (9, 0), (0, v3), (2, v4), (0, w32 (v5 + 1)), (9, 0), (9, 0)]) (wkL_of ⟨Or.inl rfl, ⟨Or.inl rfl, ⟨Or.inl rfl, ⟨Or.inl rfl, ⟨Or.inl rfl, ⟨Or.inl rfl, ⟨Or.inr rfl, ⟨Or.inl rfl, trivial⟩⟩⟩⟩⟩⟩⟩⟩) ?_
        exact ih v0 v3 v4 (w32 (v5 + 1)) h _ hx
    · have hx := hb hc
      clear ha hb hc
      obtain ⟨u5, hg, he, hx⟩ := bgd hx
      refine Ev.blk (is := [.aload_n 0, .getfield 1200]) (pc2 := 112) (L2 := [(2, v0), (9, 0), (9, 0), (0, v3), (2, v4), (0, v5), (9, 0), (9, 0)]) (S2 := [(2, u5)]) (h2 := h) (by decide +kernel) (by subst he; rfl) (by exact hg) ?_
      clear hg he
      refine Ev.blk (is := [.aload 4]) (pc2 := 114) (L2 := [(2, v0), (9, 0), (9, 0), (0, v3), (2, v4), (0, v5), (9, 0), (9, 0)]) (S2 := [(2, v4), (2, u5)]) (h2 := h) (by decide +kernel) rfl trivial ?_
      obtain ⟨_, hg, -, hx⟩ := bgd hx
      obtain ⟨u6, hc, hx⟩ := bca hx
      refine Ev.call (args := [(2, u5), (2, v4)]) (S2 := []) (r1 := (some (0, u6.1))) (h1 := u6.2) (i := .invokevirtual 55) (by decide +kernel) rfl rfl (Nat.le_of_ble_eq_true rfl) (Or.inr (Or.inl ⟨rfl, hg, by decide +kernel⟩)) (x_Ledger_appendRight (by omega) hc) ?_
      cases hx
      exact Ev.ret (i := .ireturn) (len := 1) (by decide +kernel) rfl (finOf (t := some .int) rfl (trivial))
theorem y_Finder_bringAt_0 {sc : AS} {d : Nat} (hd : 5 ≤ d) {slf : Int → Int → Int → Int → AH → Option (Int × AH)} (hslf : ∀ (v0 : Int) (v1 : Int) (v2 : Int) (v3 : Int) (h : AH) (r : (Int × AH)), slf v0 v1 v2 v3 h = some r → Runs sc d 16 [(2, v0), (0, v1), (0, v2), (0, v3)] h (some (0, r.1)) r.2) : ∀ (v0 : Int) (v1 : Int) (v2 : Int) (v3 : Int) (h : AH) (r : (Int × AH)), Finder_bringAt_B slf v0 v1 v2 v3 h = some r → Ev sc d 16 0 [(2, v0), (0, v1), (0, v2), (0, v3), (9, 0), (9, 0), (9, 0), (9, 0)] [] h (some (0, r.1)) r.2 := by
  intro v0 v1 v2 v3 h r hx
  unfold Finder_bringAt_B at hx
  refine Ev.blk (is := [.aload_n 0, .iload_n 3]) (pc2 := 2) (L2 := [(2, v0), (0, v1), (0, v2), (0, v3), (9, 0), (9, 0), (9, 0), (9, 0)]) (S2 := [(0, v3), (2, v0)]) (h2 := h) (by decide +kernel) rfl trivial ?_
  obtain ⟨_, hg, -, hx⟩ := bgd hx
  obtain ⟨u1, hc, hx⟩ := bca hx
  refine Ev.call (args := [(2, v0), (0, v3)]) (S2 := []) (r1 := (some (2, u1.1))) (h1 := u1.2) (i := .invokevirtual 17) (by decide +kernel) rfl rfl (Nat.le_of_ble_eq_true rfl) (Or.inr (Or.inl ⟨rfl, hg, by decide +kernel⟩)) (x_Finder_draftAt (by omega) hc) ?_
  refine Ev.blk (is := [.astore 4, .aload 4]) (pc2 := 9) (L2 := [(2, v0), (0, v1), (0, v2), (0, v3), (2, u1.1), (9, 0), (9, 0), (9, 0)]) (S2 := [(2, u1.1)]) (h2 := u1.2) (by decide +kernel) rfl trivial ?_
  obtain ⟨ha, hb⟩ := bite hx
  clear hx
  refine Ev.br (i := .ifnonnull 6) (len := 3) (a := 12) (b := 15) (by decide +kernel) rfl Iff.rfl (fun hc => ?_) (fun hc => ?_)
  · have hx := ha hc
    clear ha hb hc
    refine Ev.blk (is := [.sipush (-3)]) (pc2 := 14) (L2 := [(2, v0), (0, v1), (0, v2), (0, v3), (2, u1.1), (9, 0), (9, 0), (9, 0)]) (S2 := [(0, (-3))]) (h2 := u1.2) (by decide +kernel) rfl trivial ?_
    cases hx
    exact Ev.ret (i := .ireturn) (len := 1) (by decide +kernel) rfl (finOf (t := some .int) rfl (trivial))
  · have hx := hb hc
    clear ha hb hc
    refine Ev.blk (is := [.aload_n 0, .aload 4, .iload_n 1, .iload_n 2]) (pc2 := 20) (L2 := [(2, v0), (0, v1), (0, v2), (0, v3), (2, u1.1), (9, 0), (9, 0), (9, 0)]) (S2 := [(0, v2), (0, v1), (2, u1.1), (2, v0)]) (h2 := u1.2) (by decide +kernel) rfl trivial ?_
    obtain ⟨_, hg, -, hx⟩ := bgd hx
    obtain ⟨u2, hc, hx⟩ := bca hx
    refine Ev.call (args := [(2, v0), (2, u1.1), (0, v1), (0, v2)]) (S2 := []) (r1 := (some (0, u2.1))) (h1 := u2.2) (i := .invokevirtual 18) (by decide +kernel) rfl rfl (Nat.le_of_ble_eq_true rfl) (Or.inr (Or.inl ⟨rfl, hg, by decide +kernel⟩)) (x_Finder_lay (by omega) hc) ?_
    obtain ⟨ha, hb⟩ := bite hx
    clear hx
    refine Ev.br (i := .ifCond .eq 11) (len := 3) (a := 34) (b := 26) (by decide +kernel) rfl Iff.rfl (fun hc => ?_) (fun hc => ?_)
    · have hx := ha hc
      clear ha hb hc
      refine Ev.blk (is := [.sipush (-2)]) (pc2 := 36) (L2 := [(2, v0), (0, v1), (0, v2), (0, v3), (2, u1.1), (9, 0), (9, 0), (9, 0)]) (S2 := [(0, (-2))]) (h2 := u2.2) (by decide +kernel) rfl trivial ?_
      cases hx
      exact Ev.ret (i := .ireturn) (len := 1) (by decide +kernel) rfl (finOf (t := some .int) rfl (trivial))
    · have hx := hb hc
      clear ha hb hc
      refine Ev.blk (is := [.aload 4]) (pc2 := 28) (L2 := [(2, v0), (0, v1), (0, v2), (0, v3), (2, u1.1), (9, 0), (9, 0), (9, 0)]) (S2 := [(2, u1.1)]) (h2 := u2.2) (by decide +kernel) rfl trivial ?_
      obtain ⟨u3, hc, hx⟩ := bca hx
      refine Ev.call (args := [(2, u1.1)]) (S2 := []) (r1 := (some (0, u3.1))) (h1 := u3.2) (i := .invokestatic 38) (by decide +kernel) rfl rfl (Nat.le_of_ble_eq_true rfl) (Or.inl rfl) (x_Finder_seek (by omega) hc) ?_
      obtain ⟨ha, hb⟩ := bite hx
      clear hx
      refine Ev.br (i := .ifCond .ne 6) (len := 3) (a := 34) (b := 37) (by decide +kernel) rfl Iff.rfl (fun hc => ?_) (fun hc => ?_)
      · have hx := ha hc
        clear ha hb hc
        refine Ev.blk (is := [.sipush (-2)]) (pc2 := 36) (L2 := [(2, v0), (0, v1), (0, v2), (0, v3), (2, u1.1), (9, 0), (9, 0), (9, 0)]) (S2 := [(0, (-2))]) (h2 := u3.2) (by decide +kernel) rfl trivial ?_
        cases hx
        exact Ev.ret (i := .ireturn) (len := 1) (by decide +kernel) rfl (finOf (t := some .int) rfl (trivial))
      · have hx := hb hc
        clear ha hb hc
        refine Ev.blk (is := [.iconst 0, .istore 5]) (pc2 := 40) (L2 := [(2, v0), (0, v1), (0, v2), (0, v3), (2, u1.1), (0, 0), (9, 0), (9, 0)]) (S2 := []) (h2 := u3.2) (by decide +kernel) rfl trivial ?_
        refine Ev.wk (L2 := [(2, v0), (9, 0), (9, 0), (0, v3), (2, u1.1), (0, 0), (9, 0), (9, 0)]) (wkL_of ⟨Or.inl rfl, ⟨Or.inr rfl, ⟨Or.inr rfl, ⟨Or.inl rfl, ⟨Or.inl rfl, ⟨Or.inl rfl, ⟨Or.inl rfl, ⟨Or.inl rfl, trivial⟩⟩⟩⟩⟩⟩⟩⟩) ?_
        exact y_Finder_bringAt_40 hd hslf FU v0 v3 u1.1 0 u3.2 _ hx
theorem x_Finder_bringAt {sc : AS} : ∀ (fu d : Nat), 6 + fu ≤ d → ∀ (v0 : Int) (v1 : Int) (v2 : Int) (v3 : Int) (h : AH) (r : (Int × AH)), Finder_bringAt fu v0 v1 v2 v3 h = some r → Runs sc d 16 [(2, v0), (0, v1), (0, v2), (0, v3)] h (some (0, r.1)) r.2 := by
  intro fu
  induction fu with
  | zero => intro d hd v0 v1 v2 v3 h r hx; unfold Finder_bringAt at hx; cases hx
  | succ fu ih =>
    intro d hd v0 v1 v2 v3 h r hx
    unfold Finder_bringAt at hx
    obtain ⟨d, rfl⟩ : ∃ e, d = e + 1 := ⟨d - 1, by omega⟩
    exact ⟨⟨aM_16, rfl, Nat.le_of_ble_eq_true rfl⟩, y_Finder_bringAt_0 (by omega) (ih d (by omega)) v0 v1 v2 v3 h r hx⟩
