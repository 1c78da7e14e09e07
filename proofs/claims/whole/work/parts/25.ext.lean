/-! the methods run as their shallow functions say -/
theorem x_X_deep {sc : AS} {d : Nat} (hd : 3 ≤ d) {v0 : Int} {v1 : Int} {h : AH} {r : Int} (hx : X_deep v0 v1 h = some r) : Runs sc d 116 [(2, v0), (0, v1)] h (some (0, r)) h := by
  obtain ⟨d, rfl⟩ : ∃ e, d = e + 1 := ⟨d - 1, by omega⟩
  have hd : 2 ≤ d := by omega
  unfold X_deep at hx
  refine ⟨⟨aM_116, rfl, Nat.le_of_ble_eq_true rfl⟩, ?_⟩
  show Ev sc d 116 0 [(2, v0), (0, v1)] [] h (some (0, r)) h
  obtain ⟨u1, hg, he, hx⟩ := bgd hx
  refine Ev.blk (is := [.aload_n 0, .getfield 8200]) (pc2 := 4) (L2 := [(2, v0), (0, v1)]) (S2 := [(2, u1)]) (h2 := h) (by decide +kernel) (by subst he; rfl) (by exact hg) ?_
  clear hg he
  refine Ev.blk (is := [.iload_n 1]) (pc2 := 5) (L2 := [(2, v0), (0, v1)]) (S2 := [(0, v1), (2, u1)]) (h2 := h) (by decide +kernel) rfl trivial ?_
  obtain ⟨_, hg, -, hx⟩ := bgd hx
  obtain ⟨u2, hc, hx⟩ := bca hx
  refine Ev.call (args := [(2, u1), (0, v1)]) (S2 := []) (r1 := (some (0, u2))) (h1 := h) (i := .invokevirtual 13) (by decide +kernel) rfl rfl (Nat.le_of_ble_eq_true rfl) (Or.inr (Or.inl ⟨rfl, hg, by decide +kernel⟩)) (x_Ledger_has (by omega) hc) ?_
  obtain ⟨ha, hb⟩ := bite hx
  clear hx
  refine Ev.br (i := .ifCond .ne 5) (len := 3) (a := 11) (b := 13) (by decide +kernel) rfl Iff.rfl (fun hc => ?_) (fun hc => ?_)
  · have hx := ha hc
    clear ha hb hc
    refine Ev.blk (is := [.iconst (-1)]) (pc2 := 12) (L2 := [(2, v0), (0, v1)]) (S2 := [(0, (-1))]) (h2 := h) (by decide +kernel) rfl trivial ?_
    cases hx
    exact Ev.ret (i := .ireturn) (len := 1) (by decide +kernel) rfl (finOf (t := some .int) rfl (trivial))
  · have hx := hb hc
    clear ha hb hc
    obtain ⟨u3, hg, he, hx⟩ := bgd hx
    refine Ev.blk (is := [.aload_n 0, .getfield 8200]) (pc2 := 17) (L2 := [(2, v0), (0, v1)]) (S2 := [(2, u3)]) (h2 := h) (by decide +kernel) (by subst he; rfl) (by exact hg) ?_
    clear hg he
    refine Ev.blk (is := [.iload_n 1]) (pc2 := 18) (L2 := [(2, v0), (0, v1)]) (S2 := [(0, v1), (2, u3)]) (h2 := h) (by decide +kernel) rfl trivial ?_
    obtain ⟨_, hg, -, hx⟩ := bgd hx
    obtain ⟨u4, hc, hx⟩ := bca hx
    refine Ev.call (args := [(2, u3), (0, v1)]) (S2 := []) (r1 := (some (0, u4))) (h1 := h) (i := .invokevirtual 12) (by decide +kernel) rfl rfl (Nat.le_of_ble_eq_true rfl) (Or.inr (Or.inl ⟨rfl, hg, by decide +kernel⟩)) (x_Ledger_isRight (by omega) hc) ?_
    obtain ⟨ha, hb⟩ := bite hx
    clear hx
    refine Ev.br (i := .ifCond .eq 15) (len := 3) (a := 36) (b := 24) (by decide +kernel) rfl Iff.rfl (fun hc => ?_) (fun hc => ?_)
    · have hx := ha hc
      clear ha hb hc
      refine Ev.blk (is := [.sipush (-2)]) (pc2 := 38) (L2 := [(2, v0), (0, v1)]) (S2 := [(0, (-2))]) (h2 := h) (by decide +kernel) rfl trivial ?_
      cases hx
      exact Ev.ret (i := .ireturn) (len := 1) (by decide +kernel) rfl (finOf (t := some .int) rfl (trivial))
    · have hx := hb hc
      clear ha hb hc
      obtain ⟨u5, hg, he, hx⟩ := bgd hx
      refine Ev.blk (is := [.aload_n 0, .getfield 8200]) (pc2 := 28) (L2 := [(2, v0), (0, v1)]) (S2 := [(2, u5)]) (h2 := h) (by decide +kernel) (by subst he; rfl) (by exact hg) ?_
      clear hg he
      obtain ⟨u6, hg, he, hx⟩ := bgd hx
      refine Ev.blk (is := [.getfield 2203]) (pc2 := 31) (L2 := [(2, v0), (0, v1)]) (S2 := [(2, u6)]) (h2 := h) (by decide +kernel) (by subst he; rfl) (by exact hg) ?_
      clear hg he
      obtain ⟨u7, hg, he, hx⟩ := bgd hx
      refine Ev.blk (is := [.iload_n 1, .iaload]) (pc2 := 33) (L2 := [(2, v0), (0, v1)]) (S2 := [(0, u7)]) (h2 := h) (by decide +kernel) (by subst he; rfl) (by exact hg) ?_
      clear hg he
      refine Ev.jp (i := .goto 5) (len := 3) (pc2 := 38) (by decide +kernel) rfl ?_
      cases hx
      exact Ev.ret (i := .ireturn) (len := 1) (by decide +kernel) rfl (finOf (t := some .int) rfl (trivial))
theorem y_Ledger_fallen_18 {sc : AS} {d : Nat} (hd : 3 ≤ d) : ∀ (fu : Nat) (v0 : Int) (v2 : Int) (v4 : Int) (h : AH) (r : Int), Ledger_fallen_18 fu v0 v2 v4 h = some r → Ev sc d 118 18 [(2, v0), (9, 0), (1, v2), (8, 0), (0, v4)] [] h (some (1, r)) h := by
  intro fu
  induction fu with
  | zero => intro v0 v2 v4 h r hx; unfold Ledger_fallen_18 at hx; cases hx
  | succ fu ih =>
    intro v0 v2 v4 h r hx
    unfold Ledger_fallen_18 at hx
    obtain ⟨u1, hg, he, hx⟩ := bgd hx
    refine Ev.blk (is := [.iload 4, .aload_n 0, .getfield 2005]) (pc2 := 24) (L2 := [(2, v0), (9, 0), (1, v2), (8, 0), (0, v4)]) (S2 := [(0, u1), (0, v4)]) (h2 := h) (by decide +kernel) (by subst he; rfl) (by exact hg) ?_
    clear hg he
    obtain ⟨ha, hb⟩ := bite hx
    clear hx
    refine Ev.br (i := .if_icmp .ge 39) (len := 3) (a := 27) (b := 63) (by decide +kernel) rfl Iff.rfl (fun hc => ?_) (fun hc => ?_)
    · have hx := ha hc
      clear ha hb hc
      refine Ev.blk (is := [.lload_n 2, .iload 4]) (pc2 := 30) (L2 := [(2, v0), (9, 0), (1, v2), (8, 0), (0, v4)]) (S2 := [(0, v4), (1, v2)]) (h2 := h) (by decide +kernel) rfl trivial ?_
      obtain ⟨u2, hc, hx⟩ := bca hx
      refine Ev.call (args := [(1, v2), (0, v4)]) (S2 := []) (r1 := (some (0, u2))) (h1 := h) (i := .invokestatic 14) (by decide +kernel) rfl rfl (Nat.le_of_ble_eq_true rfl) (Or.inl rfl) (x_Ledger_isIn (by omega) hc) ?_
      obtain ⟨ha, hb⟩ := bite hx
      clear hx
      refine Ev.br (i := .ifCond .eq 24) (len := 3) (a := 57) (b := 36) (by decide +kernel) rfl Iff.rfl (fun hc => ?_) (fun hc => ?_)
      · have hx := ha hc
        clear ha hb hc
        refine Ev.blk (is := [.iinc 4 1]) (pc2 := 60) (L2 := [(2, v0), (9, 0), (1, v2), (8, 0), (0, w32 (v4 + 1))]) (S2 := []) (h2 := h) (by decide +kernel) rfl trivial ?_
        refine Ev.jp (i := .goto (-42)) (len := 3) (pc2 := 18) (by decide +kernel) rfl ?_
        exact ih v0 v2 (w32 (v4 + 1)) h _ hx
      · have hx := hb hc
        clear ha hb hc
        refine Ev.blk (is := [.aload_n 0, .iload 4, .lload_n 2]) (pc2 := 40) (L2 := [(2, v0), (9, 0), (1, v2), (8, 0), (0, v4)]) (S2 := [(1, v2), (0, v4), (2, v0)]) (h2 := h) (by decide +kernel) rfl trivial ?_
        obtain ⟨_, hg, -, hx⟩ := bgd hx
        obtain ⟨u3, hc, hx⟩ := bca hx
        refine Ev.call (args := [(2, v0), (0, v4), (1, v2)]) (S2 := []) (r1 := (some (0, u3))) (h1 := h) (i := .invokevirtual 91) (by decide +kernel) rfl rfl (Nat.le_of_ble_eq_true rfl) (Or.inr (Or.inl ⟨rfl, hg, by decide +kernel⟩)) (x_Ledger_stands (by omega) hc) ?_
        obtain ⟨ha, hb⟩ := bite hx
        clear hx
        refine Ev.br (i := .ifCond .ne 14) (len := 3) (a := 46) (b := 57) (by decide +kernel) rfl Iff.rfl (fun hc => ?_) (fun hc => ?_)
        · have hx := ha hc
          clear ha hb hc
          refine Ev.blk (is := [.lload_n 2, .lconst 1, .iload 4, .lshl, .jsr_w (-1), .lxor, .land, .lstore_n 2, .iinc 4 1]) (pc2 := 60) (L2 := [(2, v0), (9, 0), (1, andL v2 (xorL (shlL 1 v4) (-1))), (8, 0), (0, w32 (v4 + 1))]) (S2 := []) (h2 := h) (by decide +kernel) rfl trivial ?_
          refine Ev.jp (i := .goto (-42)) (len := 3) (pc2 := 18) (by decide +kernel) rfl ?_
          exact ih v0 (andL v2 (xorL (shlL 1 v4) (-1))) (w32 (v4 + 1)) h _ hx
        · have hx := hb hc
          clear ha hb hc
          refine Ev.blk (is := [.iinc 4 1]) (pc2 := 60) (L2 := [(2, v0), (9, 0), (1, v2), (8, 0), (0, w32 (v4 + 1))]) (S2 := []) (h2 := h) (by decide +kernel) rfl trivial ?_
          refine Ev.jp (i := .goto (-42)) (len := 3) (pc2 := 18) (by decide +kernel) rfl ?_
          exact ih v0 v2 (w32 (v4 + 1)) h _ hx
    · have hx := hb hc
      clear ha hb hc
      obtain ⟨u4, hg, he, hx⟩ := bgd hx
      refine Ev.blk (is := [.aload_n 0, .getfield 2104]) (pc2 := 67) (L2 := [(2, v0), (9, 0), (1, v2), (8, 0), (0, v4)]) (S2 := [(1, u4)]) (h2 := h) (by decide +kernel) (by subst he; rfl) (by exact hg) ?_
      clear hg he
      refine Ev.blk (is := [.lload_n 2, .jsr_w (-1), .lxor, .land]) (pc2 := 73) (L2 := [(2, v0), (9, 0), (1, v2), (8, 0), (0, v4)]) (S2 := [(1, andL u4 (xorL v2 (-1)))]) (h2 := h) (by decide +kernel) rfl trivial ?_
      cases hx
      exact Ev.ret (i := .lreturn) (len := 1) (by decide +kernel) rfl (finOf (t := some .long) rfl (trivial))
theorem x_Ledger_fallen {sc : AS} {d : Nat} (hd : 4 ≤ d) {v0 : Int} {v1 : Int} {h : AH} {r : Int} (hx : Ledger_fallen v0 v1 h = some r) : Runs sc d 118 [(2, v0), (0, v1)] h (some (1, r)) h := by
  obtain ⟨d, rfl⟩ : ∃ e, d = e + 1 := ⟨d - 1, by omega⟩
  have hd : 3 ≤ d := by omega
  unfold Ledger_fallen at hx
  refine ⟨⟨aM_118, rfl, Nat.le_of_ble_eq_true rfl⟩, ?_⟩
  show Ev sc d 118 0 [(2, v0), (0, v1), (9, 0), (9, 0), (9, 0)] [] h (some (1, r)) h
  obtain ⟨u1, hg, he, hx⟩ := bgd hx
  refine Ev.blk (is := [.aload_n 0, .getfield 2104]) (pc2 := 4) (L2 := [(2, v0), (0, v1), (9, 0), (9, 0), (9, 0)]) (S2 := [(1, u1)]) (h2 := h) (by decide +kernel) (by subst he; rfl) (by exact hg) ?_
  clear hg he
  refine Ev.blk (is := [.lconst 1, .iload_n 1, .lshl, .jsr_w (-1), .lxor, .land, .lstore_n 2, .iload_n 1, .iconst 1, .iadd, .istore 4]) (pc2 := 18) (L2 := [(2, v0), (0, v1), (1, andL u1 (xorL (shlL 1 v1) (-1))), (8, 0), (0, w32 (v1 + 1))]) (S2 := []) (h2 := h) (by decide +kernel) rfl trivial ?_
  refine Ev.wk (L2 := [(2, v0), (9, 0), (1, andL u1 (xorL (shlL 1 v1) (-1))), (8, 0), (0, w32 (v1 + 1))]) (wkL_of ⟨Or.inl rfl, ⟨Or.inr rfl, ⟨Or.inl rfl, ⟨Or.inl rfl, ⟨Or.inl rfl, trivial⟩⟩⟩⟩⟩) ?_
  exact y_Ledger_fallen_18 hd FU v0 (andL u1 (xorL (shlL 1 v1) (-1))) (w32 (v1 + 1)) h _ hx
theorem x_X_falls {sc : AS} {d : Nat} (hd : 5 ≤ d) {v0 : Int} {v1 : Int} {h : AH} {r : Int} (hx : X_falls v0 v1 h = some r) : Runs sc d 117 [(2, v0), (0, v1)] h (some (1, r)) h := by
  obtain ⟨d, rfl⟩ : ∃ e, d = e + 1 := ⟨d - 1, by omega⟩
  have hd : 4 ≤ d := by omega
  unfold X_falls at hx
  refine ⟨⟨aM_117, rfl, Nat.le_of_ble_eq_true rfl⟩, ?_⟩
  show Ev sc d 117 0 [(2, v0), (0, v1)] [] h (some (1, r)) h
  obtain ⟨u1, hg, he, hx⟩ := bgd hx
  refine Ev.blk (is := [.aload_n 0, .getfield 8200]) (pc2 := 4) (L2 := [(2, v0), (0, v1)]) (S2 := [(2, u1)]) (h2 := h) (by decide +kernel) (by subst he; rfl) (by exact hg) ?_
  clear hg he
  refine Ev.blk (is := [.iload_n 1]) (pc2 := 5) (L2 := [(2, v0), (0, v1)]) (S2 := [(0, v1), (2, u1)]) (h2 := h) (by decide +kernel) rfl trivial ?_
  obtain ⟨_, hg, -, hx⟩ := bgd hx
  obtain ⟨u2, hc, hx⟩ := bca hx
  refine Ev.call (args := [(2, u1), (0, v1)]) (S2 := []) (r1 := (some (0, u2))) (h1 := h) (i := .invokevirtual 13) (by decide +kernel) rfl rfl (Nat.le_of_ble_eq_true rfl) (Or.inr (Or.inl ⟨rfl, hg, by decide +kernel⟩)) (x_Ledger_has (by omega) hc) ?_
  obtain ⟨ha, hb⟩ := bite hx
  clear hx
  refine Ev.br (i := .ifCond .ne 7) (len := 3) (a := 11) (b := 15) (by decide +kernel) rfl Iff.rfl (fun hc => ?_) (fun hc => ?_)
  · have hx := ha hc
    clear ha hb hc
    refine Ev.blk (is := [.jsr_w (-1)]) (pc2 := 14) (L2 := [(2, v0), (0, v1)]) (S2 := [(1, (-1))]) (h2 := h) (by decide +kernel) rfl trivial ?_
    cases hx
    exact Ev.ret (i := .lreturn) (len := 1) (by decide +kernel) rfl (finOf (t := some .long) rfl (trivial))
  · have hx := hb hc
    clear ha hb hc
    obtain ⟨u3, hg, he, hx⟩ := bgd hx
    refine Ev.blk (is := [.aload_n 0, .getfield 8200]) (pc2 := 19) (L2 := [(2, v0), (0, v1)]) (S2 := [(2, u3)]) (h2 := h) (by decide +kernel) (by subst he; rfl) (by exact hg) ?_
    clear hg he
    refine Ev.blk (is := [.iload_n 1]) (pc2 := 20) (L2 := [(2, v0), (0, v1)]) (S2 := [(0, v1), (2, u3)]) (h2 := h) (by decide +kernel) rfl trivial ?_
    obtain ⟨_, hg, -, hx⟩ := bgd hx
    obtain ⟨u4, hc, hx⟩ := bca hx
    refine Ev.call (args := [(2, u3), (0, v1)]) (S2 := []) (r1 := (some (0, u4))) (h1 := h) (i := .invokevirtual 12) (by decide +kernel) rfl rfl (Nat.le_of_ble_eq_true rfl) (Or.inr (Or.inl ⟨rfl, hg, by decide +kernel⟩)) (x_Ledger_isRight (by omega) hc) ?_
    obtain ⟨ha, hb⟩ := bite hx
    clear hx
    refine Ev.br (i := .ifCond .eq 14) (len := 3) (a := 37) (b := 26) (by decide +kernel) rfl Iff.rfl (fun hc => ?_) (fun hc => ?_)
    · have hx := ha hc
      clear ha hb hc
      refine Ev.blk (is := [.jsr_w (-2)]) (pc2 := 40) (L2 := [(2, v0), (0, v1)]) (S2 := [(1, (-2))]) (h2 := h) (by decide +kernel) rfl trivial ?_
      cases hx
      exact Ev.ret (i := .lreturn) (len := 1) (by decide +kernel) rfl (finOf (t := some .long) rfl (trivial))
    · have hx := hb hc
      clear ha hb hc
      obtain ⟨u5, hg, he, hx⟩ := bgd hx
      refine Ev.blk (is := [.aload_n 0, .getfield 8200]) (pc2 := 30) (L2 := [(2, v0), (0, v1)]) (S2 := [(2, u5)]) (h2 := h) (by decide +kernel) (by subst he; rfl) (by exact hg) ?_
      clear hg he
      refine Ev.blk (is := [.iload_n 1]) (pc2 := 31) (L2 := [(2, v0), (0, v1)]) (S2 := [(0, v1), (2, u5)]) (h2 := h) (by decide +kernel) rfl trivial ?_
      obtain ⟨_, hg, -, hx⟩ := bgd hx
      obtain ⟨u6, hc, hx⟩ := bca hx
      refine Ev.call (args := [(2, u5), (0, v1)]) (S2 := []) (r1 := (some (1, u6))) (h1 := h) (i := .invokevirtual 118) (by decide +kernel) rfl rfl (Nat.le_of_ble_eq_true rfl) (Or.inr (Or.inl ⟨rfl, hg, by decide +kernel⟩)) (x_Ledger_fallen (by omega) hc) ?_
      refine Ev.jp (i := .goto 6) (len := 3) (pc2 := 40) (by decide +kernel) rfl ?_
      cases hx
      exact Ev.ret (i := .lreturn) (len := 1) (by decide +kernel) rfl (finOf (t := some .long) rfl (trivial))
theorem y_Checker_powerCost_5 {sc : AS} {d : Nat} (hd : 0 ≤ d) : ∀ (fu : Nat) (v1 : Int) (v2 : Int) (h : AH) (r : Int), Checker_powerCost_5 fu v1 v2 = some r → Ev sc d 121 5 [(9, 0), (0, v1), (0, v2)] [] h (some (0, r)) h := by
  intro fu
  induction fu with
  | zero => intro v1 v2 h r hx; unfold Checker_powerCost_5 at hx; cases hx
  | succ fu ih =>
    intro v1 v2 h r hx
    unfold Checker_powerCost_5 at hx
    refine Ev.blk (is := [.iload_n 2]) (pc2 := 6) (L2 := [(9, 0), (0, v1), (0, v2)]) (S2 := [(0, v2)]) (h2 := h) (by decide +kernel) rfl trivial ?_
    obtain ⟨ha, hb⟩ := bite hx
    clear hx
    refine Ev.br (i := .ifCond .le 18) (len := 3) (a := 9) (b := 24) (by decide +kernel) rfl Iff.rfl (fun hc => ?_) (fun hc => ?_)
    · have hx := ha hc
      clear ha hb hc
      refine Ev.blk (is := [.iload_n 1, .iconst 1, .iload_n 2, .iconst 1, .iand, .iadd, .iadd, .istore_n 1, .iload_n 2, .iconst 1, .ishr, .istore_n 2]) (pc2 := 21) (L2 := [(9, 0), (0, w32 (v1 + (w32 (1 + (andI v2 1))))), (0, shrI v2 1)]) (S2 := []) (h2 := h) (by decide +kernel) rfl trivial ?_
      refine Ev.jp (i := .goto (-16)) (len := 3) (pc2 := 5) (by decide +kernel) rfl ?_
      exact ih (w32 (v1 + (w32 (1 + (andI v2 1))))) (shrI v2 1) h _ hx
    · have hx := hb hc
      clear ha hb hc
      refine Ev.blk (is := [.iload_n 1]) (pc2 := 25) (L2 := [(9, 0), (0, v1), (0, v2)]) (S2 := [(0, v1)]) (h2 := h) (by decide +kernel) rfl trivial ?_
      cases hx
      exact Ev.ret (i := .ireturn) (len := 1) (by decide +kernel) rfl (finOf (t := some .int) rfl (trivial))
theorem x_Checker_powerCost {sc : AS} {d : Nat} (hd : 1 ≤ d) {v0 : Int} {h : AH} {r : Int} (hx : Checker_powerCost v0 = some r) : Runs sc d 121 [(0, v0)] h (some (0, r)) h := by
  obtain ⟨d, rfl⟩ : ∃ e, d = e + 1 := ⟨d - 1, by omega⟩
  have hd : 0 ≤ d := by omega
  unfold Checker_powerCost at hx
  refine ⟨⟨aM_121, rfl, Nat.le_of_ble_eq_true rfl⟩, ?_⟩
  show Ev sc d 121 0 [(0, v0), (9, 0), (9, 0)] [] h (some (0, r)) h
  refine Ev.blk (is := [.sipush (-2), .istore_n 1, .iload_n 0, .istore_n 2]) (pc2 := 5) (L2 := [(0, v0), (0, (-2)), (0, v0)]) (S2 := []) (h2 := h) (by decide +kernel) rfl trivial ?_
  refine Ev.wk (L2 := [(9, 0), (0, (-2)), (0, v0)]) (wkL_of ⟨Or.inr rfl, ⟨Or.inl rfl, ⟨Or.inl rfl, trivial⟩⟩⟩) ?_
  exact y_Checker_powerCost_5 hd FU (-2) v0 h _ hx
theorem y_Checker_costOf_11 {sc : AS} {d : Nat} (hd : 1 ≤ d) : ∀ (fu : Nat) (v0 : Int) (v1 : Int) (v2 : Int) (v3 : Int) (h : AH) (r : Int), Checker_costOf_11 fu v0 v1 v2 v3 h = some r → Ev sc d 120 11 [(2, v0), (0, v1), (0, v2), (0, v3), (9, 0)] [] h (some (0, r)) h := by
  intro fu
  induction fu with
  | zero => intro v0 v1 v2 v3 h r hx; unfold Checker_costOf_11 at hx; cases hx
  | succ fu ih =>
    intro v0 v1 v2 v3 h r hx
    unfold Checker_costOf_11 at hx
    obtain ⟨u1, hg, he, hx⟩ := bgd hx
    refine Ev.blk (is := [.iload_n 3, .aload_n 0, .getfield 3200]) (pc2 := 16) (L2 := [(2, v0), (0, v1), (0, v2), (0, v3), (9, 0)]) (S2 := [(2, u1), (0, v3)]) (h2 := h) (by decide +kernel) (by subst he; rfl) (by exact hg) ?_
    clear hg he
    obtain ⟨u2, hg, he, hx⟩ := bgd hx
    refine Ev.blk (is := [.getfield 5001]) (pc2 := 19) (L2 := [(2, v0), (0, v1), (0, v2), (0, v3), (9, 0)]) (S2 := [(0, u2), (0, v3)]) (h2 := h) (by decide +kernel) (by subst he; rfl) (by exact hg) ?_
    clear hg he
    obtain ⟨ha, hb⟩ := bite hx
    clear hx
    refine Ev.br (i := .if_icmp .ge 40) (len := 3) (a := 22) (b := 59) (by decide +kernel) rfl Iff.rfl (fun hc => ?_) (fun hc => ?_)
    · have hx := ha hc
      clear ha hb hc
      obtain ⟨u3, hg, he, hx⟩ := bgd hx
      refine Ev.blk (is := [.aload_n 0, .getfield 3200]) (pc2 := 26) (L2 := [(2, v0), (0, v1), (0, v2), (0, v3), (9, 0)]) (S2 := [(2, u3)]) (h2 := h) (by decide +kernel) (by subst he; rfl) (by exact hg) ?_
      clear hg he
      refine Ev.blk (is := [.iload_n 3, .iconst 0]) (pc2 := 28) (L2 := [(2, v0), (0, v1), (0, v2), (0, v3), (9, 0)]) (S2 := [(0, 0), (0, v3), (2, u3)]) (h2 := h) (by decide +kernel) rfl trivial ?_
      obtain ⟨_, hg, -, hx⟩ := bgd hx
      obtain ⟨u4, hc, hx⟩ := bca hx
      refine Ev.call (args := [(2, u3), (0, v3), (0, 0)]) (S2 := []) (r1 := (some (0, u4))) (h1 := h) (i := .invokevirtual 34) (by decide +kernel) rfl rfl (Nat.le_of_ble_eq_true rfl) (Or.inr (Or.inl ⟨rfl, hg, by decide +kernel⟩)) (x_Side_cell (by omega) hc) ?_
      refine Ev.blk (is := [.istore 4, .iload 4]) (pc2 := 35) (L2 := [(2, v0), (0, v1), (0, v2), (0, v3), (0, u4)]) (S2 := [(0, u4)]) (h2 := h) (by decide +kernel) rfl trivial ?_
      obtain ⟨ha, hb⟩ := bite hx
      clear hx
      refine Ev.br (i := .ifCond .le 18) (len := 3) (a := 38) (b := 53) (by decide +kernel) rfl Iff.rfl (fun hc => ?_) (fun hc => ?_)
      · have hx := ha hc
        clear ha hb hc
        refine Ev.blk (is := [.iload_n 1, .iload_n 2]) (pc2 := 40) (L2 := [(2, v0), (0, v1), (0, v2), (0, v3), (0, u4)]) (S2 := [(0, v2), (0, v1)]) (h2 := h) (by decide +kernel) rfl trivial ?_
        obtain ⟨u5, hc, hx⟩ := bca hx
        refine Ev.call (args := [(0, v2)]) (S2 := [(0, v1)]) (r1 := (some (0, u5))) (h1 := h) (i := .invokestatic 121) (by decide +kernel) rfl rfl (Nat.le_of_ble_eq_true rfl) (Or.inl rfl) (x_Checker_powerCost (by omega) hc) ?_
        obtain ⟨u6, hg, he, hx⟩ := bgd hx
        refine Ev.blk (is := [.iload_n 2, .iload 4, .idiv]) (pc2 := 47) (L2 := [(2, v0), (0, v1), (0, v2), (0, v3), (0, u4)]) (S2 := [(0, u6), (0, u5), (0, v1)]) (h2 := h) (by decide +kernel) (by subst he; rfl) (by exact hg) ?_
        clear hg he
        obtain ⟨u7, hc, hx⟩ := bca hx
        refine Ev.call (args := [(0, u6)]) (S2 := [(0, u5), (0, v1)]) (r1 := (some (0, u7))) (h1 := h) (i := .invokestatic 121) (by decide +kernel) rfl rfl (Nat.le_of_ble_eq_true rfl) (Or.inl rfl) (x_Checker_powerCost (by omega) hc) ?_
        refine Ev.blk (is := [.iadd, .iadd, .istore_n 1, .iinc 3 1]) (pc2 := 56) (L2 := [(2, v0), (0, w32 (v1 + (w32 (u5 + u7)))), (0, v2), (0, w32 (v3 + 1)), (0, u4)]) (S2 := []) (h2 := h) (by decide +kernel) rfl trivial ?_
        refine Ev.jp (i := .goto (-45)) (len := 3) (pc2 := 11) (by decide +kernel) rfl ?_
        refine Ev.wk (L2 := [(2, v0), (0, w32 (v1 + (w32 (u5 + u7)))), (0, v2), (0, w32 (v3 + 1)), (9, 0)]) (wkL_of ⟨Or.inl rfl, ⟨Or.inl rfl, ⟨Or.inl rfl, ⟨Or.inl rfl, ⟨Or.inr rfl, trivial⟩⟩⟩⟩⟩) ?_
        exact ih v0 (w32 (v1 + (w32 (u5 + u7)))) v2 (w32 (v3 + 1)) h _ hx
      · have hx := hb hc
        clear ha hb hc
        refine Ev.blk (is := [.iinc 3 1]) (pc2 := 56) (L2 := [(2, v0), (0, v1), (0, v2), (0, w32 (v3 + 1)), (0, u4)]) (S2 := []) (h2 := h) (by decide +kernel) rfl trivial ?_
        refine Ev.jp (i := .goto (-45)) (len := 3) (pc2 := 11) (by decide +kernel) rfl ?_
        refine Ev.wk (L2 := [(2, v0), (0, v1), (0, v2), (0, w32 (v3 + 1)), (9, 0)]) (wkL_of ⟨Or.inl rfl, ⟨Or.inl rfl, ⟨Or.inl rfl, ⟨Or.inl rfl, ⟨Or.inr rfl, trivial⟩⟩⟩⟩⟩) ?_
        exact ih v0 v1 v2 (w32 (v3 + 1)) h _ hx
    · have hx := hb hc
      clear ha hb hc
      refine Ev.blk (is := [.iload_n 1]) (pc2 := 60) (L2 := [(2, v0), (0, v1), (0, v2), (0, v3), (9, 0)]) (S2 := [(0, v1)]) (h2 := h) (by decide +kernel) rfl trivial ?_
      cases hx
      exact Ev.ret (i := .ireturn) (len := 1) (by decide +kernel) rfl (finOf (t := some .int) rfl (trivial))
theorem x_Checker_costOf {sc : AS} {d : Nat} (hd : 2 ≤ d) {v0 : Int} {h : AH} {r : Int} (hx : Checker_costOf v0 h = some r) : Runs sc d 120 [(2, v0)] h (some (0, r)) h := by
  obtain ⟨d, rfl⟩ : ∃ e, d = e + 1 := ⟨d - 1, by omega⟩
  have hd : 1 ≤ d := by omega
  unfold Checker_costOf at hx
  refine ⟨⟨aM_120, rfl, Nat.le_of_ble_eq_true rfl⟩, ?_⟩
  show Ev sc d 120 0 [(2, v0), (9, 0), (9, 0), (9, 0), (9, 0)] [] h (some (0, r)) h
  obtain ⟨u1, hg, he, hx⟩ := bgd hx
  refine Ev.blk (is := [.iconst 0, .istore_n 1, .aload_n 0, .getfield 3002]) (pc2 := 6) (L2 := [(2, v0), (0, 0), (9, 0), (9, 0), (9, 0)]) (S2 := [(0, u1)]) (h2 := h) (by decide +kernel) (by subst he; rfl) (by exact hg) ?_
  clear hg he
  refine Ev.blk (is := [.iconst 1, .isub, .istore_n 2, .iconst 0, .istore_n 3]) (pc2 := 11) (L2 := [(2, v0), (0, 0), (0, w32 (u1 - 1)), (0, 0), (9, 0)]) (S2 := []) (h2 := h) (by decide +kernel) rfl trivial ?_
  exact y_Checker_costOf_11 hd FU v0 0 (w32 (u1 - 1)) 0 h _ hx
theorem x_X_cost {sc : AS} {d : Nat} (hd : 3 ≤ d) {v0 : Int} {v1 : Int} {h : AH} {r : Int} (hx : X_cost v0 v1 h = some r) : Runs sc d 119 [(2, v0), (0, v1)] h (some (0, r)) h := by
  obtain ⟨d, rfl⟩ : ∃ e, d = e + 1 := ⟨d - 1, by omega⟩
  have hd : 2 ≤ d := by omega
  unfold X_cost at hx
  refine ⟨⟨aM_119, rfl, Nat.le_of_ble_eq_true rfl⟩, ?_⟩
  show Ev sc d 119 0 [(2, v0), (0, v1)] [] h (some (0, r)) h
  obtain ⟨u1, hg, he, hx⟩ := bgd hx
  refine Ev.blk (is := [.aload_n 0, .getfield 8200]) (pc2 := 4) (L2 := [(2, v0), (0, v1)]) (S2 := [(2, u1)]) (h2 := h) (by decide +kernel) (by subst he; rfl) (by exact hg) ?_
  clear hg he
  refine Ev.blk (is := [.iload_n 1]) (pc2 := 5) (L2 := [(2, v0), (0, v1)]) (S2 := [(0, v1), (2, u1)]) (h2 := h) (by decide +kernel) rfl trivial ?_
  obtain ⟨_, hg, -, hx⟩ := bgd hx
  obtain ⟨u2, hc, hx⟩ := bca hx
  refine Ev.call (args := [(2, u1), (0, v1)]) (S2 := []) (r1 := (some (0, u2))) (h1 := h) (i := .invokevirtual 13) (by decide +kernel) rfl rfl (Nat.le_of_ble_eq_true rfl) (Or.inr (Or.inl ⟨rfl, hg, by decide +kernel⟩)) (x_Ledger_has (by omega) hc) ?_
  obtain ⟨ha, hb⟩ := bite hx
  clear hx
  refine Ev.br (i := .ifCond .ne 5) (len := 3) (a := 11) (b := 13) (by decide +kernel) rfl Iff.rfl (fun hc => ?_) (fun hc => ?_)
  · have hx := ha hc
    clear ha hb hc
    refine Ev.blk (is := [.iconst (-1)]) (pc2 := 12) (L2 := [(2, v0), (0, v1)]) (S2 := [(0, (-1))]) (h2 := h) (by decide +kernel) rfl trivial ?_
    cases hx
    exact Ev.ret (i := .ireturn) (len := 1) (by decide +kernel) rfl (finOf (t := some .int) rfl (trivial))
  · have hx := hb hc
    clear ha hb hc
    obtain ⟨u3, hg, he, hx⟩ := bgd hx
    refine Ev.blk (is := [.aload_n 0, .getfield 8200]) (pc2 := 17) (L2 := [(2, v0), (0, v1)]) (S2 := [(2, u3)]) (h2 := h) (by decide +kernel) (by subst he; rfl) (by exact hg) ?_
    clear hg he
    refine Ev.blk (is := [.iload_n 1]) (pc2 := 18) (L2 := [(2, v0), (0, v1)]) (S2 := [(0, v1), (2, u3)]) (h2 := h) (by decide +kernel) rfl trivial ?_
    obtain ⟨_, hg, -, hx⟩ := bgd hx
    obtain ⟨u4, hc, hx⟩ := bca hx
    refine Ev.call (args := [(2, u3), (0, v1)]) (S2 := []) (r1 := (some (0, u4))) (h1 := h) (i := .invokevirtual 12) (by decide +kernel) rfl rfl (Nat.le_of_ble_eq_true rfl) (Or.inr (Or.inl ⟨rfl, hg, by decide +kernel⟩)) (x_Ledger_isRight (by omega) hc) ?_
    obtain ⟨ha, hb⟩ := bite hx
    clear hx
    refine Ev.br (i := .ifCond .eq 18) (len := 3) (a := 39) (b := 24) (by decide +kernel) rfl Iff.rfl (fun hc => ?_) (fun hc => ?_)
    · have hx := ha hc
      clear ha hb hc
      refine Ev.blk (is := [.sipush (-2)]) (pc2 := 41) (L2 := [(2, v0), (0, v1)]) (S2 := [(0, (-2))]) (h2 := h) (by decide +kernel) rfl trivial ?_
      cases hx
      exact Ev.ret (i := .ireturn) (len := 1) (by decide +kernel) rfl (finOf (t := some .int) rfl (trivial))
    · have hx := hb hc
      clear ha hb hc
      obtain ⟨u5, hg, he, hx⟩ := bgd hx
      refine Ev.blk (is := [.aload_n 0, .getfield 8200]) (pc2 := 28) (L2 := [(2, v0), (0, v1)]) (S2 := [(2, u5)]) (h2 := h) (by decide +kernel) (by subst he; rfl) (by exact hg) ?_
      clear hg he
      obtain ⟨u6, hg, he, hx⟩ := bgd hx
      refine Ev.blk (is := [.getfield 2200]) (pc2 := 31) (L2 := [(2, v0), (0, v1)]) (S2 := [(2, u6)]) (h2 := h) (by decide +kernel) (by subst he; rfl) (by exact hg) ?_
      clear hg he
      obtain ⟨u7, hg, he, hx⟩ := bgd hx
      refine Ev.blk (is := [.iload_n 1, .aaload]) (pc2 := 33) (L2 := [(2, v0), (0, v1)]) (S2 := [(2, u7)]) (h2 := h) (by decide +kernel) (by subst he; rfl) (by exact hg) ?_
      clear hg he
      obtain ⟨u8, hc, hx⟩ := bca hx
      refine Ev.call (args := [(2, u7)]) (S2 := []) (r1 := (some (0, u8))) (h1 := h) (i := .invokestatic 120) (by decide +kernel) rfl rfl (Nat.le_of_ble_eq_true rfl) (Or.inl rfl) (x_Checker_costOf (by omega) hc) ?_
      refine Ev.jp (i := .goto 5) (len := 3) (pc2 := 41) (by decide +kernel) rfl ?_
      cases hx
      exact Ev.ret (i := .ireturn) (len := 1) (by decide +kernel) rfl (finOf (t := some .int) rfl (trivial))
theorem y_Checker_goodBases_15 {sc : AS} {d : Nat} (hd : 2 ≤ d) : ∀ (fu : Nat) (v0 : Int) (v2 : Int) (v3 : Int) (v4 : Int) (h : AH) (r : Int), Checker_goodBases_15 fu v0 v2 v3 v4 h = some r → Ev sc d 123 15 [(2, v0), (9, 0), (0, v2), (0, v3), (0, v4)] [] h (some (0, r)) h := by
  intro fu
  induction fu with
  | zero => intro v0 v2 v3 v4 h r hx; unfold Checker_goodBases_15 at hx; cases hx
  | succ fu ih =>
    intro v0 v2 v3 v4 h r hx
    unfold Checker_goodBases_15 at hx
    refine Ev.blk (is := [.iload 4, .sipush 999]) (pc2 := 20) (L2 := [(2, v0), (9, 0), (0, v2), (0, v3), (0, v4)]) (S2 := [(0, 999), (0, v4)]) (h2 := h) (by decide +kernel) rfl trivial ?_
    obtain ⟨ha, hb⟩ := bite hx
    clear hx
    refine Ev.br (i := .if_icmp .gt 25) (len := 3) (a := 45) (b := 23) (by decide +kernel) rfl Iff.rfl (fun hc => ?_) (fun hc => ?_)
    · have hx := ha hc
      clear ha hb hc
      refine Ev.blk (is := [.iload_n 2]) (pc2 := 46) (L2 := [(2, v0), (9, 0), (0, v2), (0, v3), (0, v4)]) (S2 := [(0, v2)]) (h2 := h) (by decide +kernel) rfl trivial ?_
      cases hx
      exact Ev.ret (i := .ireturn) (len := 1) (by decide +kernel) rfl (finOf (t := some .int) rfl (trivial))
    · have hx := hb hc
      clear ha hb hc
      obtain ⟨u1, hg, he, hx⟩ := bgd hx
      refine Ev.blk (is := [.aload_n 0, .getfield 3002]) (pc2 := 27) (L2 := [(2, v0), (9, 0), (0, v2), (0, v3), (0, v4)]) (S2 := [(0, u1)]) (h2 := h) (by decide +kernel) (by subst he; rfl) (by exact hg) ?_
      clear hg he
      refine Ev.blk (is := [.iload_n 3, .iload 4]) (pc2 := 30) (L2 := [(2, v0), (9, 0), (0, v2), (0, v3), (0, v4)]) (S2 := [(0, v4), (0, v3), (0, u1)]) (h2 := h) (by decide +kernel) rfl trivial ?_
      obtain ⟨u2, hc, hx⟩ := bca hx
      refine Ev.call (args := [(0, u1), (0, v3), (0, v4)]) (S2 := []) (r1 := (some (0, u2))) (h1 := h) (i := .invokestatic 41) (by decide +kernel) rfl rfl (Nat.le_of_ble_eq_true rfl) (Or.inl rfl) (x_Checker_rowFault (by omega) hc) ?_
      obtain ⟨ha, hb⟩ := bite hx
      clear hx
      refine Ev.br (i := .ifCond .ne 6) (len := 3) (a := 36) (b := 39) (by decide +kernel) rfl Iff.rfl (fun hc => ?_) (fun hc => ?_)
      · have hx := ha hc
        clear ha hb hc
        refine Ev.blk (is := [.iinc 2 1, .iinc 4 1]) (pc2 := 42) (L2 := [(2, v0), (9, 0), (0, w32 (v2 + 1)), (0, v3), (0, w32 (v4 + 1))]) (S2 := []) (h2 := h) (by decide +kernel) rfl trivial ?_
        refine Ev.jp (i := .goto (-27)) (len := 3) (pc2 := 15) (by decide +kernel) rfl ?_
        exact ih v0 (w32 (v2 + 1)) v3 (w32 (v4 + 1)) h _ hx
      · have hx := hb hc
        clear ha hb hc
        refine Ev.blk (is := [.iinc 4 1]) (pc2 := 42) (L2 := [(2, v0), (9, 0), (0, v2), (0, v3), (0, w32 (v4 + 1))]) (S2 := []) (h2 := h) (by decide +kernel) rfl trivial ?_
        refine Ev.jp (i := .goto (-27)) (len := 3) (pc2 := 15) (by decide +kernel) rfl ?_
        exact ih v0 v2 v3 (w32 (v4 + 1)) h _ hx
theorem x_Checker_goodBases {sc : AS} {d : Nat} (hd : 3 ≤ d) {v0 : Int} {v1 : Int} {h : AH} {r : Int} (hx : Checker_goodBases v0 v1 h = some r) : Runs sc d 123 [(2, v0), (0, v1)] h (some (0, r)) h := by
  obtain ⟨d, rfl⟩ : ∃ e, d = e + 1 := ⟨d - 1, by omega⟩
  have hd : 2 ≤ d := by omega
  unfold Checker_goodBases at hx
  refine ⟨⟨aM_123, rfl, Nat.le_of_ble_eq_true rfl⟩, ?_⟩
  show Ev sc d 123 0 [(2, v0), (0, v1), (9, 0), (9, 0), (9, 0)] [] h (some (0, r)) h
  obtain ⟨u1, hg, he, hx⟩ := bgd hx
  refine Ev.blk (is := [.iconst 0, .istore_n 2, .aload_n 0, .getfield 3200]) (pc2 := 6) (L2 := [(2, v0), (0, v1), (0, 0), (9, 0), (9, 0)]) (S2 := [(2, u1)]) (h2 := h) (by decide +kernel) (by subst he; rfl) (by exact hg) ?_
  clear hg he
  refine Ev.blk (is := [.iload_n 1, .iconst 0]) (pc2 := 8) (L2 := [(2, v0), (0, v1), (0, 0), (9, 0), (9, 0)]) (S2 := [(0, 0), (0, v1), (2, u1)]) (h2 := h) (by decide +kernel) rfl trivial ?_
  obtain ⟨_, hg, -, hx⟩ := bgd hx
  obtain ⟨u2, hc, hx⟩ := bca hx
  refine Ev.call (args := [(2, u1), (0, v1), (0, 0)]) (S2 := []) (r1 := (some (0, u2))) (h1 := h) (i := .invokevirtual 34) (by decide +kernel) rfl rfl (Nat.le_of_ble_eq_true rfl) (Or.inr (Or.inl ⟨rfl, hg, by decide +kernel⟩)) (x_Side_cell (by omega) hc) ?_
  refine Ev.blk (is := [.istore_n 3, .iconst 2, .istore 4]) (pc2 := 15) (L2 := [(2, v0), (0, v1), (0, 0), (0, u2), (0, 2)]) (S2 := []) (h2 := h) (by decide +kernel) rfl trivial ?_
  refine Ev.wk (L2 := [(2, v0), (9, 0), (0, 0), (0, u2), (0, 2)]) (wkL_of ⟨Or.inl rfl, ⟨Or.inr rfl, ⟨Or.inl rfl, ⟨Or.inl rfl, ⟨Or.inl rfl, trivial⟩⟩⟩⟩⟩) ?_
  exact y_Checker_goodBases_15 hd FU v0 0 u2 2 h _ hx
theorem x_X_loose {sc : AS} {d : Nat} (hd : 4 ≤ d) {v0 : Int} {v1 : Int} {v2 : Int} {h : AH} {r : Int} (hx : X_loose v0 v1 v2 h = some r) : Runs sc d 122 [(2, v0), (0, v1), (0, v2)] h (some (0, r)) h := by
  obtain ⟨d, rfl⟩ : ∃ e, d = e + 1 := ⟨d - 1, by omega⟩
  have hd : 3 ≤ d := by omega
  unfold X_loose at hx
  refine ⟨⟨aM_122, rfl, Nat.le_of_ble_eq_true rfl⟩, ?_⟩
  show Ev sc d 122 0 [(2, v0), (0, v1), (0, v2)] [] h (some (0, r)) h
  obtain ⟨u1, hg, he, hx⟩ := bgd hx
  refine Ev.blk (is := [.aload_n 0, .getfield 8200]) (pc2 := 4) (L2 := [(2, v0), (0, v1), (0, v2)]) (S2 := [(2, u1)]) (h2 := h) (by decide +kernel) (by subst he; rfl) (by exact hg) ?_
  clear hg he
  refine Ev.blk (is := [.iload_n 1, .iconst 0, .iload_n 2]) (pc2 := 7) (L2 := [(2, v0), (0, v1), (0, v2)]) (S2 := [(0, v2), (0, 0), (0, v1), (2, u1)]) (h2 := h) (by decide +kernel) rfl trivial ?_
  obtain ⟨_, hg, -, hx⟩ := bgd hx
  obtain ⟨u2, hc, hx⟩ := bca hx
  refine Ev.call (args := [(2, u1), (0, v1), (0, 0), (0, v2)]) (S2 := []) (r1 := (some (0, u2))) (h1 := h) (i := .invokevirtual 96) (by decide +kernel) rfl rfl (Nat.le_of_ble_eq_true rfl) (Or.inr (Or.inl ⟨rfl, hg, by decide +kernel⟩)) (x_Ledger_hasRow (by omega) hc) ?_
  obtain ⟨ha, hb⟩ := bite hx
  clear hx
  refine Ev.br (i := .ifCond .ne 5) (len := 3) (a := 13) (b := 15) (by decide +kernel) rfl Iff.rfl (fun hc => ?_) (fun hc => ?_)
  · have hx := ha hc
    clear ha hb hc
    refine Ev.blk (is := [.iconst (-1)]) (pc2 := 14) (L2 := [(2, v0), (0, v1), (0, v2)]) (S2 := [(0, (-1))]) (h2 := h) (by decide +kernel) rfl trivial ?_
    cases hx
    exact Ev.ret (i := .ireturn) (len := 1) (by decide +kernel) rfl (finOf (t := some .int) rfl (trivial))
  · have hx := hb hc
    clear ha hb hc
    obtain ⟨u3, hg, he, hx⟩ := bgd hx
    refine Ev.blk (is := [.aload_n 0, .getfield 8200]) (pc2 := 19) (L2 := [(2, v0), (0, v1), (0, v2)]) (S2 := [(2, u3)]) (h2 := h) (by decide +kernel) (by subst he; rfl) (by exact hg) ?_
    clear hg he
    refine Ev.blk (is := [.iload_n 1]) (pc2 := 20) (L2 := [(2, v0), (0, v1), (0, v2)]) (S2 := [(0, v1), (2, u3)]) (h2 := h) (by decide +kernel) rfl trivial ?_
    obtain ⟨_, hg, -, hx⟩ := bgd hx
    obtain ⟨u4, hc, hx⟩ := bca hx
    refine Ev.call (args := [(2, u3), (0, v1)]) (S2 := []) (r1 := (some (0, u4))) (h1 := h) (i := .invokevirtual 12) (by decide +kernel) rfl rfl (Nat.le_of_ble_eq_true rfl) (Or.inr (Or.inl ⟨rfl, hg, by decide +kernel⟩)) (x_Ledger_isRight (by omega) hc) ?_
    obtain ⟨ha, hb⟩ := bite hx
    clear hx
    refine Ev.br (i := .ifCond .eq 19) (len := 3) (a := 42) (b := 26) (by decide +kernel) rfl Iff.rfl (fun hc => ?_) (fun hc => ?_)
    · have hx := ha hc
      clear ha hb hc
      refine Ev.blk (is := [.sipush (-2)]) (pc2 := 44) (L2 := [(2, v0), (0, v1), (0, v2)]) (S2 := [(0, (-2))]) (h2 := h) (by decide +kernel) rfl trivial ?_
      cases hx
      exact Ev.ret (i := .ireturn) (len := 1) (by decide +kernel) rfl (finOf (t := some .int) rfl (trivial))
    · have hx := hb hc
      clear ha hb hc
      obtain ⟨u5, hg, he, hx⟩ := bgd hx
      refine Ev.blk (is := [.aload_n 0, .getfield 8200]) (pc2 := 30) (L2 := [(2, v0), (0, v1), (0, v2)]) (S2 := [(2, u5)]) (h2 := h) (by decide +kernel) (by subst he; rfl) (by exact hg) ?_
      clear hg he
      obtain ⟨u6, hg, he, hx⟩ := bgd hx
      refine Ev.blk (is := [.getfield 2200]) (pc2 := 33) (L2 := [(2, v0), (0, v1), (0, v2)]) (S2 := [(2, u6)]) (h2 := h) (by decide +kernel) (by subst he; rfl) (by exact hg) ?_
      clear hg he
      obtain ⟨u7, hg, he, hx⟩ := bgd hx
      refine Ev.blk (is := [.iload_n 1, .aaload]) (pc2 := 35) (L2 := [(2, v0), (0, v1), (0, v2)]) (S2 := [(2, u7)]) (h2 := h) (by decide +kernel) (by subst he; rfl) (by exact hg) ?_
      clear hg he
      refine Ev.blk (is := [.iload_n 2]) (pc2 := 36) (L2 := [(2, v0), (0, v1), (0, v2)]) (S2 := [(0, v2), (2, u7)]) (h2 := h) (by decide +kernel) rfl trivial ?_
      obtain ⟨u8, hc, hx⟩ := bca hx
      refine Ev.call (args := [(2, u7), (0, v2)]) (S2 := []) (r1 := (some (0, u8))) (h1 := h) (i := .invokestatic 123) (by decide +kernel) rfl rfl (Nat.le_of_ble_eq_true rfl) (Or.inl rfl) (x_Checker_goodBases (by omega) hc) ?_
      refine Ev.jp (i := .goto 5) (len := 3) (pc2 := 44) (by decide +kernel) rfl ?_
      cases hx
      exact Ev.ret (i := .ireturn) (len := 1) (by decide +kernel) rfl (finOf (t := some .int) rfl (trivial))
theorem x_X_shared {sc : AS} {d : Nat} (hd : 3 ≤ d) {v0 : Int} {v1 : Int} {v2 : Int} {h : AH} {r : Int} (hx : X_shared v0 v1 v2 h = some r) : Runs sc d 124 [(2, v0), (0, v1), (0, v2)] h (some (1, r)) h := by
  obtain ⟨d, rfl⟩ : ∃ e, d = e + 1 := ⟨d - 1, by omega⟩
  have hd : 2 ≤ d := by omega
  unfold X_shared at hx
  refine ⟨⟨aM_124, rfl, Nat.le_of_ble_eq_true rfl⟩, ?_⟩
  show Ev sc d 124 0 [(2, v0), (0, v1), (0, v2)] [] h (some (1, r)) h
  obtain ⟨u1, hg, he, hx⟩ := bgd hx
  refine Ev.blk (is := [.aload_n 0, .getfield 8200]) (pc2 := 4) (L2 := [(2, v0), (0, v1), (0, v2)]) (S2 := [(2, u1)]) (h2 := h) (by decide +kernel) (by subst he; rfl) (by exact hg) ?_
  clear hg he
  refine Ev.blk (is := [.iload_n 1]) (pc2 := 5) (L2 := [(2, v0), (0, v1), (0, v2)]) (S2 := [(0, v1), (2, u1)]) (h2 := h) (by decide +kernel) rfl trivial ?_
  obtain ⟨_, hg, -, hx⟩ := bgd hx
  obtain ⟨u2, hc, hx⟩ := bca hx
  refine Ev.call (args := [(2, u1), (0, v1)]) (S2 := []) (r1 := (some (0, u2))) (h1 := h) (i := .invokevirtual 13) (by decide +kernel) rfl rfl (Nat.le_of_ble_eq_true rfl) (Or.inr (Or.inl ⟨rfl, hg, by decide +kernel⟩)) (x_Ledger_has (by omega) hc) ?_
  obtain ⟨ha, hb⟩ := bite hx
  clear hx
  refine Ev.br (i := .ifCond .eq 14) (len := 3) (a := 22) (b := 11) (by decide +kernel) rfl Iff.rfl (fun hc => ?_) (fun hc => ?_)
  · have hx := ha hc
    clear ha hb hc
    refine Ev.blk (is := [.jsr_w (-1)]) (pc2 := 25) (L2 := [(2, v0), (0, v1), (0, v2)]) (S2 := [(1, (-1))]) (h2 := h) (by decide +kernel) rfl trivial ?_
    cases hx
    exact Ev.ret (i := .lreturn) (len := 1) (by decide +kernel) rfl (finOf (t := some .long) rfl (trivial))
  · have hx := hb hc
    clear ha hb hc
    obtain ⟨u3, hg, he, hx⟩ := bgd hx
    refine Ev.blk (is := [.aload_n 0, .getfield 8200]) (pc2 := 15) (L2 := [(2, v0), (0, v1), (0, v2)]) (S2 := [(2, u3)]) (h2 := h) (by decide +kernel) (by subst he; rfl) (by exact hg) ?_
    clear hg he
    refine Ev.blk (is := [.iload_n 2]) (pc2 := 16) (L2 := [(2, v0), (0, v1), (0, v2)]) (S2 := [(0, v2), (2, u3)]) (h2 := h) (by decide +kernel) rfl trivial ?_
    obtain ⟨_, hg, -, hx⟩ := bgd hx
    obtain ⟨u4, hc, hx⟩ := bca hx
    refine Ev.call (args := [(2, u3), (0, v2)]) (S2 := []) (r1 := (some (0, u4))) (h1 := h) (i := .invokevirtual 13) (by decide +kernel) rfl rfl (Nat.le_of_ble_eq_true rfl) (Or.inr (Or.inl ⟨rfl, hg, by decide +kernel⟩)) (x_Ledger_has (by omega) hc) ?_
    obtain ⟨ha, hb⟩ := bite hx
    clear hx
    refine Ev.br (i := .ifCond .ne 7) (len := 3) (a := 22) (b := 26) (by decide +kernel) rfl Iff.rfl (fun hc => ?_) (fun hc => ?_)
    · have hx := ha hc
      clear ha hb hc
      refine Ev.blk (is := [.jsr_w (-1)]) (pc2 := 25) (L2 := [(2, v0), (0, v1), (0, v2)]) (S2 := [(1, (-1))]) (h2 := h) (by decide +kernel) rfl trivial ?_
      cases hx
      exact Ev.ret (i := .lreturn) (len := 1) (by decide +kernel) rfl (finOf (t := some .long) rfl (trivial))
    · have hx := hb hc
      clear ha hb hc
      obtain ⟨u5, hg, he, hx⟩ := bgd hx
      refine Ev.blk (is := [.aload_n 0, .getfield 8200]) (pc2 := 30) (L2 := [(2, v0), (0, v1), (0, v2)]) (S2 := [(2, u5)]) (h2 := h) (by decide +kernel) (by subst he; rfl) (by exact hg) ?_
      clear hg he
      refine Ev.blk (is := [.iload_n 1]) (pc2 := 31) (L2 := [(2, v0), (0, v1), (0, v2)]) (S2 := [(0, v1), (2, u5)]) (h2 := h) (by decide +kernel) rfl trivial ?_
      obtain ⟨_, hg, -, hx⟩ := bgd hx
      obtain ⟨u6, hc, hx⟩ := bca hx
      refine Ev.call (args := [(2, u5), (0, v1)]) (S2 := []) (r1 := (some (0, u6))) (h1 := h) (i := .invokevirtual 12) (by decide +kernel) rfl rfl (Nat.le_of_ble_eq_true rfl) (Or.inr (Or.inl ⟨rfl, hg, by decide +kernel⟩)) (x_Ledger_isRight (by omega) hc) ?_
      obtain ⟨ha, hb⟩ := bite hx
      clear hx
      refine Ev.br (i := .ifCond .eq 14) (len := 3) (a := 48) (b := 37) (by decide +kernel) rfl Iff.rfl (fun hc => ?_) (fun hc => ?_)
      · have hx := ha hc
        clear ha hb hc
        refine Ev.blk (is := [.jsr_w (-2)]) (pc2 := 51) (L2 := [(2, v0), (0, v1), (0, v2)]) (S2 := [(1, (-2))]) (h2 := h) (by decide +kernel) rfl trivial ?_
        cases hx
        exact Ev.ret (i := .lreturn) (len := 1) (by decide +kernel) rfl (finOf (t := some .long) rfl (trivial))
      · have hx := hb hc
        clear ha hb hc
        obtain ⟨u7, hg, he, hx⟩ := bgd hx
        refine Ev.blk (is := [.aload_n 0, .getfield 8200]) (pc2 := 41) (L2 := [(2, v0), (0, v1), (0, v2)]) (S2 := [(2, u7)]) (h2 := h) (by decide +kernel) (by subst he; rfl) (by exact hg) ?_
        clear hg he
        refine Ev.blk (is := [.iload_n 2]) (pc2 := 42) (L2 := [(2, v0), (0, v1), (0, v2)]) (S2 := [(0, v2), (2, u7)]) (h2 := h) (by decide +kernel) rfl trivial ?_
        obtain ⟨_, hg, -, hx⟩ := bgd hx
        obtain ⟨u8, hc, hx⟩ := bca hx
        refine Ev.call (args := [(2, u7), (0, v2)]) (S2 := []) (r1 := (some (0, u8))) (h1 := h) (i := .invokevirtual 12) (by decide +kernel) rfl rfl (Nat.le_of_ble_eq_true rfl) (Or.inr (Or.inl ⟨rfl, hg, by decide +kernel⟩)) (x_Ledger_isRight (by omega) hc) ?_
        obtain ⟨ha, hb⟩ := bite hx
        clear hx
        refine Ev.br (i := .ifCond .ne 7) (len := 3) (a := 48) (b := 52) (by decide +kernel) rfl Iff.rfl (fun hc => ?_) (fun hc => ?_)
        · have hx := ha hc
          clear ha hb hc
          refine Ev.blk (is := [.jsr_w (-2)]) (pc2 := 51) (L2 := [(2, v0), (0, v1), (0, v2)]) (S2 := [(1, (-2))]) (h2 := h) (by decide +kernel) rfl trivial ?_
          cases hx
          exact Ev.ret (i := .lreturn) (len := 1) (by decide +kernel) rfl (finOf (t := some .long) rfl (trivial))
        · have hx := hb hc
          clear ha hb hc
          obtain ⟨u9, hg, he, hx⟩ := bgd hx
          refine Ev.blk (is := [.aload_n 0, .getfield 8200]) (pc2 := 56) (L2 := [(2, v0), (0, v1), (0, v2)]) (S2 := [(2, u9)]) (h2 := h) (by decide +kernel) (by subst he; rfl) (by exact hg) ?_
          clear hg he
          obtain ⟨u10, hg, he, hx⟩ := bgd hx
          refine Ev.blk (is := [.getfield 2202]) (pc2 := 59) (L2 := [(2, v0), (0, v1), (0, v2)]) (S2 := [(2, u10)]) (h2 := h) (by decide +kernel) (by subst he; rfl) (by exact hg) ?_
          clear hg he
          obtain ⟨u11, hg, he, hx⟩ := bgd hx
          refine Ev.blk (is := [.iload_n 1, .laload]) (pc2 := 61) (L2 := [(2, v0), (0, v1), (0, v2)]) (S2 := [(1, u11)]) (h2 := h) (by decide +kernel) (by subst he; rfl) (by exact hg) ?_
          clear hg he
          obtain ⟨u12, hg, he, hx⟩ := bgd hx
          refine Ev.blk (is := [.aload_n 0, .getfield 8200]) (pc2 := 65) (L2 := [(2, v0), (0, v1), (0, v2)]) (S2 := [(2, u12), (1, u11)]) (h2 := h) (by decide +kernel) (by subst he; rfl) (by exact hg) ?_
          clear hg he
          obtain ⟨u13, hg, he, hx⟩ := bgd hx
          refine Ev.blk (is := [.getfield 2202]) (pc2 := 68) (L2 := [(2, v0), (0, v1), (0, v2)]) (S2 := [(2, u13), (1, u11)]) (h2 := h) (by decide +kernel) (by subst he; rfl) (by exact hg) ?_
          clear hg he
          obtain ⟨u14, hg, he, hx⟩ := bgd hx
          refine Ev.blk (is := [.iload_n 2, .laload]) (pc2 := 70) (L2 := [(2, v0), (0, v1), (0, v2)]) (S2 := [(1, u14), (1, u11)]) (h2 := h) (by decide +kernel) (by subst he; rfl) (by exact hg) ?_
          clear hg he
          refine Ev.blk (is := [.land]) (pc2 := 71) (L2 := [(2, v0), (0, v1), (0, v2)]) (S2 := [(1, andL u11 u14)]) (h2 := h) (by decide +kernel) rfl trivial ?_
          cases hx
          exact Ev.ret (i := .lreturn) (len := 1) (by decide +kernel) rfl (finOf (t := some .long) rfl (trivial))
theorem x_Speller_writeSign {sc : AS} {d : Nat} (hd : 1 ≤ d) {v0 : Int} {v1 : Int} {h : AH} {r : AH} (hx : Speller_writeSign v0 v1 h = some r) : Runs sc d 129 [(2, v0), (0, v1)] h none r := by
  obtain ⟨d, rfl⟩ : ∃ e, d = e + 1 := ⟨d - 1, by omega⟩
  have hd : 0 ≤ d := by omega
  unfold Speller_writeSign at hx
  refine ⟨⟨aM_129, rfl, Nat.le_of_ble_eq_true rfl⟩, ?_⟩
  show Ev sc d 129 0 [(2, v0), (0, v1)] [] h none r
  obtain ⟨u1, hg, he, hx⟩ := bgd hx
  refine Ev.blk (is := [.aload_n 0, .getfield 6001]) (pc2 := 4) (L2 := [(2, v0), (0, v1)]) (S2 := [(0, u1)]) (h2 := h) (by decide +kernel) (by subst he; rfl) (by exact hg) ?_
  clear hg he
  refine Ev.blk (is := [.sipush 400]) (pc2 := 7) (L2 := [(2, v0), (0, v1)]) (S2 := [(0, 400), (0, u1)]) (h2 := h) (by decide +kernel) rfl trivial ?_
  obtain ⟨ha, hb⟩ := bite hx
  clear hx
  refine Ev.br (i := .if_icmp .ge 23) (len := 3) (a := 10) (b := 30) (by decide +kernel) rfl Iff.rfl (fun hc => ?_) (fun hc => ?_)
  · have hx := ha hc
    clear ha hb hc
    obtain ⟨u2, hg, he, hx⟩ := bgd hx
    refine Ev.blk (is := [.aload_n 0, .getfield 6200]) (pc2 := 14) (L2 := [(2, v0), (0, v1)]) (S2 := [(2, u2)]) (h2 := h) (by decide +kernel) (by subst he; rfl) (by exact hg) ?_
    clear hg he
    obtain ⟨u3, hg, he, hx⟩ := bgd hx
    refine Ev.blk (is := [.aload_n 0, .getfield 6001]) (pc2 := 18) (L2 := [(2, v0), (0, v1)]) (S2 := [(0, u3), (2, u2)]) (h2 := h) (by decide +kernel) (by subst he; rfl) (by exact hg) ?_
    clear hg he
    obtain ⟨h4, hg, he, hx⟩ := bgd hx
    refine Ev.blk (is := [.iload_n 1, .castore]) (pc2 := 20) (L2 := [(2, v0), (0, v1)]) (S2 := []) (h2 := h4) (by decide +kernel) (by subst he; rfl) (by exact hg) ?_
    clear hg he
    obtain ⟨u5, hg, he, hx⟩ := bgd hx
    refine Ev.blk (is := [.aload_n 0, .dup, .getfield 6001]) (pc2 := 25) (L2 := [(2, v0), (0, v1)]) (S2 := [(0, u5), (2, v0)]) (h2 := h4) (by decide +kernel) (by subst he; rfl) (by exact hg) ?_
    clear hg he
    obtain ⟨h6, hg, he, hx⟩ := bgd hx
    refine Ev.blk (is := [.iconst 1, .iadd, .putfield 6001]) (pc2 := 30) (L2 := [(2, v0), (0, v1)]) (S2 := []) (h2 := h6) (by decide +kernel) (by subst he; rfl) (by exact hg) ?_
    clear hg he
    cases hx
    exact Ev.ret (i := .return_) (len := 1) (by decide +kernel) rfl (finOf (t := none) rfl (trivial))
  · have hx := hb hc
    clear ha hb hc
    cases hx
    exact Ev.ret (i := .return_) (len := 1) (by decide +kernel) rfl (finOf (t := none) rfl (trivial))
theorem x_Speller_writeBlank {sc : AS} {d : Nat} (hd : 2 ≤ d) {v0 : Int} {h : AH} {r : AH} (hx : Speller_writeBlank v0 h = some r) : Runs sc d 128 [(2, v0)] h none r := by
  obtain ⟨d, rfl⟩ : ∃ e, d = e + 1 := ⟨d - 1, by omega⟩
  have hd : 1 ≤ d := by omega
  unfold Speller_writeBlank at hx
  refine ⟨⟨aM_128, rfl, Nat.le_of_ble_eq_true rfl⟩, ?_⟩
  show Ev sc d 128 0 [(2, v0)] [] h none r
  obtain ⟨u1, hg, he, hx⟩ := bgd hx
  refine Ev.blk (is := [.aload_n 0, .getfield 6001]) (pc2 := 4) (L2 := [(2, v0)]) (S2 := [(0, u1)]) (h2 := h) (by decide +kernel) (by subst he; rfl) (by exact hg) ?_
  clear hg he
  obtain ⟨ha, hb⟩ := bite hx
  clear hx
  refine Ev.br (i := .ifCond .le 9) (len := 3) (a := 7) (b := 13) (by decide +kernel) rfl Iff.rfl (fun hc => ?_) (fun hc => ?_)
  · have hx := ha hc
    clear ha hb hc
    refine Ev.blk (is := [.aload_n 0, .sipush 32]) (pc2 := 10) (L2 := [(2, v0)]) (S2 := [(0, 32), (2, v0)]) (h2 := h) (by decide +kernel) rfl trivial ?_
    obtain ⟨_, hg, -, hx⟩ := bgd hx
    obtain ⟨h3, hc, hx⟩ := bca hx
    refine Ev.call (args := [(2, v0), (0, 32)]) (S2 := []) (r1 := none) (h1 := h3) (i := .invokevirtual 129) (by decide +kernel) rfl rfl (Nat.le_of_ble_eq_true rfl) (Or.inr (Or.inl ⟨rfl, hg, by decide +kernel⟩)) (x_Speller_writeSign (by omega) hc) ?_
    cases hx
    exact Ev.ret (i := .return_) (len := 1) (by decide +kernel) rfl (finOf (t := none) rfl (trivial))
  · have hx := hb hc
    clear ha hb hc
    cases hx
    exact Ev.ret (i := .return_) (len := 1) (by decide +kernel) rfl (finOf (t := none) rfl (trivial))
theorem y_Speller_writeWord_6 {sc : AS} {d : Nat} (hd : 4 ≤ d) : ∀ (fu : Nat) (v0 : Int) (v1 : Int) (v2 : Int) (h : AH) (r : AH), Speller_writeWord_6 fu v0 v1 v2 h = some r → Ev sc d 127 6 [(2, v0), (3, v1), (0, v2)] [] h none r := by
  intro fu
  induction fu with
  | zero => intro v0 v1 v2 h r hx; unfold Speller_writeWord_6 at hx; cases hx
  | succ fu ih =>
    intro v0 v1 v2 h r hx
    unfold Speller_writeWord_6 at hx
    refine Ev.blk (is := [.iload_n 2, .aload_n 1]) (pc2 := 8) (L2 := [(2, v0), (3, v1), (0, v2)]) (S2 := [(3, v1), (0, v2)]) (h2 := h) (by decide +kernel) rfl trivial ?_
    obtain ⟨_, hg, -, hx⟩ := bgd hx
    obtain ⟨u1, hc, hx⟩ := bca hx
    refine Ev.call (args := [(3, v1)]) (S2 := [(0, v2)]) (r1 := (some (0, u1))) (h1 := h) (i := .invokevirtual 74) (by decide +kernel) rfl rfl (Nat.le_of_ble_eq_true rfl) (Or.inr (Or.inl ⟨rfl, hg.1, hg.2, by decide +kernel⟩)) (x_Str_length (by omega) hc) ?_
    obtain ⟨ha, hb⟩ := bite hx
    clear hx
    refine Ev.br (i := .if_icmp .ge 18) (len := 3) (a := 14) (b := 29) (by decide +kernel) rfl Iff.rfl (fun hc => ?_) (fun hc => ?_)
    · have hx := ha hc
      clear ha hb hc
      refine Ev.blk (is := [.aload_n 0, .aload_n 1, .iload_n 2]) (pc2 := 17) (L2 := [(2, v0), (3, v1), (0, v2)]) (S2 := [(0, v2), (3, v1), (2, v0)]) (h2 := h) (by decide +kernel) rfl trivial ?_
      obtain ⟨_, hg, -, hx⟩ := bgd hx
      obtain ⟨u2, hc, hx⟩ := bca hx
      refine Ev.call (args := [(3, v1), (0, v2)]) (S2 := [(2, v0)]) (r1 := (some (0, u2))) (h1 := h) (i := .invokevirtual 76) (by decide +kernel) rfl rfl (Nat.le_of_ble_eq_true rfl) (Or.inr (Or.inl ⟨rfl, hg.1, hg.2, by decide +kernel⟩)) (x_Str_charAt (by omega) hc) ?_
      obtain ⟨_, hg, -, hx⟩ := bgd hx
      obtain ⟨h4, hc, hx⟩ := bca hx
      refine Ev.call (args := [(2, v0), (0, u2)]) (S2 := []) (r1 := none) (h1 := h4) (i := .invokevirtual 129) (by decide +kernel) rfl rfl (Nat.le_of_ble_eq_true rfl) (Or.inr (Or.inl ⟨rfl, hg, by decide +kernel⟩)) (x_Speller_writeSign (by omega) hc) ?_
      refine Ev.blk (is := [.iinc 2 1]) (pc2 := 26) (L2 := [(2, v0), (3, v1), (0, w32 (v2 + 1))]) (S2 := []) (h2 := h4) (by decide +kernel) rfl trivial ?_
      refine Ev.jp (i := .goto (-20)) (len := 3) (pc2 := 6) (by decide +kernel) rfl ?_
      exact ih v0 v1 (w32 (v2 + 1)) h4 _ hx
    · have hx := hb hc
      clear ha hb hc
      cases hx
      exact Ev.ret (i := .return_) (len := 1) (by decide +kernel) rfl (finOf (t := none) rfl (trivial))
theorem x_Speller_writeWord {sc : AS} {d : Nat} (hd : 5 ≤ d) {v0 : Int} {v1 : Int} {h : AH} {r : AH} (hx : Speller_writeWord v0 v1 h = some r) : Runs sc d 127 [(2, v0), (3, v1)] h none r := by
  obtain ⟨d, rfl⟩ : ∃ e, d = e + 1 := ⟨d - 1, by omega⟩
  have hd : 4 ≤ d := by omega
  unfold Speller_writeWord at hx
  refine ⟨⟨aM_127, rfl, Nat.le_of_ble_eq_true rfl⟩, ?_⟩
  show Ev sc d 127 0 [(2, v0), (3, v1), (9, 0)] [] h none r
  refine Ev.blk (is := [.aload_n 0]) (pc2 := 1) (L2 := [(2, v0), (3, v1), (9, 0)]) (S2 := [(2, v0)]) (h2 := h) (by decide +kernel) rfl trivial ?_
  obtain ⟨_, hg, -, hx⟩ := bgd hx
  obtain ⟨h2, hc, hx⟩ := bca hx
  refine Ev.call (args := [(2, v0)]) (S2 := []) (r1 := none) (h1 := h2) (i := .invokevirtual 128) (by decide +kernel) rfl rfl (Nat.le_of_ble_eq_true rfl) (Or.inr (Or.inl ⟨rfl, hg, by decide +kernel⟩)) (x_Speller_writeBlank (by omega) hc) ?_
  refine Ev.blk (is := [.iconst 0, .istore_n 2]) (pc2 := 6) (L2 := [(2, v0), (3, v1), (0, 0)]) (S2 := []) (h2 := h2) (by decide +kernel) rfl trivial ?_
  exact y_Speller_writeWord_6 hd FU v0 v1 0 h2 _ hx
theorem y_Speller_writeInt_40 {sc : AS} {d : Nat} (hd : 2 ≤ d) {k9 : Int → Int → Int → Int → AH → Option AH} (hk9 : ∀ (v0 : Int) (v1 : Int) (v2 : Int) (v3 : Int) (h : AH) (r : AH), k9 v0 v1 v2 v3 h = some r → Ev sc d 130 9 [(2, v0), (0, v1), (0, v2), (0, v3), (9, 0)] [] h none r) : ∀ (v0 : Int) (v1 : Int) (v3 : Int) (v4 : Int) (s0 : Int) (h : AH) (r : AH), Speller_writeInt_40 k9 v0 v1 v3 v4 s0 h = some r → Ev sc d 130 40 [(2, v0), (0, v1), (9, 0), (0, v3), (0, v4)] [(0, s0)] h none r := by
  intro v0 v1 v3 v4 s0 h r hx
  unfold Speller_writeInt_40 at hx
  refine Ev.blk (is := [.istore_n 2, .iload_n 2]) (pc2 := 42) (L2 := [(2, v0), (0, v1), (0, s0), (0, v3), (0, v4)]) (S2 := [(0, s0)]) (h2 := h) (by decide +kernel) rfl trivial ?_
  obtain ⟨ha, hb⟩ := bite hx
  clear hx
  refine Ev.br (i := .ifCond .eq 13) (len := 3) (a := 55) (b := 45) (by decide +kernel) rfl Iff.rfl (fun hc => ?_) (fun hc => ?_)
  · have hx := ha hc
    clear ha hb hc
    obtain ⟨u1, hg, he, hx⟩ := bgd hx
    refine Ev.blk (is := [.iload_n 3, .sipush 10, .idiv]) (pc2 := 59) (L2 := [(2, v0), (0, v1), (0, s0), (0, v3), (0, v4)]) (S2 := [(0, u1)]) (h2 := h) (by decide +kernel) (by subst he; rfl) (by exact hg) ?_
    clear hg he
    refine Ev.blk (is := [.istore_n 3]) (pc2 := 60) (L2 := [(2, v0), (0, v1), (0, s0), (0, u1), (0, v4)]) (S2 := []) (h2 := h) (by decide +kernel) rfl trivial ?_
    refine Ev.jp (i := .goto (-51)) (len := 3) (pc2 := 9) (by decide +kernel) rfl ?_
    refine Ev.wk (L2 := [(2, v0), (0, v1), (0, s0), (0, u1), (9, 0)]) (wkL_of ⟨Or.inl rfl, ⟨Or.inl rfl, ⟨Or.inl rfl, ⟨Or.inl rfl, ⟨Or.inr rfl, trivial⟩⟩⟩⟩⟩) ?_
    exact hk9 v0 v1 s0 u1 h _ hx
  · have hx := hb hc
    clear ha hb hc
    refine Ev.blk (is := [.aload_n 0, .sipush 48, .iload 4, .iadd, .i2c]) (pc2 := 52) (L2 := [(2, v0), (0, v1), (0, s0), (0, v3), (0, v4)]) (S2 := [(0, (w32 (48 + v4)) % 65536), (2, v0)]) (h2 := h) (by decide +kernel) rfl trivial ?_
    obtain ⟨_, hg, -, hx⟩ := bgd hx
    obtain ⟨h3, hc, hx⟩ := bca hx
    refine Ev.call (args := [(2, v0), (0, (w32 (48 + v4)) % 65536)]) (S2 := []) (r1 := none) (h1 := h3) (i := .invokevirtual 129) (by decide +kernel) rfl rfl (Nat.le_of_ble_eq_true rfl) (Or.inr (Or.inl ⟨rfl, hg, by decide +kernel⟩)) (x_Speller_writeSign (by omega) hc) ?_
    obtain ⟨u4, hg, he, hx⟩ := bgd hx
    refine Ev.blk (is := [.iload_n 3, .sipush 10, .idiv]) (pc2 := 59) (L2 := [(2, v0), (0, v1), (0, s0), (0, v3), (0, v4)]) (S2 := [(0, u4)]) (h2 := h3) (by decide +kernel) (by subst he; rfl) (by exact hg) ?_
    clear hg he
    refine Ev.blk (is := [.istore_n 3]) (pc2 := 60) (L2 := [(2, v0), (0, v1), (0, s0), (0, u4), (0, v4)]) (S2 := []) (h2 := h3) (by decide +kernel) rfl trivial ?_
    refine Ev.jp (i := .goto (-51)) (len := 3) (pc2 := 9) (by decide +kernel) rfl ?_
    refine Ev.wk (L2 := [(2, v0), (0, v1), (0, s0), (0, u4), (9, 0)]) (wkL_of ⟨Or.inl rfl, ⟨Or.inl rfl, ⟨Or.inl rfl, ⟨Or.inl rfl, ⟨Or.inr rfl, trivial⟩⟩⟩⟩⟩) ?_
    exact hk9 v0 v1 s0 u4 h3 _ hx
theorem y_Speller_writeInt_9 {sc : AS} {d : Nat} (hd : 2 ≤ d) : ∀ (fu : Nat) (v0 : Int) (v1 : Int) (v2 : Int) (v3 : Int) (h : AH) (r : AH), Speller_writeInt_9 fu v0 v1 v2 v3 h = some r → Ev sc d 130 9 [(2, v0), (0, v1), (0, v2), (0, v3), (9, 0)] [] h none r := by
  intro fu
  induction fu with
  | zero => intro v0 v1 v2 v3 h r hx; unfold Speller_writeInt_9 at hx; cases hx
  | succ fu ih =>
    intro v0 v1 v2 v3 h r hx
    unfold Speller_writeInt_9 at hx
    refine Ev.blk (is := [.iload_n 3]) (pc2 := 10) (L2 := [(2, v0), (0, v1), (0, v2), (0, v3), (9, 0)]) (S2 := [(0, v3)]) (h2 := h) (by decide +kernel) rfl trivial ?_
    obtain ⟨ha, hb⟩ := bite hx
    clear hx
    refine Ev.br (i := .ifCond .le 53) (len := 3) (a := 13) (b := 63) (by decide +kernel) rfl Iff.rfl (fun hc => ?_) (fun hc => ?_)
    · have hx := ha hc
      clear ha hb hc
      obtain ⟨u1, hg, he, hx⟩ := bgd hx
      refine Ev.blk (is := [.iload_n 1, .iload_n 3, .idiv]) (pc2 := 16) (L2 := [(2, v0), (0, v1), (0, v2), (0, v3), (9, 0)]) (S2 := [(0, u1)]) (h2 := h) (by decide +kernel) (by subst he; rfl) (by exact hg) ?_
      clear hg he
      obtain ⟨u2, hg, he, hx⟩ := bgd hx
      refine Ev.blk (is := [.sipush 10, .irem]) (pc2 := 19) (L2 := [(2, v0), (0, v1), (0, v2), (0, v3), (9, 0)]) (S2 := [(0, u2)]) (h2 := h) (by decide +kernel) (by subst he; rfl) (by exact hg) ?_
      clear hg he
      refine Ev.blk (is := [.istore 4, .iload_n 2]) (pc2 := 22) (L2 := [(2, v0), (0, v1), (0, v2), (0, v3), (0, u2)]) (S2 := [(0, v2)]) (h2 := h) (by decide +kernel) rfl trivial ?_
      obtain ⟨ha, hb⟩ := bite hx
      clear hx
      refine Ev.br (i := .ifCond .ne 13) (len := 3) (a := 25) (b := 35) (by decide +kernel) rfl Iff.rfl (fun hc => ?_) (fun hc => ?_)
      · have hx := ha hc
        clear ha hb hc
        refine Ev.blk (is := [.iload 4]) (pc2 := 27) (L2 := [(2, v0), (0, v1), (0, v2), (0, v3), (0, u2)]) (S2 := [(0, u2)]) (h2 := h) (by decide +kernel) rfl trivial ?_
        obtain ⟨ha, hb⟩ := bite hx
        clear hx
        refine Ev.br (i := .ifCond .gt 8) (len := 3) (a := 35) (b := 30) (by decide +kernel) rfl Iff.rfl (fun hc => ?_) (fun hc => ?_)
        · have hx := ha hc
          clear ha hb hc
          refine Ev.blk (is := [.iconst 1]) (pc2 := 36) (L2 := [(2, v0), (0, v1), (0, v2), (0, v3), (0, u2)]) (S2 := [(0, 1)]) (h2 := h) (by decide +kernel) rfl trivial ?_
          refine Ev.jp (i := .goto 4) (len := 3) (pc2 := 40) (by decide +kernel) rfl ?_
          refine Ev.wk (L2 := [(2, v0), (0, v1), (9, 0), (0, v3), (0, u2)]) (wkL_of ⟨Or.inl rfl, ⟨Or.inl rfl, ⟨Or.inr rfl, ⟨Or.inl rfl, ⟨Or.inl rfl, trivial⟩⟩⟩⟩⟩) ?_
          exact y_Speller_writeInt_40 hd ih v0 v1 v3 u2 1 h _ hx
        · have hx := hb hc
          clear ha hb hc
          refine Ev.blk (is := [.iload_n 3, .iconst 1]) (pc2 := 32) (L2 := [(2, v0), (0, v1), (0, v2), (0, v3), (0, u2)]) (S2 := [(0, 1), (0, v3)]) (h2 := h) (by decide +kernel) rfl trivial ?_
          obtain ⟨ha, hb⟩ := bite hx
          clear hx
          refine Ev.br (i := .if_icmp .ne 7) (len := 3) (a := 35) (b := 39) (by decide +kernel) rfl Iff.rfl (fun hc => ?_) (fun hc => ?_)
          · have hx := ha hc
            clear ha hb hc
            refine Ev.blk (is := [.iconst 1]) (pc2 := 36) (L2 := [(2, v0), (0, v1), (0, v2), (0, v3), (0, u2)]) (S2 := [(0, 1)]) (h2 := h) (by decide +kernel) rfl trivial ?_
            refine Ev.jp (i := .goto 4) (len := 3) (pc2 := 40) (by decide +kernel) rfl ?_
            refine Ev.wk (L2 := [(2, v0), (0, v1), (9, 0), (0, v3), (0, u2)]) (wkL_of ⟨Or.inl rfl, ⟨Or.inl rfl, ⟨Or.inr rfl, ⟨Or.inl rfl, ⟨Or.inl rfl, trivial⟩⟩⟩⟩⟩) ?_
            exact y_Speller_writeInt_40 hd ih v0 v1 v3 u2 1 h _ hx
          · have hx := hb hc
            clear ha hb hc
            refine Ev.blk (is := [.iconst 0]) (pc2 := 40) (L2 := [(2, v0), (0, v1), (0, v2), (0, v3), (0, u2)]) (S2 := [(0, 0)]) (h2 := h) (by decide +kernel) rfl trivial ?_
            refine Ev.wk (L2 := [(2, v0), (0, v1), (9, 0), (0, v3), (0, u2)]) (wkL_of ⟨Or.inl rfl, ⟨Or.inl rfl, ⟨Or.inr rfl, ⟨Or.inl rfl, ⟨Or.inl rfl, trivial⟩⟩⟩⟩⟩) ?_
            exact y_Speller_writeInt_40 hd ih v0 v1 v3 u2 0 h _ hx
      · have hx := hb hc
        clear ha hb hc
        refine Ev.blk (is := [.iconst 1]) (pc2 := 36) (L2 := [(2, v0), (0, v1), (0, v2), (0, v3), (0, u2)]) (S2 := [(0, 1)]) (h2 := h) (by decide +kernel) rfl trivial ?_
        refine Ev.jp (i := .goto 4) (len := 3) (pc2 := 40) (by decide +kernel) rfl ?_
        refine Ev.wk (L2 := [(2, v0), (0, v1), (9, 0), (0, v3), (0, u2)]) (wkL_of ⟨Or.inl rfl, ⟨Or.inl rfl, ⟨Or.inr rfl, ⟨Or.inl rfl, ⟨Or.inl rfl, trivial⟩⟩⟩⟩⟩) ?_
        exact y_Speller_writeInt_40 hd ih v0 v1 v3 u2 1 h _ hx
    · have hx := hb hc
      clear ha hb hc
      cases hx
      exact Ev.ret (i := .return_) (len := 1) (by decide +kernel) rfl (finOf (t := none) rfl (trivial))
theorem x_Speller_writeInt {sc : AS} {d : Nat} (hd : 3 ≤ d) {v0 : Int} {v1 : Int} {h : AH} {r : AH} (hx : Speller_writeInt v0 v1 h = some r) : Runs sc d 130 [(2, v0), (0, v1)] h none r := by
  obtain ⟨d, rfl⟩ : ∃ e, d = e + 1 := ⟨d - 1, by omega⟩
  have hd : 2 ≤ d := by omega
  unfold Speller_writeInt at hx
  refine ⟨⟨aM_130, rfl, Nat.le_of_ble_eq_true rfl⟩, ?_⟩
  show Ev sc d 130 0 [(2, v0), (0, v1), (9, 0), (9, 0), (9, 0)] [] h none r
  refine Ev.blk (is := [.aload_n 0]) (pc2 := 1) (L2 := [(2, v0), (0, v1), (9, 0), (9, 0), (9, 0)]) (S2 := [(2, v0)]) (h2 := h) (by decide +kernel) rfl trivial ?_
  obtain ⟨_, hg, -, hx⟩ := bgd hx
  obtain ⟨h2, hc, hx⟩ := bca hx
  refine Ev.call (args := [(2, v0)]) (S2 := []) (r1 := none) (h1 := h2) (i := .invokevirtual 128) (by decide +kernel) rfl rfl (Nat.le_of_ble_eq_true rfl) (Or.inr (Or.inl ⟨rfl, hg, by decide +kernel⟩)) (x_Speller_writeBlank (by omega) hc) ?_
  refine Ev.blk (is := [.iconst 0, .istore_n 2, .sipush 1000000000, .istore_n 3]) (pc2 := 9) (L2 := [(2, v0), (0, v1), (0, 0), (0, 1000000000), (9, 0)]) (S2 := []) (h2 := h2) (by decide +kernel) rfl trivial ?_
  exact y_Speller_writeInt_9 hd FU v0 v1 0 1000000000 h2 _ hx
theorem y_Speller_writeRows_2 {sc : AS} {d : Nat} (hd : 3 ≤ d) : ∀ (fu : Nat) (v0 : Int) (v1 : Int) (v2 : Int) (v3 : Int) (h : AH) (r : AH), Speller_writeRows_2 fu v0 v1 v2 v3 h = some r → Ev sc d 131 2 [(2, v0), (2, v1), (0, v2), (0, v3)] [] h none r := by
  intro fu
  induction fu with
  | zero => intro v0 v1 v2 v3 h r hx; unfold Speller_writeRows_2 at hx; cases hx
  | succ fu ih =>
    intro v0 v1 v2 v3 h r hx
    unfold Speller_writeRows_2 at hx
    obtain ⟨u1, hg, he, hx⟩ := bgd hx
    refine Ev.blk (is := [.iload_n 3, .aload_n 1, .getfield 5001]) (pc2 := 7) (L2 := [(2, v0), (2, v1), (0, v2), (0, v3)]) (S2 := [(0, u1), (0, v3)]) (h2 := h) (by decide +kernel) (by subst he; rfl) (by exact hg) ?_
    clear hg he
    obtain ⟨ha, hb⟩ := bite hx
    clear hx
    refine Ev.br (i := .if_icmp .ge 43) (len := 3) (a := 10) (b := 50) (by decide +kernel) rfl Iff.rfl (fun hc => ?_) (fun hc => ?_)
    · have hx := ha hc
      clear ha hb hc
      refine Ev.blk (is := [.aload_n 0, .aload_n 1, .iload_n 3, .iconst 0]) (pc2 := 14) (L2 := [(2, v0), (2, v1), (0, v2), (0, v3)]) (S2 := [(0, 0), (0, v3), (2, v1), (2, v0)]) (h2 := h) (by decide +kernel) rfl trivial ?_
      obtain ⟨_, hg, -, hx⟩ := bgd hx
      obtain ⟨u2, hc, hx⟩ := bca hx
      refine Ev.call (args := [(2, v1), (0, v3), (0, 0)]) (S2 := [(2, v0)]) (r1 := (some (0, u2))) (h1 := h) (i := .invokevirtual 34) (by decide +kernel) rfl rfl (Nat.le_of_ble_eq_true rfl) (Or.inr (Or.inl ⟨rfl, hg, by decide +kernel⟩)) (x_Side_cell (by omega) hc) ?_
      obtain ⟨_, hg, -, hx⟩ := bgd hx
      obtain ⟨h4, hc, hx⟩ := bca hx
      refine Ev.call (args := [(2, v0), (0, u2)]) (S2 := []) (r1 := none) (h1 := h4) (i := .invokevirtual 130) (by decide +kernel) rfl rfl (Nat.le_of_ble_eq_true rfl) (Or.inr (Or.inl ⟨rfl, hg, by decide +kernel⟩)) (x_Speller_writeInt (by omega) hc) ?_
      refine Ev.blk (is := [.aload_n 0, .aload_n 1, .iload_n 3, .iconst 1]) (pc2 := 24) (L2 := [(2, v0), (2, v1), (0, v2), (0, v3)]) (S2 := [(0, 1), (0, v3), (2, v1), (2, v0)]) (h2 := h4) (by decide +kernel) rfl trivial ?_
      obtain ⟨_, hg, -, hx⟩ := bgd hx
      obtain ⟨u5, hc, hx⟩ := bca hx
      refine Ev.call (args := [(2, v1), (0, v3), (0, 1)]) (S2 := [(2, v0)]) (r1 := (some (0, u5))) (h1 := h4) (i := .invokevirtual 34) (by decide +kernel) rfl rfl (Nat.le_of_ble_eq_true rfl) (Or.inr (Or.inl ⟨rfl, hg, by decide +kernel⟩)) (x_Side_cell (by omega) hc) ?_
      obtain ⟨_, hg, -, hx⟩ := bgd hx
      obtain ⟨h7, hc, hx⟩ := bca hx
      refine Ev.call (args := [(2, v0), (0, u5)]) (S2 := []) (r1 := none) (h1 := h7) (i := .invokevirtual 130) (by decide +kernel) rfl rfl (Nat.le_of_ble_eq_true rfl) (Or.inr (Or.inl ⟨rfl, hg, by decide +kernel⟩)) (x_Speller_writeInt (by omega) hc) ?_
      refine Ev.blk (is := [.iload_n 2]) (pc2 := 31) (L2 := [(2, v0), (2, v1), (0, v2), (0, v3)]) (S2 := [(0, v2)]) (h2 := h7) (by decide +kernel) rfl trivial ?_
      obtain ⟨ha, hb⟩ := bite hx
      clear hx
      refine Ev.br (i := .ifCond .eq 13) (len := 3) (a := 44) (b := 34) (by decide +kernel) rfl Iff.rfl (fun hc => ?_) (fun hc => ?_)
      · have hx := ha hc
        clear ha hb hc
        refine Ev.blk (is := [.iinc 3 1]) (pc2 := 47) (L2 := [(2, v0), (2, v1), (0, v2), (0, w32 (v3 + 1))]) (S2 := []) (h2 := h7) (by decide +kernel) rfl trivial ?_
        refine Ev.jp (i := .goto (-45)) (len := 3) (pc2 := 2) (by decide +kernel) rfl ?_
        exact ih v0 v1 v2 (w32 (v3 + 1)) h7 _ hx
      · have hx := hb hc
        clear ha hb hc
        refine Ev.blk (is := [.aload_n 0, .aload_n 1, .iload_n 3, .iconst 2]) (pc2 := 38) (L2 := [(2, v0), (2, v1), (0, v2), (0, v3)]) (S2 := [(0, 2), (0, v3), (2, v1), (2, v0)]) (h2 := h7) (by decide +kernel) rfl trivial ?_
        obtain ⟨_, hg, -, hx⟩ := bgd hx
        obtain ⟨u8, hc, hx⟩ := bca hx
        refine Ev.call (args := [(2, v1), (0, v3), (0, 2)]) (S2 := [(2, v0)]) (r1 := (some (0, u8))) (h1 := h7) (i := .invokevirtual 34) (by decide +kernel) rfl rfl (Nat.le_of_ble_eq_true rfl) (Or.inr (Or.inl ⟨rfl, hg, by decide +kernel⟩)) (x_Side_cell (by omega) hc) ?_
        obtain ⟨_, hg, -, hx⟩ := bgd hx
        obtain ⟨h10, hc, hx⟩ := bca hx
        refine Ev.call (args := [(2, v0), (0, u8)]) (S2 := []) (r1 := none) (h1 := h10) (i := .invokevirtual 130) (by decide +kernel) rfl rfl (Nat.le_of_ble_eq_true rfl) (Or.inr (Or.inl ⟨rfl, hg, by decide +kernel⟩)) (x_Speller_writeInt (by omega) hc) ?_
        refine Ev.blk (is := [.iinc 3 1]) (pc2 := 47) (L2 := [(2, v0), (2, v1), (0, v2), (0, w32 (v3 + 1))]) (S2 := []) (h2 := h10) (by decide +kernel) rfl trivial ?_
        refine Ev.jp (i := .goto (-45)) (len := 3) (pc2 := 2) (by decide +kernel) rfl ?_
        exact ih v0 v1 v2 (w32 (v3 + 1)) h10 _ hx
    · have hx := hb hc
      clear ha hb hc
      cases hx
      exact Ev.ret (i := .return_) (len := 1) (by decide +kernel) rfl (finOf (t := none) rfl (trivial))
theorem x_Speller_writeRows {sc : AS} {d : Nat} (hd : 4 ≤ d) {v0 : Int} {v1 : Int} {v2 : Int} {h : AH} {r : AH} (hx : Speller_writeRows v0 v1 v2 h = some r) : Runs sc d 131 [(2, v0), (2, v1), (0, v2)] h none r := by
  obtain ⟨d, rfl⟩ : ∃ e, d = e + 1 := ⟨d - 1, by omega⟩
  have hd : 3 ≤ d := by omega
  unfold Speller_writeRows at hx
  refine ⟨⟨aM_131, rfl, Nat.le_of_ble_eq_true rfl⟩, ?_⟩
  show Ev sc d 131 0 [(2, v0), (2, v1), (0, v2), (9, 0)] [] h none r
  refine Ev.blk (is := [.iconst 0, .istore_n 3]) (pc2 := 2) (L2 := [(2, v0), (2, v1), (0, v2), (0, 0)]) (S2 := []) (h2 := h) (by decide +kernel) rfl trivial ?_
  exact y_Speller_writeRows_2 hd FU v0 v1 v2 0 h _ hx
theorem y_Speller_write_178 {sc : AS} {d : Nat} (hd : 5 ≤ d) : ∀ (v0 : Int) (h : AH) (r : AH), Speller_write_178 v0 h = some r → Ev sc d 126 178 [(2, v0), (9, 0)] [] h none r := by
  intro v0 h r hx
  unfold Speller_write_178 at hx
  refine Ev.blk (is := [.aload_n 0, .sipush 59]) (pc2 := 181) (L2 := [(2, v0), (9, 0)]) (S2 := [(0, 59), (2, v0)]) (h2 := h) (by decide +kernel) rfl trivial ?_
  obtain ⟨_, hg, -, hx⟩ := bgd hx
  obtain ⟨h2, hc, hx⟩ := bca hx
  refine Ev.call (args := [(2, v0), (0, 59)]) (S2 := []) (r1 := none) (h1 := h2) (i := .invokevirtual 129) (by decide +kernel) rfl rfl (Nat.le_of_ble_eq_true rfl) (Or.inr (Or.inl ⟨rfl, hg, by decide +kernel⟩)) (x_Speller_writeSign (by omega) hc) ?_
  cases hx
  exact Ev.ret (i := .return_) (len := 1) (by decide +kernel) rfl (finOf (t := none) rfl (trivial))
theorem y_Speller_write_166 {sc : AS} {d : Nat} (hd : 5 ≤ d) : ∀ (v0 : Int) (v1 : Int) (s0 : Int) (s1 : Int) (s2 : Int) (h : AH) (r : AH), Speller_write_166 v0 v1 s0 s1 s2 h = some r → Ev sc d 126 166 [(2, v0), (2, v1)] [(0, s0), (2, s1), (2, s2)] h none r := by
  intro v0 v1 s0 s1 s2 h r hx
  unfold Speller_write_166 at hx
  obtain ⟨_, hg, -, hx⟩ := bgd hx
  obtain ⟨h2, hc, hx⟩ := bca hx
  refine Ev.call (args := [(2, s2), (2, s1), (0, s0)]) (S2 := []) (r1 := none) (h1 := h2) (i := .invokevirtual 131) (by decide +kernel) rfl rfl (Nat.le_of_ble_eq_true rfl) (Or.inr (Or.inl ⟨rfl, hg, by decide +kernel⟩)) (x_Speller_writeRows (by omega) hc) ?_
  obtain ⟨u3, hg, he, hx⟩ := bgd hx
  refine Ev.blk (is := [.aload_n 0, .aload_n 1, .getfield 3201]) (pc2 := 174) (L2 := [(2, v0), (2, v1)]) (S2 := [(2, u3), (2, v0)]) (h2 := h2) (by decide +kernel) (by subst he; rfl) (by exact hg) ?_
  clear hg he
  refine Ev.blk (is := [.iconst 0]) (pc2 := 175) (L2 := [(2, v0), (2, v1)]) (S2 := [(0, 0), (2, u3), (2, v0)]) (h2 := h2) (by decide +kernel) rfl trivial ?_
  obtain ⟨_, hg, -, hx⟩ := bgd hx
  obtain ⟨h5, hc, hx⟩ := bca hx
  refine Ev.call (args := [(2, v0), (2, u3), (0, 0)]) (S2 := []) (r1 := none) (h1 := h5) (i := .invokevirtual 131) (by decide +kernel) rfl rfl (Nat.le_of_ble_eq_true rfl) (Or.inr (Or.inl ⟨rfl, hg, by decide +kernel⟩)) (x_Speller_writeRows (by omega) hc) ?_
  refine Ev.wk (L2 := [(2, v0), (9, 0)]) (wkL_of ⟨Or.inl rfl, ⟨Or.inr rfl, trivial⟩⟩) ?_
  exact y_Speller_write_178 hd v0 h5 _ hx
theorem y_Speller_write_94 {sc : AS} {d : Nat} (hd : 5 ≤ d) : ∀ (v0 : Int) (v1 : Int) (h : AH) (r : AH), Speller_write_94 v0 v1 h = some r → Ev sc d 126 94 [(2, v0), (2, v1)] [] h none r := by
  intro v0 v1 h r hx
  unfold Speller_write_94 at hx
  obtain ⟨u1, hg, he, hx⟩ := bgd hx
  refine Ev.blk (is := [.aload_n 1, .getfield 3003]) (pc2 := 98) (L2 := [(2, v0), (2, v1)]) (S2 := [(0, u1)]) (h2 := h) (by decide +kernel) (by subst he; rfl) (by exact hg) ?_
  clear hg he
  refine Ev.blk (is := [.iconst 4]) (pc2 := 99) (L2 := [(2, v0), (2, v1)]) (S2 := [(0, 4), (0, u1)]) (h2 := h) (by decide +kernel) rfl trivial ?_
  obtain ⟨ha, hb⟩ := bite hx
  clear hx
  refine Ev.br (i := .if_icmp .ne 36) (len := 3) (a := 102) (b := 135) (by decide +kernel) rfl Iff.rfl (fun hc => ?_) (fun hc => ?_)
  · have hx := ha hc
    clear ha hb hc
    refine Ev.blk (is := [.aload_n 0, .ldc 8]) (pc2 := 105) (L2 := [(2, v0), (2, v1)]) (S2 := [(3, 8), (2, v0)]) (h2 := h) (by decide +kernel) rfl trivial ?_
    obtain ⟨_, hg, -, hx⟩ := bgd hx
    obtain ⟨h3, hc, hx⟩ := bca hx
    refine Ev.call (args := [(2, v0), (3, 8)]) (S2 := []) (r1 := none) (h1 := h3) (i := .invokevirtual 127) (by decide +kernel) rfl rfl (Nat.le_of_ble_eq_true rfl) (Or.inr (Or.inl ⟨rfl, hg, by decide +kernel⟩)) (x_Speller_writeWord (by omega) hc) ?_
    obtain ⟨u4, hg, he, hx⟩ := bgd hx
    refine Ev.blk (is := [.aload_n 0, .aload_n 1, .getfield 3200]) (pc2 := 113) (L2 := [(2, v0), (2, v1)]) (S2 := [(2, u4), (2, v0)]) (h2 := h3) (by decide +kernel) (by subst he; rfl) (by exact hg) ?_
    clear hg he
    refine Ev.blk (is := [.iconst 1]) (pc2 := 114) (L2 := [(2, v0), (2, v1)]) (S2 := [(0, 1), (2, u4), (2, v0)]) (h2 := h3) (by decide +kernel) rfl trivial ?_
    obtain ⟨_, hg, -, hx⟩ := bgd hx
    obtain ⟨h6, hc, hx⟩ := bca hx
    refine Ev.call (args := [(2, v0), (2, u4), (0, 1)]) (S2 := []) (r1 := none) (h1 := h6) (i := .invokevirtual 131) (by decide +kernel) rfl rfl (Nat.le_of_ble_eq_true rfl) (Or.inr (Or.inl ⟨rfl, hg, by decide +kernel⟩)) (x_Speller_writeRows (by omega) hc) ?_
    refine Ev.blk (is := [.aload_n 0, .ldc 9]) (pc2 := 120) (L2 := [(2, v0), (2, v1)]) (S2 := [(3, 9), (2, v0)]) (h2 := h6) (by decide +kernel) rfl trivial ?_
    obtain ⟨_, hg, -, hx⟩ := bgd hx
    obtain ⟨h8, hc, hx⟩ := bca hx
    refine Ev.call (args := [(2, v0), (3, 9)]) (S2 := []) (r1 := none) (h1 := h8) (i := .invokevirtual 127) (by decide +kernel) rfl rfl (Nat.le_of_ble_eq_true rfl) (Or.inr (Or.inl ⟨rfl, hg, by decide +kernel⟩)) (x_Speller_writeWord (by omega) hc) ?_
    obtain ⟨u9, hg, he, hx⟩ := bgd hx
    refine Ev.blk (is := [.aload_n 0, .aload_n 1, .getfield 3201]) (pc2 := 128) (L2 := [(2, v0), (2, v1)]) (S2 := [(2, u9), (2, v0)]) (h2 := h8) (by decide +kernel) (by subst he; rfl) (by exact hg) ?_
    clear hg he
    refine Ev.blk (is := [.iconst 0]) (pc2 := 129) (L2 := [(2, v0), (2, v1)]) (S2 := [(0, 0), (2, u9), (2, v0)]) (h2 := h8) (by decide +kernel) rfl trivial ?_
    obtain ⟨_, hg, -, hx⟩ := bgd hx
    obtain ⟨h11, hc, hx⟩ := bca hx
    refine Ev.call (args := [(2, v0), (2, u9), (0, 0)]) (S2 := []) (r1 := none) (h1 := h11) (i := .invokevirtual 131) (by decide +kernel) rfl rfl (Nat.le_of_ble_eq_true rfl) (Or.inr (Or.inl ⟨rfl, hg, by decide +kernel⟩)) (x_Speller_writeRows (by omega) hc) ?_
    refine Ev.jp (i := .goto 46) (len := 3) (pc2 := 178) (by decide +kernel) rfl ?_
    refine Ev.wk (L2 := [(2, v0), (9, 0)]) (wkL_of ⟨Or.inl rfl, ⟨Or.inr rfl, trivial⟩⟩) ?_
    exact y_Speller_write_178 hd v0 h11 _ hx
  · have hx := hb hc
    clear ha hb hc
    obtain ⟨u12, hg, he, hx⟩ := bgd hx
    refine Ev.blk (is := [.aload_n 1, .getfield 3003]) (pc2 := 139) (L2 := [(2, v0), (2, v1)]) (S2 := [(0, u12)]) (h2 := h) (by decide +kernel) (by subst he; rfl) (by exact hg) ?_
    clear hg he
    obtain ⟨ha, hb⟩ := bite hx
    clear hx
    refine Ev.br (i := .ifCond .eq 39) (len := 3) (a := 178) (b := 142) (by decide +kernel) rfl Iff.rfl (fun hc => ?_) (fun hc => ?_)
    · have hx := ha hc
      clear ha hb hc
      refine Ev.wk (L2 := [(2, v0), (9, 0)]) (wkL_of ⟨Or.inl rfl, ⟨Or.inr rfl, trivial⟩⟩) ?_
      exact y_Speller_write_178 hd v0 h _ hx
    · have hx := hb hc
      clear ha hb hc
      refine Ev.blk (is := [.aload_n 0, .ldc 6]) (pc2 := 145) (L2 := [(2, v0), (2, v1)]) (S2 := [(3, 6), (2, v0)]) (h2 := h) (by decide +kernel) rfl trivial ?_
      obtain ⟨_, hg, -, hx⟩ := bgd hx
      obtain ⟨h14, hc, hx⟩ := bca hx
      refine Ev.call (args := [(2, v0), (3, 6)]) (S2 := []) (r1 := none) (h1 := h14) (i := .invokevirtual 127) (by decide +kernel) rfl rfl (Nat.le_of_ble_eq_true rfl) (Or.inr (Or.inl ⟨rfl, hg, by decide +kernel⟩)) (x_Speller_writeWord (by omega) hc) ?_
      obtain ⟨u15, hg, he, hx⟩ := bgd hx
      refine Ev.blk (is := [.aload_n 0, .aload_n 1, .getfield 3200]) (pc2 := 153) (L2 := [(2, v0), (2, v1)]) (S2 := [(2, u15), (2, v0)]) (h2 := h14) (by decide +kernel) (by subst he; rfl) (by exact hg) ?_
      clear hg he
      obtain ⟨u16, hg, he, hx⟩ := bgd hx
      refine Ev.blk (is := [.aload_n 1, .getfield 3003]) (pc2 := 157) (L2 := [(2, v0), (2, v1)]) (S2 := [(0, u16), (2, u15), (2, v0)]) (h2 := h14) (by decide +kernel) (by subst he; rfl) (by exact hg) ?_
      clear hg he
      refine Ev.blk (is := [.iconst 2]) (pc2 := 158) (L2 := [(2, v0), (2, v1)]) (S2 := [(0, 2), (0, u16), (2, u15), (2, v0)]) (h2 := h14) (by decide +kernel) rfl trivial ?_
      obtain ⟨ha, hb⟩ := bite hx
      clear hx
      refine Ev.br (i := .if_icmp .ne 7) (len := 3) (a := 161) (b := 165) (by decide +kernel) rfl Iff.rfl (fun hc => ?_) (fun hc => ?_)
      · have hx := ha hc
        clear ha hb hc
        refine Ev.blk (is := [.iconst 1]) (pc2 := 162) (L2 := [(2, v0), (2, v1)]) (S2 := [(0, 1), (2, u15), (2, v0)]) (h2 := h14) (by decide +kernel) rfl trivial ?_
        refine Ev.jp (i := .goto 4) (len := 3) (pc2 := 166) (by decide +kernel) rfl ?_
        exact y_Speller_write_166 hd v0 v1 1 u15 v0 h14 _ hx
      · have hx := hb hc
        clear ha hb hc
        refine Ev.blk (is := [.iconst 0]) (pc2 := 166) (L2 := [(2, v0), (2, v1)]) (S2 := [(0, 0), (2, u15), (2, v0)]) (h2 := h14) (by decide +kernel) rfl trivial ?_
        exact y_Speller_write_166 hd v0 v1 0 u15 v0 h14 _ hx
theorem y_Speller_write_91 {sc : AS} {d : Nat} (hd : 5 ≤ d) : ∀ (v0 : Int) (v1 : Int) (s0 : Int) (s1 : Int) (h : AH) (r : AH), Speller_write_91 v0 v1 s0 s1 h = some r → Ev sc d 126 91 [(2, v0), (2, v1)] [(0, s0), (2, s1)] h none r := by
  intro v0 v1 s0 s1 h r hx
  unfold Speller_write_91 at hx
  obtain ⟨_, hg, -, hx⟩ := bgd hx
  obtain ⟨h2, hc, hx⟩ := bca hx
  refine Ev.call (args := [(2, s1), (0, s0)]) (S2 := []) (r1 := none) (h1 := h2) (i := .invokevirtual 130) (by decide +kernel) rfl rfl (Nat.le_of_ble_eq_true rfl) (Or.inr (Or.inl ⟨rfl, hg, by decide +kernel⟩)) (x_Speller_writeInt (by omega) hc) ?_
  exact y_Speller_write_94 hd v0 v1 h2 _ hx
theorem y_Speller_write_53 {sc : AS} {d : Nat} (hd : 5 ≤ d) : ∀ (v0 : Int) (v1 : Int) (h : AH) (r : AH), Speller_write_53 v0 v1 h = some r → Ev sc d 126 53 [(2, v0), (2, v1)] [] h none r := by
  intro v0 v1 h r hx
  unfold Speller_write_53 at hx
  obtain ⟨u1, hg, he, hx⟩ := bgd hx
  refine Ev.blk (is := [.aload_n 1, .getfield 3003]) (pc2 := 57) (L2 := [(2, v0), (2, v1)]) (S2 := [(0, u1)]) (h2 := h) (by decide +kernel) (by subst he; rfl) (by exact hg) ?_
  clear hg he
  refine Ev.blk (is := [.iconst 1]) (pc2 := 58) (L2 := [(2, v0), (2, v1)]) (S2 := [(0, 1), (0, u1)]) (h2 := h) (by decide +kernel) rfl trivial ?_
  obtain ⟨ha, hb⟩ := bite hx
  clear hx
  refine Ev.br (i := .if_icmp .ne 36) (len := 3) (a := 61) (b := 94) (by decide +kernel) rfl Iff.rfl (fun hc => ?_) (fun hc => ?_)
  · have hx := ha hc
    clear ha hb hc
    refine Ev.blk (is := [.aload_n 0, .ldc 5]) (pc2 := 64) (L2 := [(2, v0), (2, v1)]) (S2 := [(3, 5), (2, v0)]) (h2 := h) (by decide +kernel) rfl trivial ?_
    obtain ⟨_, hg, -, hx⟩ := bgd hx
    obtain ⟨h3, hc, hx⟩ := bca hx
    refine Ev.call (args := [(2, v0), (3, 5)]) (S2 := []) (r1 := none) (h1 := h3) (i := .invokevirtual 127) (by decide +kernel) rfl rfl (Nat.le_of_ble_eq_true rfl) (Or.inr (Or.inl ⟨rfl, hg, by decide +kernel⟩)) (x_Speller_writeWord (by omega) hc) ?_
    obtain ⟨u4, hg, he, hx⟩ := bgd hx
    refine Ev.blk (is := [.aload_n 0, .aload_n 1, .getfield 3200]) (pc2 := 72) (L2 := [(2, v0), (2, v1)]) (S2 := [(2, u4), (2, v0)]) (h2 := h3) (by decide +kernel) (by subst he; rfl) (by exact hg) ?_
    clear hg he
    obtain ⟨u5, hg, he, hx⟩ := bgd hx
    refine Ev.blk (is := [.getfield 5001]) (pc2 := 75) (L2 := [(2, v0), (2, v1)]) (S2 := [(0, u5), (2, v0)]) (h2 := h3) (by decide +kernel) (by subst he; rfl) (by exact hg) ?_
    clear hg he
    obtain ⟨ha, hb⟩ := bite hx
    clear hx
    refine Ev.br (i := .ifCond .le 15) (len := 3) (a := 78) (b := 90) (by decide +kernel) rfl Iff.rfl (fun hc => ?_) (fun hc => ?_)
    · have hx := ha hc
      clear ha hb hc
      obtain ⟨u6, hg, he, hx⟩ := bgd hx
      refine Ev.blk (is := [.aload_n 1, .getfield 3200]) (pc2 := 82) (L2 := [(2, v0), (2, v1)]) (S2 := [(2, u6), (2, v0)]) (h2 := h3) (by decide +kernel) (by subst he; rfl) (by exact hg) ?_
      clear hg he
      refine Ev.blk (is := [.iconst 0, .iconst 2]) (pc2 := 84) (L2 := [(2, v0), (2, v1)]) (S2 := [(0, 2), (0, 0), (2, u6), (2, v0)]) (h2 := h3) (by decide +kernel) rfl trivial ?_
      obtain ⟨_, hg, -, hx⟩ := bgd hx
      obtain ⟨u7, hc, hx⟩ := bca hx
      refine Ev.call (args := [(2, u6), (0, 0), (0, 2)]) (S2 := [(2, v0)]) (r1 := (some (0, u7))) (h1 := h3) (i := .invokevirtual 34) (by decide +kernel) rfl rfl (Nat.le_of_ble_eq_true rfl) (Or.inr (Or.inl ⟨rfl, hg, by decide +kernel⟩)) (x_Side_cell (by omega) hc) ?_
      refine Ev.jp (i := .goto 4) (len := 3) (pc2 := 91) (by decide +kernel) rfl ?_
      exact y_Speller_write_91 hd v0 v1 u7 v0 h3 _ hx
    · have hx := hb hc
      clear ha hb hc
      refine Ev.blk (is := [.iconst 2]) (pc2 := 91) (L2 := [(2, v0), (2, v1)]) (S2 := [(0, 2), (2, v0)]) (h2 := h3) (by decide +kernel) rfl trivial ?_
      exact y_Speller_write_91 hd v0 v1 2 v0 h3 _ hx
  · have hx := hb hc
    clear ha hb hc
    exact y_Speller_write_94 hd v0 v1 h _ hx
theorem x_Speller_write {sc : AS} {d : Nat} (hd : 6 ≤ d) {v0 : Int} {v1 : Int} {h : AH} {r : AH} (hx : Speller_write v0 v1 h = some r) : Runs sc d 126 [(2, v0), (2, v1)] h none r := by
  obtain ⟨d, rfl⟩ : ∃ e, d = e + 1 := ⟨d - 1, by omega⟩
  have hd : 5 ≤ d := by omega
  unfold Speller_write at hx
  refine ⟨⟨aM_126, rfl, Nat.le_of_ble_eq_true rfl⟩, ?_⟩
  show Ev sc d 126 0 [(2, v0), (2, v1)] [] h none r
  obtain ⟨h1, hg, he, hx⟩ := bgd hx
  refine Ev.blk (is := [.aload_n 0, .iconst 0, .putfield 6001]) (pc2 := 5) (L2 := [(2, v0), (2, v1)]) (S2 := []) (h2 := h1) (by decide +kernel) (by subst he; rfl) (by exact hg) ?_
  clear hg he
  obtain ⟨u2, hg, he, hx⟩ := bgd hx
  refine Ev.blk (is := [.aload_n 0, .aload_n 1, .getfield 3003]) (pc2 := 10) (L2 := [(2, v0), (2, v1)]) (S2 := [(0, u2), (2, v0)]) (h2 := h1) (by decide +kernel) (by subst he; rfl) (by exact hg) ?_
  clear hg he
  obtain ⟨u3, hc, hx⟩ := bca hx
  refine Ev.call (args := [(0, u2)]) (S2 := [(2, v0)]) (r1 := (some (3, u3))) (h1 := h1) (i := .invokestatic 72) (by decide +kernel) rfl rfl (Nat.le_of_ble_eq_true rfl) (Or.inl rfl) (x_Speller_nameOf (by omega) hc) ?_
  obtain ⟨_, hg, -, hx⟩ := bgd hx
  obtain ⟨h5, hc, hx⟩ := bca hx
  refine Ev.call (args := [(2, v0), (3, u3)]) (S2 := []) (r1 := none) (h1 := h5) (i := .invokevirtual 127) (by decide +kernel) rfl rfl (Nat.le_of_ble_eq_true rfl) (Or.inr (Or.inl ⟨rfl, hg, by decide +kernel⟩)) (x_Speller_writeWord (by omega) hc) ?_
  obtain ⟨u6, hg, he, hx⟩ := bgd hx
  refine Ev.blk (is := [.aload_n 0, .aload_n 1, .getfield 3002]) (pc2 := 21) (L2 := [(2, v0), (2, v1)]) (S2 := [(0, u6), (2, v0)]) (h2 := h5) (by decide +kernel) (by subst he; rfl) (by exact hg) ?_
  clear hg he
  obtain ⟨_, hg, -, hx⟩ := bgd hx
  obtain ⟨h8, hc, hx⟩ := bca hx
  refine Ev.call (args := [(2, v0), (0, u6)]) (S2 := []) (r1 := none) (h1 := h8) (i := .invokevirtual 130) (by decide +kernel) rfl rfl (Nat.le_of_ble_eq_true rfl) (Or.inr (Or.inl ⟨rfl, hg, by decide +kernel⟩)) (x_Speller_writeInt (by omega) hc) ?_
  refine Ev.blk (is := [.aload_n 1]) (pc2 := 25) (L2 := [(2, v0), (2, v1)]) (S2 := [(2, v1)]) (h2 := h8) (by decide +kernel) rfl trivial ?_
  obtain ⟨_, hg, -, hx⟩ := bgd hx
  obtain ⟨u9, hc, hx⟩ := bca hx
  refine Ev.call (args := [(2, v1)]) (S2 := []) (r1 := (some (0, u9))) (h1 := h8) (i := .invokevirtual 47) (by decide +kernel) rfl rfl (Nat.le_of_ble_eq_true rfl) (Or.inr (Or.inl ⟨rfl, hg, by decide +kernel⟩)) (x_Line_hasPQ (by omega) hc) ?_
  obtain ⟨ha, hb⟩ := bite hx
  clear hx
  refine Ev.br (i := .ifCond .eq 25) (len := 3) (a := 53) (b := 31) (by decide +kernel) rfl Iff.rfl (fun hc => ?_) (fun hc => ?_)
  · have hx := ha hc
    clear ha hb hc
    exact y_Speller_write_53 hd v0 v1 h8 _ hx
  · have hx := hb hc
    clear ha hb hc
    refine Ev.blk (is := [.aload_n 0, .ldc 7]) (pc2 := 34) (L2 := [(2, v0), (2, v1)]) (S2 := [(3, 7), (2, v0)]) (h2 := h8) (by decide +kernel) rfl trivial ?_
    obtain ⟨_, hg, -, hx⟩ := bgd hx
    obtain ⟨h11, hc, hx⟩ := bca hx
    refine Ev.call (args := [(2, v0), (3, 7)]) (S2 := []) (r1 := none) (h1 := h11) (i := .invokevirtual 127) (by decide +kernel) rfl rfl (Nat.le_of_ble_eq_true rfl) (Or.inr (Or.inl ⟨rfl, hg, by decide +kernel⟩)) (x_Speller_writeWord (by omega) hc) ?_
    obtain ⟨u12, hg, he, hx⟩ := bgd hx
    refine Ev.blk (is := [.aload_n 0, .aload_n 1, .getfield 3004]) (pc2 := 42) (L2 := [(2, v0), (2, v1)]) (S2 := [(0, u12), (2, v0)]) (h2 := h11) (by decide +kernel) (by subst he; rfl) (by exact hg) ?_
    clear hg he
    obtain ⟨_, hg, -, hx⟩ := bgd hx
    obtain ⟨h14, hc, hx⟩ := bca hx
    refine Ev.call (args := [(2, v0), (0, u12)]) (S2 := []) (r1 := none) (h1 := h14) (i := .invokevirtual 130) (by decide +kernel) rfl rfl (Nat.le_of_ble_eq_true rfl) (Or.inr (Or.inl ⟨rfl, hg, by decide +kernel⟩)) (x_Speller_writeInt (by omega) hc) ?_
    obtain ⟨u15, hg, he, hx⟩ := bgd hx
    refine Ev.blk (is := [.aload_n 0, .aload_n 1, .getfield 3005]) (pc2 := 50) (L2 := [(2, v0), (2, v1)]) (S2 := [(0, u15), (2, v0)]) (h2 := h14) (by decide +kernel) (by subst he; rfl) (by exact hg) ?_
    clear hg he
    obtain ⟨_, hg, -, hx⟩ := bgd hx
    obtain ⟨h17, hc, hx⟩ := bca hx
    refine Ev.call (args := [(2, v0), (0, u15)]) (S2 := []) (r1 := none) (h1 := h17) (i := .invokevirtual 130) (by decide +kernel) rfl rfl (Nat.le_of_ble_eq_true rfl) (Or.inr (Or.inl ⟨rfl, hg, by decide +kernel⟩)) (x_Speller_writeInt (by omega) hc) ?_
    exact y_Speller_write_53 hd v0 v1 h17 _ hx
theorem x_X_spell {sc : AS} {d : Nat} (hd : 7 ≤ d) {v0 : Int} {v1 : Int} {v2 : Int} {h : AH} {r : (Int × AH)} (hx : X_spell v0 v1 v2 h = some r) : Runs sc d 125 [(2, v0), (0, v1), (0, v2)] h (some (0, r.1)) r.2 := by
  obtain ⟨d, rfl⟩ : ∃ e, d = e + 1 := ⟨d - 1, by omega⟩
  have hd : 6 ≤ d := by omega
  unfold X_spell at hx
  refine ⟨⟨aM_125, rfl, Nat.le_of_ble_eq_true rfl⟩, ?_⟩
  show Ev sc d 125 0 [(2, v0), (0, v1), (0, v2)] [] h (some (0, r.1)) r.2
  obtain ⟨u1, hg, he, hx⟩ := bgd hx
  refine Ev.blk (is := [.aload_n 0, .getfield 8200]) (pc2 := 4) (L2 := [(2, v0), (0, v1), (0, v2)]) (S2 := [(2, u1)]) (h2 := h) (by decide +kernel) (by subst he; rfl) (by exact hg) ?_
  clear hg he
  refine Ev.blk (is := [.iload_n 1]) (pc2 := 5) (L2 := [(2, v0), (0, v1), (0, v2)]) (S2 := [(0, v1), (2, u1)]) (h2 := h) (by decide +kernel) rfl trivial ?_
  obtain ⟨_, hg, -, hx⟩ := bgd hx
  obtain ⟨u2, hc, hx⟩ := bca hx
  refine Ev.call (args := [(2, u1), (0, v1)]) (S2 := []) (r1 := (some (0, u2))) (h1 := h) (i := .invokevirtual 13) (by decide +kernel) rfl rfl (Nat.le_of_ble_eq_true rfl) (Or.inr (Or.inl ⟨rfl, hg, by decide +kernel⟩)) (x_Ledger_has (by omega) hc) ?_
  obtain ⟨ha, hb⟩ := bite hx
  clear hx
  refine Ev.br (i := .ifCond .eq 8) (len := 3) (a := 16) (b := 11) (by decide +kernel) rfl Iff.rfl (fun hc => ?_) (fun hc => ?_)
  · have hx := ha hc
    clear ha hb hc
    refine Ev.blk (is := [.iconst (-1)]) (pc2 := 17) (L2 := [(2, v0), (0, v1), (0, v2)]) (S2 := [(0, (-1))]) (h2 := h) (by decide +kernel) rfl trivial ?_
    cases hx
    exact Ev.ret (i := .ireturn) (len := 1) (by decide +kernel) rfl (finOf (t := some .int) rfl (trivial))
  · have hx := hb hc
    clear ha hb hc
    refine Ev.blk (is := [.iload_n 2, .iconst (-1)]) (pc2 := 13) (L2 := [(2, v0), (0, v1), (0, v2)]) (S2 := [(0, (-1)), (0, v2)]) (h2 := h) (by decide +kernel) rfl trivial ?_
    obtain ⟨ha, hb⟩ := bite hx
    clear hx
    refine Ev.br (i := .if_icmp .ge 5) (len := 3) (a := 16) (b := 18) (by decide +kernel) rfl Iff.rfl (fun hc => ?_) (fun hc => ?_)
    · have hx := ha hc
      clear ha hb hc
      refine Ev.blk (is := [.iconst (-1)]) (pc2 := 17) (L2 := [(2, v0), (0, v1), (0, v2)]) (S2 := [(0, (-1))]) (h2 := h) (by decide +kernel) rfl trivial ?_
      cases hx
      exact Ev.ret (i := .ireturn) (len := 1) (by decide +kernel) rfl (finOf (t := some .int) rfl (trivial))
    · have hx := hb hc
      clear ha hb hc
      obtain ⟨u3, hg, he, hx⟩ := bgd hx
      refine Ev.blk (is := [.aload_n 0, .getfield 8204]) (pc2 := 22) (L2 := [(2, v0), (0, v1), (0, v2)]) (S2 := [(2, u3)]) (h2 := h) (by decide +kernel) (by subst he; rfl) (by exact hg) ?_
      clear hg he
      obtain ⟨u4, hg, he, hx⟩ := bgd hx
      refine Ev.blk (is := [.aload_n 0, .getfield 8200]) (pc2 := 26) (L2 := [(2, v0), (0, v1), (0, v2)]) (S2 := [(2, u4), (2, u3)]) (h2 := h) (by decide +kernel) (by subst he; rfl) (by exact hg) ?_
      clear hg he
      obtain ⟨u5, hg, he, hx⟩ := bgd hx
      refine Ev.blk (is := [.getfield 2200]) (pc2 := 29) (L2 := [(2, v0), (0, v1), (0, v2)]) (S2 := [(2, u5), (2, u3)]) (h2 := h) (by decide +kernel) (by subst he; rfl) (by exact hg) ?_
      clear hg he
      obtain ⟨u6, hg, he, hx⟩ := bgd hx
      refine Ev.blk (is := [.iload_n 1, .aaload]) (pc2 := 31) (L2 := [(2, v0), (0, v1), (0, v2)]) (S2 := [(2, u6), (2, u3)]) (h2 := h) (by decide +kernel) (by subst he; rfl) (by exact hg) ?_
      clear hg he
      obtain ⟨_, hg, -, hx⟩ := bgd hx
      obtain ⟨h8, hc, hx⟩ := bca hx
      refine Ev.call (args := [(2, u3), (2, u6)]) (S2 := []) (r1 := none) (h1 := h8) (i := .invokevirtual 126) (by decide +kernel) rfl rfl (Nat.le_of_ble_eq_true rfl) (Or.inr (Or.inl ⟨rfl, hg, by decide +kernel⟩)) (x_Speller_write (by omega) hc) ?_
      refine Ev.blk (is := [.iload_n 2, .iconst (-1)]) (pc2 := 36) (L2 := [(2, v0), (0, v1), (0, v2)]) (S2 := [(0, (-1)), (0, v2)]) (h2 := h8) (by decide +kernel) rfl trivial ?_
      obtain ⟨ha, hb⟩ := bite hx
      clear hx
      refine Ev.br (i := .if_icmp .ne 11) (len := 3) (a := 39) (b := 47) (by decide +kernel) rfl Iff.rfl (fun hc => ?_) (fun hc => ?_)
      · have hx := ha hc
        clear ha hb hc
        obtain ⟨u9, hg, he, hx⟩ := bgd hx
        refine Ev.blk (is := [.aload_n 0, .getfield 8204]) (pc2 := 43) (L2 := [(2, v0), (0, v1), (0, v2)]) (S2 := [(2, u9)]) (h2 := h8) (by decide +kernel) (by subst he; rfl) (by exact hg) ?_
        clear hg he
        obtain ⟨u10, hg, he, hx⟩ := bgd hx
        refine Ev.blk (is := [.getfield 6001]) (pc2 := 46) (L2 := [(2, v0), (0, v1), (0, v2)]) (S2 := [(0, u10)]) (h2 := h8) (by decide +kernel) (by subst he; rfl) (by exact hg) ?_
        clear hg he
        cases hx
        exact Ev.ret (i := .ireturn) (len := 1) (by decide +kernel) rfl (finOf (t := some .int) rfl (trivial))
      · have hx := hb hc
        clear ha hb hc
        obtain ⟨u11, hg, he, hx⟩ := bgd hx
        refine Ev.blk (is := [.iload_n 2, .aload_n 0, .getfield 8204]) (pc2 := 52) (L2 := [(2, v0), (0, v1), (0, v2)]) (S2 := [(2, u11), (0, v2)]) (h2 := h8) (by decide +kernel) (by subst he; rfl) (by exact hg) ?_
        clear hg he
        obtain ⟨u12, hg, he, hx⟩ := bgd hx
        refine Ev.blk (is := [.getfield 6001]) (pc2 := 55) (L2 := [(2, v0), (0, v1), (0, v2)]) (S2 := [(0, u12), (0, v2)]) (h2 := h8) (by decide +kernel) (by subst he; rfl) (by exact hg) ?_
        clear hg he
        obtain ⟨ha, hb⟩ := bite hx
        clear hx
        refine Ev.br (i := .if_icmp .ge 15) (len := 3) (a := 58) (b := 70) (by decide +kernel) rfl Iff.rfl (fun hc => ?_) (fun hc => ?_)
        · have hx := ha hc
          clear ha hb hc
          obtain ⟨u13, hg, he, hx⟩ := bgd hx
          refine Ev.blk (is := [.aload_n 0, .getfield 8204]) (pc2 := 62) (L2 := [(2, v0), (0, v1), (0, v2)]) (S2 := [(2, u13)]) (h2 := h8) (by decide +kernel) (by subst he; rfl) (by exact hg) ?_
          clear hg he
          obtain ⟨u14, hg, he, hx⟩ := bgd hx
          refine Ev.blk (is := [.getfield 6200]) (pc2 := 65) (L2 := [(2, v0), (0, v1), (0, v2)]) (S2 := [(2, u14)]) (h2 := h8) (by decide +kernel) (by subst he; rfl) (by exact hg) ?_
          clear hg he
          obtain ⟨u15, hg, he, hx⟩ := bgd hx
          refine Ev.blk (is := [.iload_n 2, .caload]) (pc2 := 67) (L2 := [(2, v0), (0, v1), (0, v2)]) (S2 := [(0, u15)]) (h2 := h8) (by decide +kernel) (by subst he; rfl) (by exact hg) ?_
          clear hg he
          refine Ev.jp (i := .goto 4) (len := 3) (pc2 := 71) (by decide +kernel) rfl ?_
          cases hx
          exact Ev.ret (i := .ireturn) (len := 1) (by decide +kernel) rfl (finOf (t := some .int) rfl (trivial))
        · have hx := hb hc
          clear ha hb hc
          refine Ev.blk (is := [.iconst (-1)]) (pc2 := 71) (L2 := [(2, v0), (0, v1), (0, v2)]) (S2 := [(0, (-1))]) (h2 := h8) (by decide +kernel) rfl trivial ?_
          cases hx
          exact Ev.ret (i := .ireturn) (len := 1) (by decide +kernel) rfl (finOf (t := some .int) rfl (trivial))
theorem x_X_proof {sc : AS} {d : Nat} (hd : 4 ≤ d) {v0 : Int} {v1 : Int} {h : AH} {r : Int} (hx : X_proof v0 v1 h = some r) : Runs sc d 132 [(2, v0), (0, v1)] h (some (0, r)) h := by
  obtain ⟨d, rfl⟩ : ∃ e, d = e + 1 := ⟨d - 1, by omega⟩
  have hd : 3 ≤ d := by omega
  unfold X_proof at hx
  refine ⟨⟨aM_132, rfl, Nat.le_of_ble_eq_true rfl⟩, ?_⟩
  show Ev sc d 132 0 [(2, v0), (0, v1), (9, 0)] [] h (some (0, r)) h
  refine Ev.blk (is := [.iload_n 1]) (pc2 := 1) (L2 := [(2, v0), (0, v1), (9, 0)]) (S2 := [(0, v1)]) (h2 := h) (by decide +kernel) rfl trivial ?_
  obtain ⟨u1, hc, hx⟩ := bca hx
  refine Ev.call (args := [(0, v1)]) (S2 := []) (r1 := (some (0, u1))) (h1 := h) (i := .invokestatic 10) (by decide +kernel) rfl rfl (Nat.le_of_ble_eq_true rfl) (Or.inl rfl) (x_Arithmetic_isNumber (by omega) hc) ?_
  obtain ⟨ha, hb⟩ := bite hx
  clear hx
  refine Ev.br (i := .ifCond .ne 5) (len := 3) (a := 7) (b := 9) (by decide +kernel) rfl Iff.rfl (fun hc => ?_) (fun hc => ?_)
  · have hx := ha hc
    clear ha hb hc
    refine Ev.blk (is := [.iconst (-1)]) (pc2 := 8) (L2 := [(2, v0), (0, v1), (9, 0)]) (S2 := [(0, (-1))]) (h2 := h) (by decide +kernel) rfl trivial ?_
    cases hx
    exact Ev.ret (i := .ireturn) (len := 1) (by decide +kernel) rfl (finOf (t := some .int) rfl (trivial))
  · have hx := hb hc
    clear ha hb hc
    obtain ⟨u2, hg, he, hx⟩ := bgd hx
    refine Ev.blk (is := [.aload_n 0, .getfield 8200]) (pc2 := 13) (L2 := [(2, v0), (0, v1), (9, 0)]) (S2 := [(2, u2)]) (h2 := h) (by decide +kernel) (by subst he; rfl) (by exact hg) ?_
    clear hg he
    refine Ev.blk (is := [.iload_n 1]) (pc2 := 14) (L2 := [(2, v0), (0, v1), (9, 0)]) (S2 := [(0, v1), (2, u2)]) (h2 := h) (by decide +kernel) rfl trivial ?_
    obtain ⟨_, hg, -, hx⟩ := bgd hx
    obtain ⟨u3, hc, hx⟩ := bca hx
    refine Ev.call (args := [(2, u2), (0, v1)]) (S2 := []) (r1 := (some (0, u3))) (h1 := h) (i := .invokevirtual 53) (by decide +kernel) rfl rfl (Nat.le_of_ble_eq_true rfl) (Or.inr (Or.inl ⟨rfl, hg, by decide +kernel⟩)) (x_Ledger_leastFor (by omega) hc) ?_
    refine Ev.blk (is := [.istore_n 2, .iload_n 2]) (pc2 := 19) (L2 := [(2, v0), (0, v1), (0, u3)]) (S2 := [(0, u3)]) (h2 := h) (by decide +kernel) rfl trivial ?_
    obtain ⟨ha, hb⟩ := bite hx
    clear hx
    refine Ev.br (i := .ifCond .lt 7) (len := 3) (a := 26) (b := 22) (by decide +kernel) rfl Iff.rfl (fun hc => ?_) (fun hc => ?_)
    · have hx := ha hc
      clear ha hb hc
      refine Ev.blk (is := [.sipush (-2)]) (pc2 := 28) (L2 := [(2, v0), (0, v1), (0, u3)]) (S2 := [(0, (-2))]) (h2 := h) (by decide +kernel) rfl trivial ?_
      cases hx
      exact Ev.ret (i := .ireturn) (len := 1) (by decide +kernel) rfl (finOf (t := some .int) rfl (trivial))
    · have hx := hb hc
      clear ha hb hc
      refine Ev.blk (is := [.iload_n 2]) (pc2 := 23) (L2 := [(2, v0), (0, v1), (0, u3)]) (S2 := [(0, u3)]) (h2 := h) (by decide +kernel) rfl trivial ?_
      refine Ev.jp (i := .goto 5) (len := 3) (pc2 := 28) (by decide +kernel) rfl ?_
      cases hx
      exact Ev.ret (i := .ireturn) (len := 1) (by decide +kernel) rfl (finOf (t := some .int) rfl (trivial))
theorem x_X_prime {sc : AS} {d : Nat} (hd : 5 ≤ d) {v0 : Int} {v1 : Int} {v2 : Int} {h : AH} {r : (Int × AH)} (hx : X_prime v0 v1 v2 h = some r) : Runs sc d 133 [(2, v0), (0, v1), (0, v2)] h (some (0, r.1)) r.2 := by
  obtain ⟨d, rfl⟩ : ∃ e, d = e + 1 := ⟨d - 1, by omega⟩
  have hd : 4 ≤ d := by omega
  unfold X_prime at hx
  refine ⟨⟨aM_133, rfl, Nat.le_of_ble_eq_true rfl⟩, ?_⟩
  show Ev sc d 133 0 [(2, v0), (0, v1), (0, v2)] [] h (some (0, r.1)) r.2
  refine Ev.blk (is := [.iload_n 1]) (pc2 := 1) (L2 := [(2, v0), (0, v1), (0, v2)]) (S2 := [(0, v1)]) (h2 := h) (by decide +kernel) rfl trivial ?_
  obtain ⟨u1, hc, hx⟩ := bca hx
  refine Ev.call (args := [(0, v1)]) (S2 := []) (r1 := (some (0, u1))) (h1 := h) (i := .invokestatic 10) (by decide +kernel) rfl rfl (Nat.le_of_ble_eq_true rfl) (Or.inl rfl) (x_Arithmetic_isNumber (by omega) hc) ?_
  obtain ⟨ha, hb⟩ := bite hx
  clear hx
  refine Ev.br (i := .ifCond .eq 8) (len := 3) (a := 12) (b := 7) (by decide +kernel) rfl Iff.rfl (fun hc => ?_) (fun hc => ?_)
  · have hx := ha hc
    clear ha hb hc
    refine Ev.blk (is := [.iconst (-1)]) (pc2 := 13) (L2 := [(2, v0), (0, v1), (0, v2)]) (S2 := [(0, (-1))]) (h2 := h) (by decide +kernel) rfl trivial ?_
    cases hx
    exact Ev.ret (i := .ireturn) (len := 1) (by decide +kernel) rfl (finOf (t := some .int) rfl (trivial))
  · have hx := hb hc
    clear ha hb hc
    refine Ev.blk (is := [.iload_n 2, .iconst (-1)]) (pc2 := 9) (L2 := [(2, v0), (0, v1), (0, v2)]) (S2 := [(0, (-1)), (0, v2)]) (h2 := h) (by decide +kernel) rfl trivial ?_
    obtain ⟨ha, hb⟩ := bite hx
    clear hx
    refine Ev.br (i := .if_icmp .ge 5) (len := 3) (a := 12) (b := 14) (by decide +kernel) rfl Iff.rfl (fun hc => ?_) (fun hc => ?_)
    · have hx := ha hc
      clear ha hb hc
      refine Ev.blk (is := [.iconst (-1)]) (pc2 := 13) (L2 := [(2, v0), (0, v1), (0, v2)]) (S2 := [(0, (-1))]) (h2 := h) (by decide +kernel) rfl trivial ?_
      cases hx
      exact Ev.ret (i := .ireturn) (len := 1) (by decide +kernel) rfl (finOf (t := some .int) rfl (trivial))
    · have hx := hb hc
      clear ha hb hc
      obtain ⟨u2, hg, he, hx⟩ := bgd hx
      refine Ev.blk (is := [.aload_n 0, .getfield 8205]) (pc2 := 18) (L2 := [(2, v0), (0, v1), (0, v2)]) (S2 := [(2, u2)]) (h2 := h) (by decide +kernel) (by subst he; rfl) (by exact hg) ?_
      clear hg he
      refine Ev.blk (is := [.iload_n 1]) (pc2 := 19) (L2 := [(2, v0), (0, v1), (0, v2)]) (S2 := [(0, v1), (2, u2)]) (h2 := h) (by decide +kernel) rfl trivial ?_
      obtain ⟨_, hg, -, hx⟩ := bgd hx
      obtain ⟨h4, hc, hx⟩ := bca hx
      refine Ev.call (args := [(2, u2), (0, v1)]) (S2 := []) (r1 := none) (h1 := h4) (i := .invokevirtual 23) (by decide +kernel) rfl rfl (Nat.le_of_ble_eq_true rfl) (Or.inr (Or.inl ⟨rfl, hg, by decide +kernel⟩)) (x_Factors_split (by omega) hc) ?_
      refine Ev.blk (is := [.iload_n 2, .iconst (-1)]) (pc2 := 24) (L2 := [(2, v0), (0, v1), (0, v2)]) (S2 := [(0, (-1)), (0, v2)]) (h2 := h4) (by decide +kernel) rfl trivial ?_
      obtain ⟨ha, hb⟩ := bite hx
      clear hx
      refine Ev.br (i := .if_icmp .ne 11) (len := 3) (a := 27) (b := 35) (by decide +kernel) rfl Iff.rfl (fun hc => ?_) (fun hc => ?_)
      · have hx := ha hc
        clear ha hb hc
        obtain ⟨u5, hg, he, hx⟩ := bgd hx
        refine Ev.blk (is := [.aload_n 0, .getfield 8205]) (pc2 := 31) (L2 := [(2, v0), (0, v1), (0, v2)]) (S2 := [(2, u5)]) (h2 := h4) (by decide +kernel) (by subst he; rfl) (by exact hg) ?_
        clear hg he
        obtain ⟨u6, hg, he, hx⟩ := bgd hx
        refine Ev.blk (is := [.getfield 2]) (pc2 := 34) (L2 := [(2, v0), (0, v1), (0, v2)]) (S2 := [(0, u6)]) (h2 := h4) (by decide +kernel) (by subst he; rfl) (by exact hg) ?_
        clear hg he
        cases hx
        exact Ev.ret (i := .ireturn) (len := 1) (by decide +kernel) rfl (finOf (t := some .int) rfl (trivial))
      · have hx := hb hc
        clear ha hb hc
        obtain ⟨u7, hg, he, hx⟩ := bgd hx
        refine Ev.blk (is := [.iload_n 2, .aload_n 0, .getfield 8205]) (pc2 := 40) (L2 := [(2, v0), (0, v1), (0, v2)]) (S2 := [(2, u7), (0, v2)]) (h2 := h4) (by decide +kernel) (by subst he; rfl) (by exact hg) ?_
        clear hg he
        obtain ⟨u8, hg, he, hx⟩ := bgd hx
        refine Ev.blk (is := [.getfield 2]) (pc2 := 43) (L2 := [(2, v0), (0, v1), (0, v2)]) (S2 := [(0, u8), (0, v2)]) (h2 := h4) (by decide +kernel) (by subst he; rfl) (by exact hg) ?_
        clear hg he
        obtain ⟨ha, hb⟩ := bite hx
        clear hx
        refine Ev.br (i := .if_icmp .ge 15) (len := 3) (a := 46) (b := 58) (by decide +kernel) rfl Iff.rfl (fun hc => ?_) (fun hc => ?_)
        · have hx := ha hc
          clear ha hb hc
          obtain ⟨u9, hg, he, hx⟩ := bgd hx
          refine Ev.blk (is := [.aload_n 0, .getfield 8205]) (pc2 := 50) (L2 := [(2, v0), (0, v1), (0, v2)]) (S2 := [(2, u9)]) (h2 := h4) (by decide +kernel) (by subst he; rfl) (by exact hg) ?_
          clear hg he
          obtain ⟨u10, hg, he, hx⟩ := bgd hx
          refine Ev.blk (is := [.getfield 200]) (pc2 := 53) (L2 := [(2, v0), (0, v1), (0, v2)]) (S2 := [(2, u10)]) (h2 := h4) (by decide +kernel) (by subst he; rfl) (by exact hg) ?_
          clear hg he
          obtain ⟨u11, hg, he, hx⟩ := bgd hx
          refine Ev.blk (is := [.iload_n 2, .iaload]) (pc2 := 55) (L2 := [(2, v0), (0, v1), (0, v2)]) (S2 := [(0, u11)]) (h2 := h4) (by decide +kernel) (by subst he; rfl) (by exact hg) ?_
          clear hg he
          refine Ev.jp (i := .goto 4) (len := 3) (pc2 := 59) (by decide +kernel) rfl ?_
          cases hx
          exact Ev.ret (i := .ireturn) (len := 1) (by decide +kernel) rfl (finOf (t := some .int) rfl (trivial))
        · have hx := hb hc
          clear ha hb hc
          refine Ev.blk (is := [.iconst (-1)]) (pc2 := 59) (L2 := [(2, v0), (0, v1), (0, v2)]) (S2 := [(0, (-1))]) (h2 := h4) (by decide +kernel) rfl trivial ?_
          cases hx
          exact Ev.ret (i := .ireturn) (len := 1) (by decide +kernel) rfl (finOf (t := some .int) rfl (trivial))
theorem x_X_often {sc : AS} {d : Nat} (hd : 2 ≤ d) {v0 : Int} {v1 : Int} {v2 : Int} {h : AH} {r : Int} (hx : X_often v0 v1 v2 = some r) : Runs sc d 134 [(2, v0), (0, v1), (0, v2)] h (some (0, r)) h := by
  obtain ⟨d, rfl⟩ : ∃ e, d = e + 1 := ⟨d - 1, by omega⟩
  have hd : 1 ≤ d := by omega
  unfold X_often at hx
  refine ⟨⟨aM_134, rfl, Nat.le_of_ble_eq_true rfl⟩, ?_⟩
  show Ev sc d 134 0 [(2, v0), (0, v1), (0, v2)] [] h (some (0, r)) h
  refine Ev.blk (is := [.iload_n 1]) (pc2 := 1) (L2 := [(2, v0), (0, v1), (0, v2)]) (S2 := [(0, v1)]) (h2 := h) (by decide +kernel) rfl trivial ?_
  obtain ⟨u1, hc, hx⟩ := bca hx
  refine Ev.call (args := [(0, v1)]) (S2 := []) (r1 := (some (0, u1))) (h1 := h) (i := .invokestatic 10) (by decide +kernel) rfl rfl (Nat.le_of_ble_eq_true rfl) (Or.inl rfl) (x_Arithmetic_isNumber (by omega) hc) ?_
  obtain ⟨ha, hb⟩ := bite hx
  clear hx
  refine Ev.br (i := .ifCond .eq 10) (len := 3) (a := 14) (b := 7) (by decide +kernel) rfl Iff.rfl (fun hc => ?_) (fun hc => ?_)
  · have hx := ha hc
    clear ha hb hc
    refine Ev.blk (is := [.iconst (-1)]) (pc2 := 15) (L2 := [(2, v0), (0, v1), (0, v2)]) (S2 := [(0, (-1))]) (h2 := h) (by decide +kernel) rfl trivial ?_
    cases hx
    exact Ev.ret (i := .ireturn) (len := 1) (by decide +kernel) rfl (finOf (t := some .int) rfl (trivial))
  · have hx := hb hc
    clear ha hb hc
    refine Ev.blk (is := [.iload_n 2]) (pc2 := 8) (L2 := [(2, v0), (0, v1), (0, v2)]) (S2 := [(0, v2)]) (h2 := h) (by decide +kernel) rfl trivial ?_
    obtain ⟨u2, hc, hx⟩ := bca hx
    refine Ev.call (args := [(0, v2)]) (S2 := []) (r1 := (some (0, u2))) (h1 := h) (i := .invokestatic 10) (by decide +kernel) rfl rfl (Nat.le_of_ble_eq_true rfl) (Or.inl rfl) (x_Arithmetic_isNumber (by omega) hc) ?_
    obtain ⟨ha, hb⟩ := bite hx
    clear hx
    refine Ev.br (i := .ifCond .ne 5) (len := 3) (a := 14) (b := 16) (by decide +kernel) rfl Iff.rfl (fun hc => ?_) (fun hc => ?_)
    · have hx := ha hc
      clear ha hb hc
      refine Ev.blk (is := [.iconst (-1)]) (pc2 := 15) (L2 := [(2, v0), (0, v1), (0, v2)]) (S2 := [(0, (-1))]) (h2 := h) (by decide +kernel) rfl trivial ?_
      cases hx
      exact Ev.ret (i := .ireturn) (len := 1) (by decide +kernel) rfl (finOf (t := some .int) rfl (trivial))
    · have hx := hb hc
      clear ha hb hc
      refine Ev.blk (is := [.iload_n 1, .iload_n 2]) (pc2 := 18) (L2 := [(2, v0), (0, v1), (0, v2)]) (S2 := [(0, v2), (0, v1)]) (h2 := h) (by decide +kernel) rfl trivial ?_
      obtain ⟨u3, hc, hx⟩ := bca hx
      refine Ev.call (args := [(0, v1), (0, v2)]) (S2 := []) (r1 := (some (0, u3))) (h1 := h) (i := .invokestatic 25) (by decide +kernel) rfl rfl (Nat.le_of_ble_eq_true rfl) (Or.inl rfl) (x_Arithmetic_timesDivides (by omega) hc) ?_
      cases hx
      exact Ev.ret (i := .ireturn) (len := 1) (by decide +kernel) rfl (finOf (t := some .int) rfl (trivial))
theorem x_X_needs {sc : AS} {d : Nat} (hd : 7 ≤ d) {v0 : Int} {v1 : Int} {v2 : Int} {h : AH} {r : (Int × AH)} (hx : X_needs v0 v1 v2 h = some r) : Runs sc d 135 [(2, v0), (0, v1), (0, v2)] h (some (0, r.1)) r.2 := by
  obtain ⟨d, rfl⟩ : ∃ e, d = e + 1 := ⟨d - 1, by omega⟩
  have hd : 6 ≤ d := by omega
  unfold X_needs at hx
  refine ⟨⟨aM_135, rfl, Nat.le_of_ble_eq_true rfl⟩, ?_⟩
  show Ev sc d 135 0 [(2, v0), (0, v1), (0, v2), (9, 0)] [] h (some (0, r.1)) r.2
  refine Ev.blk (is := [.iload_n 1]) (pc2 := 1) (L2 := [(2, v0), (0, v1), (0, v2), (9, 0)]) (S2 := [(0, v1)]) (h2 := h) (by decide +kernel) rfl trivial ?_
  obtain ⟨u1, hc, hx⟩ := bca hx
  refine Ev.call (args := [(0, v1)]) (S2 := []) (r1 := (some (0, u1))) (h1 := h) (i := .invokestatic 10) (by decide +kernel) rfl rfl (Nat.le_of_ble_eq_true rfl) (Or.inl rfl) (x_Arithmetic_isNumber (by omega) hc) ?_
  obtain ⟨ha, hb⟩ := bite hx
  clear hx
  refine Ev.br (i := .ifCond .eq 13) (len := 3) (a := 17) (b := 7) (by decide +kernel) rfl Iff.rfl (fun hc => ?_) (fun hc => ?_)
  · have hx := ha hc
    clear ha hb hc
    refine Ev.blk (is := [.iconst (-1)]) (pc2 := 18) (L2 := [(2, v0), (0, v1), (0, v2), (9, 0)]) (S2 := [(0, (-1))]) (h2 := h) (by decide +kernel) rfl trivial ?_
    cases hx
    exact Ev.ret (i := .ireturn) (len := 1) (by decide +kernel) rfl (finOf (t := some .int) rfl (trivial))
  · have hx := hb hc
    clear ha hb hc
    refine Ev.blk (is := [.iload_n 2, .iconst 1]) (pc2 := 9) (L2 := [(2, v0), (0, v1), (0, v2), (9, 0)]) (S2 := [(0, 1), (0, v2)]) (h2 := h) (by decide +kernel) rfl trivial ?_
    obtain ⟨ha, hb⟩ := bite hx
    clear hx
    refine Ev.br (i := .if_icmp .lt 8) (len := 3) (a := 17) (b := 12) (by decide +kernel) rfl Iff.rfl (fun hc => ?_) (fun hc => ?_)
    · have hx := ha hc
      clear ha hb hc
      refine Ev.blk (is := [.iconst (-1)]) (pc2 := 18) (L2 := [(2, v0), (0, v1), (0, v2), (9, 0)]) (S2 := [(0, (-1))]) (h2 := h) (by decide +kernel) rfl trivial ?_
      cases hx
      exact Ev.ret (i := .ireturn) (len := 1) (by decide +kernel) rfl (finOf (t := some .int) rfl (trivial))
    · have hx := hb hc
      clear ha hb hc
      refine Ev.blk (is := [.iload_n 2, .iconst 4]) (pc2 := 14) (L2 := [(2, v0), (0, v1), (0, v2), (9, 0)]) (S2 := [(0, 4), (0, v2)]) (h2 := h) (by decide +kernel) rfl trivial ?_
      obtain ⟨ha, hb⟩ := bite hx
      clear hx
      refine Ev.br (i := .if_icmp .le 5) (len := 3) (a := 17) (b := 19) (by decide +kernel) rfl Iff.rfl (fun hc => ?_) (fun hc => ?_)
      · have hx := ha hc
        clear ha hb hc
        refine Ev.blk (is := [.iconst (-1)]) (pc2 := 18) (L2 := [(2, v0), (0, v1), (0, v2), (9, 0)]) (S2 := [(0, (-1))]) (h2 := h) (by decide +kernel) rfl trivial ?_
        cases hx
        exact Ev.ret (i := .ireturn) (len := 1) (by decide +kernel) rfl (finOf (t := some .int) rfl (trivial))
      · have hx := hb hc
        clear ha hb hc
        obtain ⟨u2, hg, he, hx⟩ := bgd hx
        refine Ev.blk (is := [.aload_n 0, .getfield 8201]) (pc2 := 23) (L2 := [(2, v0), (0, v1), (0, v2), (9, 0)]) (S2 := [(2, u2)]) (h2 := h) (by decide +kernel) (by subst he; rfl) (by exact hg) ?_
        clear hg he
        refine Ev.blk (is := [.iload_n 1, .iload_n 2]) (pc2 := 25) (L2 := [(2, v0), (0, v1), (0, v2), (9, 0)]) (S2 := [(0, v2), (0, v1), (2, u2)]) (h2 := h) (by decide +kernel) rfl trivial ?_
        obtain ⟨_, hg, -, hx⟩ := bgd hx
        obtain ⟨u3, hc, hx⟩ := bca hx
        refine Ev.call (args := [(2, u2), (0, v1), (0, v2)]) (S2 := []) (r1 := (some (2, u3.1))) (h1 := u3.2) (i := .invokevirtual 107) (by decide +kernel) rfl rfl (Nat.le_of_ble_eq_true rfl) (Or.inr (Or.inl ⟨rfl, hg, by decide +kernel⟩)) (x_Finder_laidAlone (by omega) hc) ?_
        refine Ev.blk (is := [.astore_n 3, .aload_n 3]) (pc2 := 30) (L2 := [(2, v0), (0, v1), (0, v2), (2, u3.1)]) (S2 := [(2, u3.1)]) (h2 := u3.2) (by decide +kernel) rfl trivial ?_
        obtain ⟨ha, hb⟩ := bite hx
        clear hx
        refine Ev.br (i := .ifnonnull 8) (len := 3) (a := 33) (b := 38) (by decide +kernel) rfl Iff.rfl (fun hc => ?_) (fun hc => ?_)
        · have hx := ha hc
          clear ha hb hc
          refine Ev.blk (is := [.sipush (-2)]) (pc2 := 35) (L2 := [(2, v0), (0, v1), (0, v2), (2, u3.1)]) (S2 := [(0, (-2))]) (h2 := u3.2) (by decide +kernel) rfl trivial ?_
          refine Ev.jp (i := .goto 21) (len := 3) (pc2 := 56) (by decide +kernel) rfl ?_
          cases hx
          exact Ev.ret (i := .ireturn) (len := 1) (by decide +kernel) rfl (finOf (t := some .int) rfl (trivial))
        · have hx := hb hc
          clear ha hb hc
          obtain ⟨u4, hg, he, hx⟩ := bgd hx
          refine Ev.blk (is := [.sipush 10, .aload_n 3, .getfield 3200]) (pc2 := 44) (L2 := [(2, v0), (0, v1), (0, v2), (2, u3.1)]) (S2 := [(2, u4), (0, 10)]) (h2 := u3.2) (by decide +kernel) (by subst he; rfl) (by exact hg) ?_
          clear hg he
          obtain ⟨u5, hg, he, hx⟩ := bgd hx
          refine Ev.blk (is := [.getfield 5001]) (pc2 := 47) (L2 := [(2, v0), (0, v1), (0, v2), (2, u3.1)]) (S2 := [(0, u5), (0, 10)]) (h2 := u3.2) (by decide +kernel) (by subst he; rfl) (by exact hg) ?_
          clear hg he
          obtain ⟨u6, hg, he, hx⟩ := bgd hx
          refine Ev.blk (is := [.imul, .aload_n 3, .getfield 3201]) (pc2 := 52) (L2 := [(2, v0), (0, v1), (0, v2), (2, u3.1)]) (S2 := [(2, u6), (0, w32 (10 * u5))]) (h2 := u3.2) (by decide +kernel) (by subst he; rfl) (by exact hg) ?_
          clear hg he
          obtain ⟨u7, hg, he, hx⟩ := bgd hx
          refine Ev.blk (is := [.getfield 5001]) (pc2 := 55) (L2 := [(2, v0), (0, v1), (0, v2), (2, u3.1)]) (S2 := [(0, u7), (0, w32 (10 * u5))]) (h2 := u3.2) (by decide +kernel) (by subst he; rfl) (by exact hg) ?_
          clear hg he
          refine Ev.blk (is := [.iadd]) (pc2 := 56) (L2 := [(2, v0), (0, v1), (0, v2), (2, u3.1)]) (S2 := [(0, w32 ((w32 (10 * u5)) + u7))]) (h2 := u3.2) (by decide +kernel) rfl trivial ?_
          cases hx
          exact Ev.ret (i := .ireturn) (len := 1) (by decide +kernel) rfl (finOf (t := some .int) rfl (trivial))
theorem y_X_fewest_18 {sc : AS} {d : Nat} (hd : 6 ≤ d) : ∀ (fu : Nat) (v0 : Int) (v1 : Int) (v2 : Int) (v3 : Int) (v4 : Int) (h : AH) (r : (Int × AH)), X_fewest_18 fu v0 v1 v2 v3 v4 h = some r → Ev sc d 136 18 [(2, v0), (0, v1), (0, v2), (0, v3), (0, v4), (9, 0)] [] h (some (0, r.1)) r.2 := by
  intro fu
  induction fu with
  | zero => intro v0 v1 v2 v3 v4 h r hx; unfold X_fewest_18 at hx; cases hx
  | succ fu ih =>
    intro v0 v1 v2 v3 v4 h r hx
    unfold X_fewest_18 at hx
    refine Ev.blk (is := [.iload 4, .iconst 4]) (pc2 := 21) (L2 := [(2, v0), (0, v1), (0, v2), (0, v3), (0, v4), (9, 0)]) (S2 := [(0, 4), (0, v4)]) (h2 := h) (by decide +kernel) rfl trivial ?_
    obtain ⟨ha, hb⟩ := bite hx
    clear hx
    refine Ev.br (i := .if_icmp .gt 44) (len := 3) (a := 65) (b := 24) (by decide +kernel) rfl Iff.rfl (fun hc => ?_) (fun hc => ?_)
    · have hx := ha hc
      clear ha hb hc
      refine Ev.blk (is := [.iload_n 2]) (pc2 := 66) (L2 := [(2, v0), (0, v1), (0, v2), (0, v3), (0, v4), (9, 0)]) (S2 := [(0, v2)]) (h2 := h) (by decide +kernel) rfl trivial ?_
      cases hx
      exact Ev.ret (i := .ireturn) (len := 1) (by decide +kernel) rfl (finOf (t := some .int) rfl (trivial))
    · have hx := hb hc
      clear ha hb hc
      obtain ⟨u1, hg, he, hx⟩ := bgd hx
      refine Ev.blk (is := [.aload_n 0, .getfield 8201]) (pc2 := 28) (L2 := [(2, v0), (0, v1), (0, v2), (0, v3), (0, v4), (9, 0)]) (S2 := [(2, u1)]) (h2 := h) (by decide +kernel) (by subst he; rfl) (by exact hg) ?_
      clear hg he
      refine Ev.blk (is := [.iload_n 1, .iload 4]) (pc2 := 31) (L2 := [(2, v0), (0, v1), (0, v2), (0, v3), (0, v4), (9, 0)]) (S2 := [(0, v4), (0, v1), (2, u1)]) (h2 := h) (by decide +kernel) rfl trivial ?_
      obtain ⟨_, hg, -, hx⟩ := bgd hx
      obtain ⟨u2, hc, hx⟩ := bca hx
      refine Ev.call (args := [(2, u1), (0, v1), (0, v4)]) (S2 := []) (r1 := (some (2, u2.1))) (h1 := u2.2) (i := .invokevirtual 107) (by decide +kernel) rfl rfl (Nat.le_of_ble_eq_true rfl) (Or.inr (Or.inl ⟨rfl, hg, by decide +kernel⟩)) (x_Finder_laidAlone (by omega) hc) ?_
      refine Ev.blk (is := [.astore 5, .aload 5]) (pc2 := 38) (L2 := [(2, v0), (0, v1), (0, v2), (0, v3), (0, v4), (2, u2.1)]) (S2 := [(2, u2.1)]) (h2 := u2.2) (by decide +kernel) rfl trivial ?_
      obtain ⟨ha, hb⟩ := bite hx
      clear hx
      refine Ev.br (i := .ifnull 21) (len := 3) (a := 59) (b := 41) (by decide +kernel) rfl Iff.rfl (fun hc => ?_) (fun hc => ?_)
      · have hx := ha hc
        clear ha hb hc
        refine Ev.blk (is := [.iinc 4 1]) (pc2 := 62) (L2 := [(2, v0), (0, v1), (0, v2), (0, v3), (0, w32 (v4 + 1)), (2, u2.1)]) (S2 := []) (h2 := u2.2) (by decide +kernel) rfl trivial ?_
        refine Ev.jp (i := .goto (-44)) (len := 3) (pc2 := 18) (by decide +kernel) rfl ?_
        refine Ev.wk (L2 := [(2, v0), (0, v1), (0, v2), (0, v3), (0, w32 (v4 + 1)), (9, 0)]) (wkL_of ⟨Or.inl rfl, ⟨Or.inl rfl, ⟨Or.inl rfl, ⟨Or.inl rfl, ⟨Or.inl rfl, ⟨Or.inr rfl, trivial⟩⟩⟩⟩⟩⟩) ?_
        exact ih v0 v1 v2 v3 (w32 (v4 + 1)) u2.2 _ hx
      · have hx := hb hc
        clear ha hb hc
        refine Ev.blk (is := [.aload 5]) (pc2 := 43) (L2 := [(2, v0), (0, v1), (0, v2), (0, v3), (0, v4), (2, u2.1)]) (S2 := [(2, u2.1)]) (h2 := u2.2) (by decide +kernel) rfl trivial ?_
        obtain ⟨_, hg, -, hx⟩ := bgd hx
        obtain ⟨u3, hc, hx⟩ := bca hx
        refine Ev.call (args := [(2, u2.1)]) (S2 := []) (r1 := (some (0, u3))) (h1 := u2.2) (i := .invokevirtual 51) (by decide +kernel) rfl rfl (Nat.le_of_ble_eq_true rfl) (Or.inr (Or.inl ⟨rfl, hg, by decide +kernel⟩)) (x_Line_rowCount (by omega) hc) ?_
        refine Ev.blk (is := [.iload_n 3]) (pc2 := 47) (L2 := [(2, v0), (0, v1), (0, v2), (0, v3), (0, v4), (2, u2.1)]) (S2 := [(0, v3), (0, u3)]) (h2 := u2.2) (by decide +kernel) rfl trivial ?_
        obtain ⟨ha, hb⟩ := bite hx
        clear hx
        refine Ev.br (i := .if_icmp .ge 12) (len := 3) (a := 50) (b := 59) (by decide +kernel) rfl Iff.rfl (fun hc => ?_) (fun hc => ?_)
        · have hx := ha hc
          clear ha hb hc
          refine Ev.blk (is := [.aload 5]) (pc2 := 52) (L2 := [(2, v0), (0, v1), (0, v2), (0, v3), (0, v4), (2, u2.1)]) (S2 := [(2, u2.1)]) (h2 := u2.2) (by decide +kernel) rfl trivial ?_
          obtain ⟨_, hg, -, hx⟩ := bgd hx
          obtain ⟨u4, hc, hx⟩ := bca hx
          refine Ev.call (args := [(2, u2.1)]) (S2 := []) (r1 := (some (0, u4))) (h1 := u2.2) (i := .invokevirtual 51) (by decide +kernel) rfl rfl (Nat.le_of_ble_eq_true rfl) (Or.inr (Or.inl ⟨rfl, hg, by decide +kernel⟩)) (x_Line_rowCount (by omega) hc) ?_
          refine Ev.blk (is := [.istore_n 3, .iload 4, .istore_n 2, .iinc 4 1]) (pc2 := 62) (L2 := [(2, v0), (0, v1), (0, v4), (0, u4), (0, w32 (v4 + 1)), (2, u2.1)]) (S2 := []) (h2 := u2.2) (by decide +kernel) rfl trivial ?_
          refine Ev.jp (i := .goto (-44)) (len := 3) (pc2 := 18) (by decide +kernel) rfl ?_
          refine Ev.wk (L2 := [(2, v0), (0, v1), (0, v4), (0, u4), (0, w32 (v4 + 1)), (9, 0)]) (wkL_of ⟨Or.inl rfl, ⟨Or.inl rfl, ⟨Or.inl rfl, ⟨Or.inl rfl, ⟨Or.inl rfl, ⟨Or.inr rfl, trivial⟩⟩⟩⟩⟩⟩) ?_
          exact ih v0 v1 v4 u4 (w32 (v4 + 1)) u2.2 _ hx
        · have hx := hb hc
          clear ha hb hc
          refine Ev.blk (is := [.iinc 4 1]) (pc2 := 62) (L2 := [(2, v0), (0, v1), (0, v2), (0, v3), (0, w32 (v4 + 1)), (2, u2.1)]) (S2 := []) (h2 := u2.2) (by decide +kernel) rfl trivial ?_
          refine Ev.jp (i := .goto (-44)) (len := 3) (pc2 := 18) (by decide +kernel) rfl ?_
          refine Ev.wk (L2 := [(2, v0), (0, v1), (0, v2), (0, v3), (0, w32 (v4 + 1)), (9, 0)]) (wkL_of ⟨Or.inl rfl, ⟨Or.inl rfl, ⟨Or.inl rfl, ⟨Or.inl rfl, ⟨Or.inl rfl, ⟨Or.inr rfl, trivial⟩⟩⟩⟩⟩⟩) ?_
          exact ih v0 v1 v2 v3 (w32 (v4 + 1)) u2.2 _ hx
theorem x_X_fewest {sc : AS} {d : Nat} (hd : 7 ≤ d) {v0 : Int} {v1 : Int} {h : AH} {r : (Int × AH)} (hx : X_fewest v0 v1 h = some r) : Runs sc d 136 [(2, v0), (0, v1)] h (some (0, r.1)) r.2 := by
  obtain ⟨d, rfl⟩ : ∃ e, d = e + 1 := ⟨d - 1, by omega⟩
  have hd : 6 ≤ d := by omega
  unfold X_fewest at hx
  refine ⟨⟨aM_136, rfl, Nat.le_of_ble_eq_true rfl⟩, ?_⟩
  show Ev sc d 136 0 [(2, v0), (0, v1), (9, 0), (9, 0), (9, 0), (9, 0)] [] h (some (0, r.1)) r.2
  refine Ev.blk (is := [.iload_n 1]) (pc2 := 1) (L2 := [(2, v0), (0, v1), (9, 0), (9, 0), (9, 0), (9, 0)]) (S2 := [(0, v1)]) (h2 := h) (by decide +kernel) rfl trivial ?_
  obtain ⟨u1, hc, hx⟩ := bca hx
  refine Ev.call (args := [(0, v1)]) (S2 := []) (r1 := (some (0, u1))) (h1 := h) (i := .invokestatic 10) (by decide +kernel) rfl rfl (Nat.le_of_ble_eq_true rfl) (Or.inl rfl) (x_Arithmetic_isNumber (by omega) hc) ?_
  obtain ⟨ha, hb⟩ := bite hx
  clear hx
  refine Ev.br (i := .ifCond .ne 5) (len := 3) (a := 7) (b := 9) (by decide +kernel) rfl Iff.rfl (fun hc => ?_) (fun hc => ?_)
  · have hx := ha hc
    clear ha hb hc
    refine Ev.blk (is := [.iconst (-1)]) (pc2 := 8) (L2 := [(2, v0), (0, v1), (9, 0), (9, 0), (9, 0), (9, 0)]) (S2 := [(0, (-1))]) (h2 := h) (by decide +kernel) rfl trivial ?_
    cases hx
    exact Ev.ret (i := .ireturn) (len := 1) (by decide +kernel) rfl (finOf (t := some .int) rfl (trivial))
  · have hx := hb hc
    clear ha hb hc
    refine Ev.blk (is := [.sipush (-2), .istore_n 2, .sipush 19, .istore_n 3, .iconst 1, .istore 4]) (pc2 := 18) (L2 := [(2, v0), (0, v1), (0, (-2)), (0, 19), (0, 1), (9, 0)]) (S2 := []) (h2 := h) (by decide +kernel) rfl trivial ?_
    exact y_X_fewest_18 hd FU v0 v1 (-2) 19 1 h _ hx
theorem y_X_next_8 {sc : AS} {d : Nat} (hd : 3 ≤ d) : ∀ (fu : Nat) (v2 : Int) (h : AH) (r : Int), X_next_8 fu v2 = some r → Ev sc d 137 8 [(9, 0), (9, 0), (0, v2)] [] h (some (0, r)) h := by
  intro fu
  induction fu with
  | zero => intro v2 h r hx; unfold X_next_8 at hx; cases hx
  | succ fu ih =>
    intro v2 h r hx
    unfold X_next_8 at hx
    refine Ev.blk (is := [.iload_n 2, .sipush 999999937]) (pc2 := 11) (L2 := [(9, 0), (9, 0), (0, v2)]) (S2 := [(0, 999999937), (0, v2)]) (h2 := h) (by decide +kernel) rfl trivial ?_
    obtain ⟨ha, hb⟩ := bite hx
    clear hx
    refine Ev.br (i := .if_icmp .ge 22) (len := 3) (a := 14) (b := 33) (by decide +kernel) rfl Iff.rfl (fun hc => ?_) (fun hc => ?_)
    · have hx := ha hc
      clear ha hb hc
      refine Ev.blk (is := [.iload_n 2, .iconst 1, .iadd]) (pc2 := 17) (L2 := [(9, 0), (9, 0), (0, v2)]) (S2 := [(0, w32 (v2 + 1))]) (h2 := h) (by decide +kernel) rfl trivial ?_
      obtain ⟨u1, hc, hx⟩ := bca hx
      refine Ev.call (args := [(0, w32 (v2 + 1))]) (S2 := []) (r1 := (some (0, u1))) (h1 := h) (i := .invokestatic 20) (by decide +kernel) rfl rfl (Nat.le_of_ble_eq_true rfl) (Or.inl rfl) (x_Arithmetic_isPrime (by omega) hc) ?_
      obtain ⟨ha, hb⟩ := bite hx
      clear hx
      refine Ev.br (i := .ifCond .eq 7) (len := 3) (a := 27) (b := 23) (by decide +kernel) rfl Iff.rfl (fun hc => ?_) (fun hc => ?_)
      · have hx := ha hc
        clear ha hb hc
        refine Ev.blk (is := [.iinc 2 1]) (pc2 := 30) (L2 := [(9, 0), (9, 0), (0, w32 (v2 + 1))]) (S2 := []) (h2 := h) (by decide +kernel) rfl trivial ?_
        refine Ev.jp (i := .goto (-22)) (len := 3) (pc2 := 8) (by decide +kernel) rfl ?_
        exact ih (w32 (v2 + 1)) h _ hx
      · have hx := hb hc
        clear ha hb hc
        refine Ev.blk (is := [.iload_n 2, .iconst 1, .iadd]) (pc2 := 26) (L2 := [(9, 0), (9, 0), (0, v2)]) (S2 := [(0, w32 (v2 + 1))]) (h2 := h) (by decide +kernel) rfl trivial ?_
        cases hx
        exact Ev.ret (i := .ireturn) (len := 1) (by decide +kernel) rfl (finOf (t := some .int) rfl (trivial))
    · have hx := hb hc
      clear ha hb hc
      refine Ev.blk (is := [.iconst (-1)]) (pc2 := 34) (L2 := [(9, 0), (9, 0), (0, v2)]) (S2 := [(0, (-1))]) (h2 := h) (by decide +kernel) rfl trivial ?_
      cases hx
      exact Ev.ret (i := .ireturn) (len := 1) (by decide +kernel) rfl (finOf (t := some .int) rfl (trivial))
theorem x_X_next {sc : AS} {d : Nat} (hd : 4 ≤ d) {v0 : Int} {v1 : Int} {h : AH} {r : Int} (hx : X_next v0 v1 = some r) : Runs sc d 137 [(2, v0), (0, v1)] h (some (0, r)) h := by
  obtain ⟨d, rfl⟩ : ∃ e, d = e + 1 := ⟨d - 1, by omega⟩
  have hd : 3 ≤ d := by omega
  unfold X_next at hx
  refine ⟨⟨aM_137, rfl, Nat.le_of_ble_eq_true rfl⟩, ?_⟩
  show Ev sc d 137 0 [(2, v0), (0, v1), (9, 0)] [] h (some (0, r)) h
  refine Ev.blk (is := [.iload_n 1]) (pc2 := 1) (L2 := [(2, v0), (0, v1), (9, 0)]) (S2 := [(0, v1)]) (h2 := h) (by decide +kernel) rfl trivial ?_
  obtain ⟨ha, hb⟩ := bite hx
  clear hx
  refine Ev.br (i := .ifCond .ge 5) (len := 3) (a := 4) (b := 6) (by decide +kernel) rfl Iff.rfl (fun hc => ?_) (fun hc => ?_)
  · have hx := ha hc
    clear ha hb hc
    refine Ev.blk (is := [.iconst (-1)]) (pc2 := 5) (L2 := [(2, v0), (0, v1), (9, 0)]) (S2 := [(0, (-1))]) (h2 := h) (by decide +kernel) rfl trivial ?_
    cases hx
    exact Ev.ret (i := .ireturn) (len := 1) (by decide +kernel) rfl (finOf (t := some .int) rfl (trivial))
  · have hx := hb hc
    clear ha hb hc
    refine Ev.blk (is := [.iload_n 1, .istore_n 2]) (pc2 := 8) (L2 := [(2, v0), (0, v1), (0, v1)]) (S2 := []) (h2 := h) (by decide +kernel) rfl trivial ?_
    refine Ev.wk (L2 := [(9, 0), (9, 0), (0, v1)]) (wkL_of ⟨Or.inr rfl, ⟨Or.inr rfl, ⟨Or.inl rfl, trivial⟩⟩⟩) ?_
    exact y_X_next_8 hd FU v1 h _ hx
theorem y_Factors_share_16 {sc : AS} {d : Nat} (hd : 0 ≤ d) : ∀ (fu : Nat) (v0 : Int) (v1 : Int) (v2 : Int) (v3 : Int) (h : AH) (r : Int), Factors_share_16 fu v0 v1 v2 v3 h = some r → Ev sc d 139 16 [(2, v0), (0, v1), (0, v2), (0, v3)] [] h (some (0, r)) h := by
  intro fu
  induction fu with
  | zero => intro v0 v1 v2 v3 h r hx; unfold Factors_share_16 at hx; cases hx
  | succ fu ih =>
    intro v0 v1 v2 v3 h r hx
    unfold Factors_share_16 at hx
    obtain ⟨u1, hg, he, hx⟩ := bgd hx
    refine Ev.blk (is := [.iload_n 3, .aload_n 0, .getfield 201]) (pc2 := 21) (L2 := [(2, v0), (0, v1), (0, v2), (0, v3)]) (S2 := [(2, u1), (0, v3)]) (h2 := h) (by decide +kernel) (by subst he; rfl) (by exact hg) ?_
    clear hg he
    obtain ⟨u2, hg, he, hx⟩ := bgd hx
    refine Ev.blk (is := [.iload_n 1, .iaload]) (pc2 := 23) (L2 := [(2, v0), (0, v1), (0, v2), (0, v3)]) (S2 := [(0, u2), (0, v3)]) (h2 := h) (by decide +kernel) (by subst he; rfl) (by exact hg) ?_
    clear hg he
    obtain ⟨ha, hb⟩ := bite hx
    clear hx
    refine Ev.br (i := .if_icmp .ge 18) (len := 3) (a := 26) (b := 41) (by decide +kernel) rfl Iff.rfl (fun hc => ?_) (fun hc => ?_)
    · have hx := ha hc
      clear ha hb hc
      obtain ⟨u3, hg, he, hx⟩ := bgd hx
      refine Ev.blk (is := [.iload_n 2, .aload_n 0, .getfield 200]) (pc2 := 31) (L2 := [(2, v0), (0, v1), (0, v2), (0, v3)]) (S2 := [(2, u3), (0, v2)]) (h2 := h) (by decide +kernel) (by subst he; rfl) (by exact hg) ?_
      clear hg he
      obtain ⟨u4, hg, he, hx⟩ := bgd hx
      refine Ev.blk (is := [.iload_n 1, .iaload]) (pc2 := 33) (L2 := [(2, v0), (0, v1), (0, v2), (0, v3)]) (S2 := [(0, u4), (0, v2)]) (h2 := h) (by decide +kernel) (by subst he; rfl) (by exact hg) ?_
      clear hg he
      refine Ev.blk (is := [.imul, .istore_n 2, .iinc 3 1]) (pc2 := 38) (L2 := [(2, v0), (0, v1), (0, w32 (v2 * u4)), (0, w32 (v3 + 1))]) (S2 := []) (h2 := h) (by decide +kernel) rfl trivial ?_
      refine Ev.jp (i := .goto (-22)) (len := 3) (pc2 := 16) (by decide +kernel) rfl ?_
      exact ih v0 v1 (w32 (v2 * u4)) (w32 (v3 + 1)) h _ hx
    · have hx := hb hc
      clear ha hb hc
      refine Ev.blk (is := [.iload_n 2]) (pc2 := 42) (L2 := [(2, v0), (0, v1), (0, v2), (0, v3)]) (S2 := [(0, v2)]) (h2 := h) (by decide +kernel) rfl trivial ?_
      cases hx
      exact Ev.ret (i := .ireturn) (len := 1) (by decide +kernel) rfl (finOf (t := some .int) rfl (trivial))
theorem x_Factors_share {sc : AS} {d : Nat} (hd : 1 ≤ d) {v0 : Int} {v1 : Int} {h : AH} {r : Int} (hx : Factors_share v0 v1 h = some r) : Runs sc d 139 [(2, v0), (0, v1)] h (some (0, r)) h := by
  obtain ⟨d, rfl⟩ : ∃ e, d = e + 1 := ⟨d - 1, by omega⟩
  have hd : 0 ≤ d := by omega
  unfold Factors_share at hx
  refine ⟨⟨aM_139, rfl, Nat.le_of_ble_eq_true rfl⟩, ?_⟩
  show Ev sc d 139 0 [(2, v0), (0, v1), (9, 0), (9, 0)] [] h (some (0, r)) h
  refine Ev.blk (is := [.iconst 1, .istore_n 2, .iload_n 1]) (pc2 := 3) (L2 := [(2, v0), (0, v1), (0, 1), (9, 0)]) (S2 := [(0, v1)]) (h2 := h) (by decide +kernel) rfl trivial ?_
  obtain ⟨ha, hb⟩ := bite hx
  clear hx
  refine Ev.br (i := .ifCond .lt 38) (len := 3) (a := 41) (b := 6) (by decide +kernel) rfl Iff.rfl (fun hc => ?_) (fun hc => ?_)
  · have hx := ha hc
    clear ha hb hc
    refine Ev.blk (is := [.iload_n 2]) (pc2 := 42) (L2 := [(2, v0), (0, v1), (0, 1), (9, 0)]) (S2 := [(0, 1)]) (h2 := h) (by decide +kernel) rfl trivial ?_
    cases hx
    exact Ev.ret (i := .ireturn) (len := 1) (by decide +kernel) rfl (finOf (t := some .int) rfl (trivial))
  · have hx := hb hc
    clear ha hb hc
    obtain ⟨u1, hg, he, hx⟩ := bgd hx
    refine Ev.blk (is := [.iload_n 1, .aload_n 0, .getfield 2]) (pc2 := 11) (L2 := [(2, v0), (0, v1), (0, 1), (9, 0)]) (S2 := [(0, u1), (0, v1)]) (h2 := h) (by decide +kernel) (by subst he; rfl) (by exact hg) ?_
    clear hg he
    obtain ⟨ha, hb⟩ := bite hx
    clear hx
    refine Ev.br (i := .if_icmp .ge 30) (len := 3) (a := 14) (b := 41) (by decide +kernel) rfl Iff.rfl (fun hc => ?_) (fun hc => ?_)
    · have hx := ha hc
      clear ha hb hc
      refine Ev.blk (is := [.iconst 0, .istore_n 3]) (pc2 := 16) (L2 := [(2, v0), (0, v1), (0, 1), (0, 0)]) (S2 := []) (h2 := h) (by decide +kernel) rfl trivial ?_
      exact y_Factors_share_16 hd FU v0 v1 1 0 h _ hx
    · have hx := hb hc
      clear ha hb hc
      refine Ev.blk (is := [.iload_n 2]) (pc2 := 42) (L2 := [(2, v0), (0, v1), (0, 1), (9, 0)]) (S2 := [(0, 1)]) (h2 := h) (by decide +kernel) rfl trivial ?_
      cases hx
      exact Ev.ret (i := .ireturn) (len := 1) (by decide +kernel) rfl (finOf (t := some .int) rfl (trivial))
theorem y_X_smooth_26 {sc : AS} {d : Nat} (hd : 4 ≤ d) : ∀ (fu : Nat) (v0 : Int) (v2 : Int) (v3 : Int) (v4 : Int) (h : AH) (r : (Int × AH)), X_smooth_26 fu v0 v2 v3 v4 h = some r → Ev sc d 138 26 [(2, v0), (9, 0), (0, v2), (0, v3), (0, v4)] [] h (some (0, r.1)) r.2 := by
  intro fu
  induction fu with
  | zero => intro v0 v2 v3 v4 h r hx; unfold X_smooth_26 at hx; cases hx
  | succ fu ih =>
    intro v0 v2 v3 v4 h r hx
    unfold X_smooth_26 at hx
    obtain ⟨u1, hg, he, hx⟩ := bgd hx
    refine Ev.blk (is := [.iload 4, .aload_n 0, .getfield 8205]) (pc2 := 32) (L2 := [(2, v0), (9, 0), (0, v2), (0, v3), (0, v4)]) (S2 := [(2, u1), (0, v4)]) (h2 := h) (by decide +kernel) (by subst he; rfl) (by exact hg) ?_
    clear hg he
    obtain ⟨u2, hg, he, hx⟩ := bgd hx
    refine Ev.blk (is := [.getfield 2]) (pc2 := 35) (L2 := [(2, v0), (9, 0), (0, v2), (0, v3), (0, v4)]) (S2 := [(0, u2), (0, v4)]) (h2 := h) (by decide +kernel) (by subst he; rfl) (by exact hg) ?_
    clear hg he
    obtain ⟨ha, hb⟩ := bite hx
    clear hx
    refine Ev.br (i := .if_icmp .ge 35) (len := 3) (a := 38) (b := 70) (by decide +kernel) rfl Iff.rfl (fun hc => ?_) (fun hc => ?_)
    · have hx := ha hc
      clear ha hb hc
      obtain ⟨u3, hg, he, hx⟩ := bgd hx
      refine Ev.blk (is := [.aload_n 0, .getfield 8205]) (pc2 := 42) (L2 := [(2, v0), (9, 0), (0, v2), (0, v3), (0, v4)]) (S2 := [(2, u3)]) (h2 := h) (by decide +kernel) (by subst he; rfl) (by exact hg) ?_
      clear hg he
      obtain ⟨u4, hg, he, hx⟩ := bgd hx
      refine Ev.blk (is := [.getfield 200]) (pc2 := 45) (L2 := [(2, v0), (9, 0), (0, v2), (0, v3), (0, v4)]) (S2 := [(2, u4)]) (h2 := h) (by decide +kernel) (by subst he; rfl) (by exact hg) ?_
      clear hg he
      obtain ⟨u5, hg, he, hx⟩ := bgd hx
      refine Ev.blk (is := [.iload 4, .iaload]) (pc2 := 48) (L2 := [(2, v0), (9, 0), (0, v2), (0, v3), (0, v4)]) (S2 := [(0, u5)]) (h2 := h) (by decide +kernel) (by subst he; rfl) (by exact hg) ?_
      clear hg he
      refine Ev.blk (is := [.iload_n 2]) (pc2 := 49) (L2 := [(2, v0), (9, 0), (0, v2), (0, v3), (0, v4)]) (S2 := [(0, v2), (0, u5)]) (h2 := h) (by decide +kernel) rfl trivial ?_
      obtain ⟨ha, hb⟩ := bite hx
      clear hx
      refine Ev.br (i := .if_icmp .gt 21) (len := 3) (a := 70) (b := 52) (by decide +kernel) rfl Iff.rfl (fun hc => ?_) (fun hc => ?_)
      · have hx := ha hc
        clear ha hb hc
        refine Ev.blk (is := [.iload_n 3]) (pc2 := 71) (L2 := [(2, v0), (9, 0), (0, v2), (0, v3), (0, v4)]) (S2 := [(0, v3)]) (h2 := h) (by decide +kernel) rfl trivial ?_
        cases hx
        exact Ev.ret (i := .ireturn) (len := 1) (by decide +kernel) rfl (finOf (t := some .int) rfl (trivial))
      · have hx := hb hc
        clear ha hb hc
        obtain ⟨u6, hg, he, hx⟩ := bgd hx
        refine Ev.blk (is := [.iload_n 3, .aload_n 0, .getfield 8205]) (pc2 := 57) (L2 := [(2, v0), (9, 0), (0, v2), (0, v3), (0, v4)]) (S2 := [(2, u6), (0, v3)]) (h2 := h) (by decide +kernel) (by subst he; rfl) (by exact hg) ?_
        clear hg he
        refine Ev.blk (is := [.iload 4]) (pc2 := 59) (L2 := [(2, v0), (9, 0), (0, v2), (0, v3), (0, v4)]) (S2 := [(0, v4), (2, u6), (0, v3)]) (h2 := h) (by decide +kernel) rfl trivial ?_
        obtain ⟨_, hg, -, hx⟩ := bgd hx
        obtain ⟨u7, hc, hx⟩ := bca hx
        refine Ev.call (args := [(2, u6), (0, v4)]) (S2 := [(0, v3)]) (r1 := (some (0, u7))) (h1 := h) (i := .invokevirtual 139) (by decide +kernel) rfl rfl (Nat.le_of_ble_eq_true rfl) (Or.inr (Or.inl ⟨rfl, hg, by decide +kernel⟩)) (x_Factors_share (by omega) hc) ?_
        refine Ev.blk (is := [.imul, .istore_n 3, .iinc 4 1]) (pc2 := 67) (L2 := [(2, v0), (9, 0), (0, v2), (0, w32 (v3 * u7)), (0, w32 (v4 + 1))]) (S2 := []) (h2 := h) (by decide +kernel) rfl trivial ?_
        refine Ev.jp (i := .goto (-41)) (len := 3) (pc2 := 26) (by decide +kernel) rfl ?_
        exact ih v0 v2 (w32 (v3 * u7)) (w32 (v4 + 1)) h _ hx
    · have hx := hb hc
      clear ha hb hc
      refine Ev.blk (is := [.iload_n 3]) (pc2 := 71) (L2 := [(2, v0), (9, 0), (0, v2), (0, v3), (0, v4)]) (S2 := [(0, v3)]) (h2 := h) (by decide +kernel) rfl trivial ?_
      cases hx
      exact Ev.ret (i := .ireturn) (len := 1) (by decide +kernel) rfl (finOf (t := some .int) rfl (trivial))
theorem x_X_smooth {sc : AS} {d : Nat} (hd : 5 ≤ d) {v0 : Int} {v1 : Int} {v2 : Int} {h : AH} {r : (Int × AH)} (hx : X_smooth v0 v1 v2 h = some r) : Runs sc d 138 [(2, v0), (0, v1), (0, v2)] h (some (0, r.1)) r.2 := by
  obtain ⟨d, rfl⟩ : ∃ e, d = e + 1 := ⟨d - 1, by omega⟩
  have hd : 4 ≤ d := by omega
  unfold X_smooth at hx
  refine ⟨⟨aM_138, rfl, Nat.le_of_ble_eq_true rfl⟩, ?_⟩
  show Ev sc d 138 0 [(2, v0), (0, v1), (0, v2), (9, 0), (9, 0)] [] h (some (0, r.1)) r.2
  refine Ev.blk (is := [.iload_n 1]) (pc2 := 1) (L2 := [(2, v0), (0, v1), (0, v2), (9, 0), (9, 0)]) (S2 := [(0, v1)]) (h2 := h) (by decide +kernel) rfl trivial ?_
  obtain ⟨u1, hc, hx⟩ := bca hx
  refine Ev.call (args := [(0, v1)]) (S2 := []) (r1 := (some (0, u1))) (h1 := h) (i := .invokestatic 10) (by decide +kernel) rfl rfl (Nat.le_of_ble_eq_true rfl) (Or.inl rfl) (x_Arithmetic_isNumber (by omega) hc) ?_
  obtain ⟨ha, hb⟩ := bite hx
  clear hx
  refine Ev.br (i := .ifCond .eq 7) (len := 3) (a := 11) (b := 7) (by decide +kernel) rfl Iff.rfl (fun hc => ?_) (fun hc => ?_)
  · have hx := ha hc
    clear ha hb hc
    refine Ev.blk (is := [.iconst (-1)]) (pc2 := 12) (L2 := [(2, v0), (0, v1), (0, v2), (9, 0), (9, 0)]) (S2 := [(0, (-1))]) (h2 := h) (by decide +kernel) rfl trivial ?_
    cases hx
    exact Ev.ret (i := .ireturn) (len := 1) (by decide +kernel) rfl (finOf (t := some .int) rfl (trivial))
  · have hx := hb hc
    clear ha hb hc
    refine Ev.blk (is := [.iload_n 2]) (pc2 := 8) (L2 := [(2, v0), (0, v1), (0, v2), (9, 0), (9, 0)]) (S2 := [(0, v2)]) (h2 := h) (by decide +kernel) rfl trivial ?_
    obtain ⟨ha, hb⟩ := bite hx
    clear hx
    refine Ev.br (i := .ifCond .ge 5) (len := 3) (a := 11) (b := 13) (by decide +kernel) rfl Iff.rfl (fun hc => ?_) (fun hc => ?_)
    · have hx := ha hc
      clear ha hb hc
      refine Ev.blk (is := [.iconst (-1)]) (pc2 := 12) (L2 := [(2, v0), (0, v1), (0, v2), (9, 0), (9, 0)]) (S2 := [(0, (-1))]) (h2 := h) (by decide +kernel) rfl trivial ?_
      cases hx
      exact Ev.ret (i := .ireturn) (len := 1) (by decide +kernel) rfl (finOf (t := some .int) rfl (trivial))
    · have hx := hb hc
      clear ha hb hc
      obtain ⟨u2, hg, he, hx⟩ := bgd hx
      refine Ev.blk (is := [.aload_n 0, .getfield 8205]) (pc2 := 17) (L2 := [(2, v0), (0, v1), (0, v2), (9, 0), (9, 0)]) (S2 := [(2, u2)]) (h2 := h) (by decide +kernel) (by subst he; rfl) (by exact hg) ?_
      clear hg he
      refine Ev.blk (is := [.iload_n 1]) (pc2 := 18) (L2 := [(2, v0), (0, v1), (0, v2), (9, 0), (9, 0)]) (S2 := [(0, v1), (2, u2)]) (h2 := h) (by decide +kernel) rfl trivial ?_
      obtain ⟨_, hg, -, hx⟩ := bgd hx
      obtain ⟨h4, hc, hx⟩ := bca hx
      refine Ev.call (args := [(2, u2), (0, v1)]) (S2 := []) (r1 := none) (h1 := h4) (i := .invokevirtual 23) (by decide +kernel) rfl rfl (Nat.le_of_ble_eq_true rfl) (Or.inr (Or.inl ⟨rfl, hg, by decide +kernel⟩)) (x_Factors_split (by omega) hc) ?_
      refine Ev.blk (is := [.iconst 1, .istore_n 3, .iconst 0, .istore 4]) (pc2 := 26) (L2 := [(2, v0), (0, v1), (0, v2), (0, 1), (0, 0)]) (S2 := []) (h2 := h4) (by decide +kernel) rfl trivial ?_
      refine Ev.wk (L2 := [(2, v0), (9, 0), (0, v2), (0, 1), (0, 0)]) (wkL_of ⟨Or.inl rfl, ⟨Or.inr rfl, ⟨Or.inl rfl, ⟨Or.inl rfl, ⟨Or.inl rfl, trivial⟩⟩⟩⟩⟩) ?_
      exact y_X_smooth_26 hd FU v0 v2 1 0 h4 _ hx
theorem y_X_bound_29 {sc : AS} {d : Nat} (hd : 4 ≤ d) : ∀ (fu : Nat) (v0 : Int) (v1 : Int) (v2 : Int) (v4 : Int) (h : AH) (r : (Int × AH)), X_bound_29 fu v0 v1 v2 v4 h = some r → Ev sc d 140 29 [(2, v0), (0, v1), (1, v2), (8, 0), (0, v4)] [] h (some (0, r.1)) r.2 := by
  intro fu
  induction fu with
  | zero => intro v0 v1 v2 v4 h r hx; unfold X_bound_29 at hx; cases hx
  | succ fu ih =>
    intro v0 v1 v2 v4 h r hx
    unfold X_bound_29 at hx
    obtain ⟨u1, hg, he, hx⟩ := bgd hx
    refine Ev.blk (is := [.iload 4, .aload_n 0, .getfield 8205]) (pc2 := 35) (L2 := [(2, v0), (0, v1), (1, v2), (8, 0), (0, v4)]) (S2 := [(2, u1), (0, v4)]) (h2 := h) (by decide +kernel) (by subst he; rfl) (by exact hg) ?_
    clear hg he
    obtain ⟨u2, hg, he, hx⟩ := bgd hx
    refine Ev.blk (is := [.getfield 2]) (pc2 := 38) (L2 := [(2, v0), (0, v1), (1, v2), (8, 0), (0, v4)]) (S2 := [(0, u2), (0, v4)]) (h2 := h) (by decide +kernel) (by subst he; rfl) (by exact hg) ?_
    clear hg he
    obtain ⟨ha, hb⟩ := bite hx
    clear hx
    refine Ev.br (i := .if_icmp .ge 42) (len := 3) (a := 41) (b := 80) (by decide +kernel) rfl Iff.rfl (fun hc => ?_) (fun hc => ?_)
    · have hx := ha hc
      clear ha hb hc
      obtain ⟨u3, hg, he, hx⟩ := bgd hx
      refine Ev.blk (is := [.lload_n 2, .aload_n 0, .getfield 8205]) (pc2 := 46) (L2 := [(2, v0), (0, v1), (1, v2), (8, 0), (0, v4)]) (S2 := [(2, u3), (1, v2)]) (h2 := h) (by decide +kernel) (by subst he; rfl) (by exact hg) ?_
      clear hg he
      refine Ev.blk (is := [.iload 4]) (pc2 := 48) (L2 := [(2, v0), (0, v1), (1, v2), (8, 0), (0, v4)]) (S2 := [(0, v4), (2, u3), (1, v2)]) (h2 := h) (by decide +kernel) rfl trivial ?_
      obtain ⟨_, hg, -, hx⟩ := bgd hx
      obtain ⟨u4, hc, hx⟩ := bca hx
      refine Ev.call (args := [(2, u3), (0, v4)]) (S2 := [(1, v2)]) (r1 := (some (0, u4))) (h1 := h) (i := .invokevirtual 139) (by decide +kernel) rfl rfl (Nat.le_of_ble_eq_true rfl) (Or.inr (Or.inl ⟨rfl, hg, by decide +kernel⟩)) (x_Factors_share (by omega) hc) ?_
      refine Ev.blk (is := [.i2l, .lmul, .lstore_n 2, .lload_n 2, .lload_n 2, .lmul, .iload_n 1, .i2l, .lcmp]) (pc2 := 60) (L2 := [(2, v0), (0, v1), (1, w64 (v2 * u4)), (8, 0), (0, v4)]) (S2 := [(0, cmpL (w64 ((w64 (v2 * u4)) * (w64 (v2 * u4)))) v1)]) (h2 := h) (by decide +kernel) rfl trivial ?_
      obtain ⟨ha, hb⟩ := bite hx
      clear hx
      refine Ev.br (i := .ifCond .le 14) (len := 3) (a := 63) (b := 74) (by decide +kernel) rfl cmpL_gt (fun hc => ?_) (fun hc => ?_)
      · have hx := ha hc
        clear ha hb hc
        obtain ⟨u5, hg, he, hx⟩ := bgd hx
        refine Ev.blk (is := [.aload_n 0, .getfield 8205]) (pc2 := 67) (L2 := [(2, v0), (0, v1), (1, w64 (v2 * u4)), (8, 0), (0, v4)]) (S2 := [(2, u5)]) (h2 := h) (by decide +kernel) (by subst he; rfl) (by exact hg) ?_
        clear hg he
        obtain ⟨u6, hg, he, hx⟩ := bgd hx
        refine Ev.blk (is := [.getfield 200]) (pc2 := 70) (L2 := [(2, v0), (0, v1), (1, w64 (v2 * u4)), (8, 0), (0, v4)]) (S2 := [(2, u6)]) (h2 := h) (by decide +kernel) (by subst he; rfl) (by exact hg) ?_
        clear hg he
        obtain ⟨u7, hg, he, hx⟩ := bgd hx
        refine Ev.blk (is := [.iload 4, .iaload]) (pc2 := 73) (L2 := [(2, v0), (0, v1), (1, w64 (v2 * u4)), (8, 0), (0, v4)]) (S2 := [(0, u7)]) (h2 := h) (by decide +kernel) (by subst he; rfl) (by exact hg) ?_
        clear hg he
        cases hx
        exact Ev.ret (i := .ireturn) (len := 1) (by decide +kernel) rfl (finOf (t := some .int) rfl (trivial))
      · have hx := hb hc
        clear ha hb hc
        refine Ev.blk (is := [.iinc 4 1]) (pc2 := 77) (L2 := [(2, v0), (0, v1), (1, w64 (v2 * u4)), (8, 0), (0, w32 (v4 + 1))]) (S2 := []) (h2 := h) (by decide +kernel) rfl trivial ?_
        refine Ev.jp (i := .goto (-48)) (len := 3) (pc2 := 29) (by decide +kernel) rfl ?_
        exact ih v0 v1 (w64 (v2 * u4)) (w32 (v4 + 1)) h _ hx
    · have hx := hb hc
      clear ha hb hc
      refine Ev.blk (is := [.iconst (-1)]) (pc2 := 81) (L2 := [(2, v0), (0, v1), (1, v2), (8, 0), (0, v4)]) (S2 := [(0, (-1))]) (h2 := h) (by decide +kernel) rfl trivial ?_
      cases hx
      exact Ev.ret (i := .ireturn) (len := 1) (by decide +kernel) rfl (finOf (t := some .int) rfl (trivial))
theorem x_X_bound {sc : AS} {d : Nat} (hd : 5 ≤ d) {v0 : Int} {v1 : Int} {h : AH} {r : (Int × AH)} (hx : X_bound v0 v1 h = some r) : Runs sc d 140 [(2, v0), (0, v1)] h (some (0, r.1)) r.2 := by
  obtain ⟨d, rfl⟩ : ∃ e, d = e + 1 := ⟨d - 1, by omega⟩
  have hd : 4 ≤ d := by omega
  unfold X_bound at hx
  refine ⟨⟨aM_140, rfl, Nat.le_of_ble_eq_true rfl⟩, ?_⟩
  show Ev sc d 140 0 [(2, v0), (0, v1), (9, 0), (9, 0), (9, 0)] [] h (some (0, r.1)) r.2
  refine Ev.blk (is := [.iload_n 1]) (pc2 := 1) (L2 := [(2, v0), (0, v1), (9, 0), (9, 0), (9, 0)]) (S2 := [(0, v1)]) (h2 := h) (by decide +kernel) rfl trivial ?_
  obtain ⟨u1, hc, hx⟩ := bca hx
  refine Ev.call (args := [(0, v1)]) (S2 := []) (r1 := (some (0, u1))) (h1 := h) (i := .invokestatic 10) (by decide +kernel) rfl rfl (Nat.le_of_ble_eq_true rfl) (Or.inl rfl) (x_Arithmetic_isNumber (by omega) hc) ?_
  obtain ⟨ha, hb⟩ := bite hx
  clear hx
  refine Ev.br (i := .ifCond .eq 8) (len := 3) (a := 12) (b := 7) (by decide +kernel) rfl Iff.rfl (fun hc => ?_) (fun hc => ?_)
  · have hx := ha hc
    clear ha hb hc
    refine Ev.blk (is := [.iconst (-1)]) (pc2 := 13) (L2 := [(2, v0), (0, v1), (9, 0), (9, 0), (9, 0)]) (S2 := [(0, (-1))]) (h2 := h) (by decide +kernel) rfl trivial ?_
    cases hx
    exact Ev.ret (i := .ireturn) (len := 1) (by decide +kernel) rfl (finOf (t := some .int) rfl (trivial))
  · have hx := hb hc
    clear ha hb hc
    refine Ev.blk (is := [.iload_n 1, .iconst 3]) (pc2 := 9) (L2 := [(2, v0), (0, v1), (9, 0), (9, 0), (9, 0)]) (S2 := [(0, 3), (0, v1)]) (h2 := h) (by decide +kernel) rfl trivial ?_
    obtain ⟨ha, hb⟩ := bite hx
    clear hx
    refine Ev.br (i := .if_icmp .ge 5) (len := 3) (a := 12) (b := 14) (by decide +kernel) rfl Iff.rfl (fun hc => ?_) (fun hc => ?_)
    · have hx := ha hc
      clear ha hb hc
      refine Ev.blk (is := [.iconst (-1)]) (pc2 := 13) (L2 := [(2, v0), (0, v1), (9, 0), (9, 0), (9, 0)]) (S2 := [(0, (-1))]) (h2 := h) (by decide +kernel) rfl trivial ?_
      cases hx
      exact Ev.ret (i := .ireturn) (len := 1) (by decide +kernel) rfl (finOf (t := some .int) rfl (trivial))
    · have hx := hb hc
      clear ha hb hc
      obtain ⟨u2, hg, he, hx⟩ := bgd hx
      refine Ev.blk (is := [.aload_n 0, .getfield 8205]) (pc2 := 18) (L2 := [(2, v0), (0, v1), (9, 0), (9, 0), (9, 0)]) (S2 := [(2, u2)]) (h2 := h) (by decide +kernel) (by subst he; rfl) (by exact hg) ?_
      clear hg he
      refine Ev.blk (is := [.iload_n 1, .iconst 1, .isub]) (pc2 := 21) (L2 := [(2, v0), (0, v1), (9, 0), (9, 0), (9, 0)]) (S2 := [(0, w32 (v1 - 1)), (2, u2)]) (h2 := h) (by decide +kernel) rfl trivial ?_
      obtain ⟨_, hg, -, hx⟩ := bgd hx
      obtain ⟨h4, hc, hx⟩ := bca hx
      refine Ev.call (args := [(2, u2), (0, w32 (v1 - 1))]) (S2 := []) (r1 := none) (h1 := h4) (i := .invokevirtual 23) (by decide +kernel) rfl rfl (Nat.le_of_ble_eq_true rfl) (Or.inr (Or.inl ⟨rfl, hg, by decide +kernel⟩)) (x_Factors_split (by omega) hc) ?_
      refine Ev.blk (is := [.lconst 1, .lstore_n 2, .iconst 0, .istore 4]) (pc2 := 29) (L2 := [(2, v0), (0, v1), (1, 1), (8, 0), (0, 0)]) (S2 := []) (h2 := h4) (by decide +kernel) rfl trivial ?_
      exact y_X_bound_29 hd FU v0 v1 1 0 h4 _ hx
theorem x_Math_abs_J {sc : AS} {d : Nat} (hd : 1 ≤ d) {v0 : Int} {h : AH} {r : Int} (hx : Math_abs_J v0 = some r) : Runs sc d 142 [(1, v0)] h (some (1, r)) h := by
  obtain ⟨d, rfl⟩ : ∃ e, d = e + 1 := ⟨d - 1, by omega⟩
  have hd : 0 ≤ d := by omega
  unfold Math_abs_J at hx
  refine ⟨⟨aM_142, rfl, Nat.le_of_ble_eq_true rfl⟩, ?_⟩
  show Ev sc d 142 0 [(1, v0), (8, 0)] [] h (some (1, r)) h
  refine Ev.blk (is := [.lload_n 0, .lconst 0, .lcmp]) (pc2 := 3) (L2 := [(1, v0), (8, 0)]) (S2 := [(0, cmpL v0 0)]) (h2 := h) (by decide +kernel) rfl trivial ?_
  obtain ⟨ha, hb⟩ := bite hx
  clear hx
  refine Ev.br (i := .ifCond .ge 8) (len := 3) (a := 6) (b := 11) (by decide +kernel) rfl cmpL_lt (fun hc => ?_) (fun hc => ?_)
  · have hx := ha hc
    clear ha hb hc
    refine Ev.blk (is := [.lload_n 0, .lneg]) (pc2 := 8) (L2 := [(1, v0), (8, 0)]) (S2 := [(1, w64 (-v0))]) (h2 := h) (by decide +kernel) rfl trivial ?_
    refine Ev.jp (i := .goto 4) (len := 3) (pc2 := 12) (by decide +kernel) rfl ?_
    cases hx
    exact Ev.ret (i := .lreturn) (len := 1) (by decide +kernel) rfl (finOf (t := some .long) rfl (trivial))
  · have hx := hb hc
    clear ha hb hc
    refine Ev.blk (is := [.lload_n 0]) (pc2 := 12) (L2 := [(1, v0), (8, 0)]) (S2 := [(1, v0)]) (h2 := h) (by decide +kernel) rfl trivial ?_
    cases hx
    exact Ev.ret (i := .lreturn) (len := 1) (by decide +kernel) rfl (finOf (t := some .long) rfl (trivial))
theorem y_X_chase_28 {sc : AS} {d : Nat} (hd : 1 ≤ d) : ∀ (fu : Nat) (v1 : Int) (v2 : Int) (v3 : Int) (v5 : Int) (v7 : Int) (h : AH) (r : Int), X_chase_28 fu v1 v2 v3 v5 v7 = some r → Ev sc d 141 28 [(9, 0), (0, v1), (0, v2), (1, v3), (8, 0), (1, v5), (8, 0), (0, v7), (9, 0), (9, 0)] [] h (some (0, r)) h := by
  intro fu
  induction fu with
  | zero => intro v1 v2 v3 v5 v7 h r hx; unfold X_chase_28 at hx; cases hx
  | succ fu ih =>
    intro v1 v2 v3 v5 v7 h r hx
    unfold X_chase_28 at hx
    refine Ev.blk (is := [.iload 7, .sipush 1000]) (pc2 := 33) (L2 := [(9, 0), (0, v1), (0, v2), (1, v3), (8, 0), (1, v5), (8, 0), (0, v7), (9, 0), (9, 0)]) (S2 := [(0, 1000), (0, v7)]) (h2 := h) (by decide +kernel) rfl trivial ?_
    obtain ⟨ha, hb⟩ := bite hx
    clear hx
    refine Ev.br (i := .if_icmp .ge 70) (len := 3) (a := 36) (b := 103) (by decide +kernel) rfl Iff.rfl (fun hc => ?_) (fun hc => ?_)
    · have hx := ha hc
      clear ha hb hc
      obtain ⟨u1, hg, he, hx⟩ := bgd hx
      refine Ev.blk (is := [.lload_n 3, .lload_n 3, .lmul, .iload_n 2, .i2l, .ladd, .iload_n 1, .i2l, .lrem]) (pc2 := 45) (L2 := [(9, 0), (0, v1), (0, v2), (1, v3), (8, 0), (1, v5), (8, 0), (0, v7), (9, 0), (9, 0)]) (S2 := [(1, u1)]) (h2 := h) (by decide +kernel) (by subst he; rfl) (by exact hg) ?_
      clear hg he
      obtain ⟨u2, hg, he, hx⟩ := bgd hx
      refine Ev.blk (is := [.lstore_n 3, .lload 5, .lload 5, .lmul, .iload_n 2, .i2l, .ladd, .iload_n 1, .i2l, .lrem]) (pc2 := 57) (L2 := [(9, 0), (0, v1), (0, v2), (1, u1), (8, 0), (1, v5), (8, 0), (0, v7), (9, 0), (9, 0)]) (S2 := [(1, u2)]) (h2 := h) (by decide +kernel) (by subst he; rfl) (by exact hg) ?_
      clear hg he
      obtain ⟨u3, hg, he, hx⟩ := bgd hx
      refine Ev.blk (is := [.lstore 5, .lload 5, .lload 5, .lmul, .iload_n 2, .i2l, .ladd, .iload_n 1, .i2l, .lrem]) (pc2 := 70) (L2 := [(9, 0), (0, v1), (0, v2), (1, u1), (8, 0), (1, u2), (8, 0), (0, v7), (9, 0), (9, 0)]) (S2 := [(1, u3)]) (h2 := h) (by decide +kernel) (by subst he; rfl) (by exact hg) ?_
      clear hg he
      refine Ev.blk (is := [.lstore 5, .lload_n 3, .lload 5, .lsub]) (pc2 := 76) (L2 := [(9, 0), (0, v1), (0, v2), (1, u1), (8, 0), (1, u3), (8, 0), (0, v7), (9, 0), (9, 0)]) (S2 := [(1, w64 (u1 - u3))]) (h2 := h) (by decide +kernel) rfl trivial ?_
      obtain ⟨u4, hc, hx⟩ := bca hx
      refine Ev.call (args := [(1, w64 (u1 - u3))]) (S2 := []) (r1 := (some (1, u4))) (h1 := h) (i := .invokestatic 142) (by decide +kernel) rfl rfl (Nat.le_of_ble_eq_true rfl) (Or.inl rfl) (x_Math_abs_J (by omega) hc) ?_
      refine Ev.blk (is := [.iload_n 1, .i2l]) (pc2 := 81) (L2 := [(9, 0), (0, v1), (0, v2), (1, u1), (8, 0), (1, u3), (8, 0), (0, v7), (9, 0), (9, 0)]) (S2 := [(1, v1), (1, u4)]) (h2 := h) (by decide +kernel) rfl trivial ?_
      obtain ⟨u5, hc, hx⟩ := bca hx
      refine Ev.call (args := [(1, u4), (1, v1)]) (S2 := []) (r1 := (some (1, u5))) (h1 := h) (i := .invokestatic 37) (by decide +kernel) rfl rfl (Nat.le_of_ble_eq_true rfl) (Or.inl rfl) (x_Arithmetic_commonOf (by omega) hc) ?_
      refine Ev.blk (is := [.lstore 8, .lload 8, .lconst 1, .lcmp]) (pc2 := 90) (L2 := [(9, 0), (0, v1), (0, v2), (1, u1), (8, 0), (1, u3), (8, 0), (0, v7), (1, u5), (8, 0)]) (S2 := [(0, cmpL u5 1)]) (h2 := h) (by decide +kernel) rfl trivial ?_
      obtain ⟨ha, hb⟩ := bite hx
      clear hx
      refine Ev.br (i := .ifCond .eq 7) (len := 3) (a := 97) (b := 93) (by decide +kernel) rfl cmpL_eq (fun hc => ?_) (fun hc => ?_)
      · have hx := ha hc
        clear ha hb hc
        refine Ev.blk (is := [.iinc 7 1]) (pc2 := 100) (L2 := [(9, 0), (0, v1), (0, v2), (1, u1), (8, 0), (1, u3), (8, 0), (0, w32 (v7 + 1)), (1, u5), (8, 0)]) (S2 := []) (h2 := h) (by decide +kernel) rfl trivial ?_
        refine Ev.jp (i := .goto (-72)) (len := 3) (pc2 := 28) (by decide +kernel) rfl ?_
        refine Ev.wk (L2 := [(9, 0), (0, v1), (0, v2), (1, u1), (8, 0), (1, u3), (8, 0), (0, w32 (v7 + 1)), (9, 0), (9, 0)]) (wkL_of ⟨Or.inl rfl, ⟨Or.inl rfl, ⟨Or.inl rfl, ⟨Or.inl rfl, ⟨Or.inl rfl, ⟨Or.inl rfl, ⟨Or.inl rfl, ⟨Or.inl rfl, ⟨Or.inr rfl, ⟨Or.inr rfl, trivial⟩⟩⟩⟩⟩⟩⟩⟩⟩⟩) ?_
        exact ih v1 v2 u1 u3 (w32 (v7 + 1)) h _ hx
      · have hx := hb hc
        clear ha hb hc
        refine Ev.blk (is := [.lload 8, .l2i]) (pc2 := 96) (L2 := [(9, 0), (0, v1), (0, v2), (1, u1), (8, 0), (1, u3), (8, 0), (0, v7), (1, u5), (8, 0)]) (S2 := [(0, w32 u5)]) (h2 := h) (by decide +kernel) rfl trivial ?_
        cases hx
        exact Ev.ret (i := .ireturn) (len := 1) (by decide +kernel) rfl (finOf (t := some .int) rfl (trivial))
    · have hx := hb hc
      clear ha hb hc
      refine Ev.blk (is := [.sipush (-2)]) (pc2 := 105) (L2 := [(9, 0), (0, v1), (0, v2), (1, v3), (8, 0), (1, v5), (8, 0), (0, v7), (9, 0), (9, 0)]) (S2 := [(0, (-2))]) (h2 := h) (by decide +kernel) rfl trivial ?_
      cases hx
      exact Ev.ret (i := .ireturn) (len := 1) (by decide +kernel) rfl (finOf (t := some .int) rfl (trivial))
theorem x_X_chase {sc : AS} {d : Nat} (hd : 2 ≤ d) {v0 : Int} {v1 : Int} {v2 : Int} {h : AH} {r : Int} (hx : X_chase v0 v1 v2 = some r) : Runs sc d 141 [(2, v0), (0, v1), (0, v2)] h (some (0, r)) h := by
  obtain ⟨d, rfl⟩ : ∃ e, d = e + 1 := ⟨d - 1, by omega⟩
  have hd : 1 ≤ d := by omega
  unfold X_chase at hx
  refine ⟨⟨aM_141, rfl, Nat.le_of_ble_eq_true rfl⟩, ?_⟩
  show Ev sc d 141 0 [(2, v0), (0, v1), (0, v2), (9, 0), (9, 0), (9, 0), (9, 0), (9, 0), (9, 0), (9, 0)] [] h (some (0, r)) h
  refine Ev.blk (is := [.iload_n 1]) (pc2 := 1) (L2 := [(2, v0), (0, v1), (0, v2), (9, 0), (9, 0), (9, 0), (9, 0), (9, 0), (9, 0), (9, 0)]) (S2 := [(0, v1)]) (h2 := h) (by decide +kernel) rfl trivial ?_
  obtain ⟨u1, hc, hx⟩ := bca hx
  refine Ev.call (args := [(0, v1)]) (S2 := []) (r1 := (some (0, u1))) (h1 := h) (i := .invokestatic 10) (by decide +kernel) rfl rfl (Nat.le_of_ble_eq_true rfl) (Or.inl rfl) (x_Arithmetic_isNumber (by omega) hc) ?_
  obtain ⟨ha, hb⟩ := bite hx
  clear hx
  refine Ev.br (i := .ifCond .eq 10) (len := 3) (a := 14) (b := 7) (by decide +kernel) rfl Iff.rfl (fun hc => ?_) (fun hc => ?_)
  · have hx := ha hc
    clear ha hb hc
    refine Ev.blk (is := [.iconst (-1)]) (pc2 := 15) (L2 := [(2, v0), (0, v1), (0, v2), (9, 0), (9, 0), (9, 0), (9, 0), (9, 0), (9, 0), (9, 0)]) (S2 := [(0, (-1))]) (h2 := h) (by decide +kernel) rfl trivial ?_
    cases hx
    exact Ev.ret (i := .ireturn) (len := 1) (by decide +kernel) rfl (finOf (t := some .int) rfl (trivial))
  · have hx := hb hc
    clear ha hb hc
    refine Ev.blk (is := [.iload_n 2]) (pc2 := 8) (L2 := [(2, v0), (0, v1), (0, v2), (9, 0), (9, 0), (9, 0), (9, 0), (9, 0), (9, 0), (9, 0)]) (S2 := [(0, v2)]) (h2 := h) (by decide +kernel) rfl trivial ?_
    obtain ⟨u2, hc, hx⟩ := bca hx
    refine Ev.call (args := [(0, v2)]) (S2 := []) (r1 := (some (0, u2))) (h1 := h) (i := .invokestatic 94) (by decide +kernel) rfl rfl (Nat.le_of_ble_eq_true rfl) (Or.inl rfl) (x_X_isPQ (by omega) hc) ?_
    obtain ⟨ha, hb⟩ := bite hx
    clear hx
    refine Ev.br (i := .ifCond .ne 5) (len := 3) (a := 14) (b := 16) (by decide +kernel) rfl Iff.rfl (fun hc => ?_) (fun hc => ?_)
    · have hx := ha hc
      clear ha hb hc
      refine Ev.blk (is := [.iconst (-1)]) (pc2 := 15) (L2 := [(2, v0), (0, v1), (0, v2), (9, 0), (9, 0), (9, 0), (9, 0), (9, 0), (9, 0), (9, 0)]) (S2 := [(0, (-1))]) (h2 := h) (by decide +kernel) rfl trivial ?_
      cases hx
      exact Ev.ret (i := .ireturn) (len := 1) (by decide +kernel) rfl (finOf (t := some .int) rfl (trivial))
    · have hx := hb hc
      clear ha hb hc
      refine Ev.blk (is := [.jsr_w 2, .lstore_n 3, .jsr_w 2, .lstore 5, .iconst 0, .istore 7]) (pc2 := 28) (L2 := [(2, v0), (0, v1), (0, v2), (1, 2), (8, 0), (1, 2), (8, 0), (0, 0), (9, 0), (9, 0)]) (S2 := []) (h2 := h) (by decide +kernel) rfl trivial ?_
      refine Ev.wk (L2 := [(9, 0), (0, v1), (0, v2), (1, 2), (8, 0), (1, 2), (8, 0), (0, 0), (9, 0), (9, 0)]) (wkL_of ⟨Or.inr rfl, ⟨Or.inl rfl, ⟨Or.inl rfl, ⟨Or.inl rfl, ⟨Or.inl rfl, ⟨Or.inl rfl, ⟨Or.inl rfl, ⟨Or.inl rfl, ⟨Or.inl rfl, ⟨Or.inl rfl, trivial⟩⟩⟩⟩⟩⟩⟩⟩⟩⟩) ?_
      exact y_X_chase_28 hd FU v1 v2 2 2 0 h _ hx
theorem y_X_primes_32 {sc : AS} {d : Nat} (hd : 3 ≤ d) : ∀ (fu : Nat) (v2 : Int) (v3 : Int) (v4 : Int) (h : AH) (r : Int), X_primes_32 fu v2 v3 v4 = some r → Ev sc d 143 32 [(9, 0), (9, 0), (0, v2), (0, v3), (0, v4)] [] h (some (0, r)) h := by
  intro fu
  induction fu with
  | zero => intro v2 v3 v4 h r hx; unfold X_primes_32 at hx; cases hx
  | succ fu ih =>
    intro v2 v3 v4 h r hx
    unfold X_primes_32 at hx
    refine Ev.blk (is := [.iload 4, .iload_n 2]) (pc2 := 35) (L2 := [(9, 0), (9, 0), (0, v2), (0, v3), (0, v4)]) (S2 := [(0, v2), (0, v4)]) (h2 := h) (by decide +kernel) rfl trivial ?_
    obtain ⟨ha, hb⟩ := bite hx
    clear hx
    refine Ev.br (i := .if_icmp .gt 20) (len := 3) (a := 55) (b := 38) (by decide +kernel) rfl Iff.rfl (fun hc => ?_) (fun hc => ?_)
    · have hx := ha hc
      clear ha hb hc
      refine Ev.blk (is := [.iload_n 3]) (pc2 := 56) (L2 := [(9, 0), (9, 0), (0, v2), (0, v3), (0, v4)]) (S2 := [(0, v3)]) (h2 := h) (by decide +kernel) rfl trivial ?_
      cases hx
      exact Ev.ret (i := .ireturn) (len := 1) (by decide +kernel) rfl (finOf (t := some .int) rfl (trivial))
    · have hx := hb hc
      clear ha hb hc
      refine Ev.blk (is := [.iload 4]) (pc2 := 40) (L2 := [(9, 0), (9, 0), (0, v2), (0, v3), (0, v4)]) (S2 := [(0, v4)]) (h2 := h) (by decide +kernel) rfl trivial ?_
      obtain ⟨u1, hc, hx⟩ := bca hx
      refine Ev.call (args := [(0, v4)]) (S2 := []) (r1 := (some (0, u1))) (h1 := h) (i := .invokestatic 20) (by decide +kernel) rfl rfl (Nat.le_of_ble_eq_true rfl) (Or.inl rfl) (x_Arithmetic_isPrime (by omega) hc) ?_
      obtain ⟨ha, hb⟩ := bite hx
      clear hx
      refine Ev.br (i := .ifCond .eq 6) (len := 3) (a := 49) (b := 46) (by decide +kernel) rfl Iff.rfl (fun hc => ?_) (fun hc => ?_)
      · have hx := ha hc
        clear ha hb hc
        refine Ev.blk (is := [.iinc 4 1]) (pc2 := 52) (L2 := [(9, 0), (9, 0), (0, v2), (0, v3), (0, w32 (v4 + 1))]) (S2 := []) (h2 := h) (by decide +kernel) rfl trivial ?_
        refine Ev.jp (i := .goto (-20)) (len := 3) (pc2 := 32) (by decide +kernel) rfl ?_
        exact ih v2 v3 (w32 (v4 + 1)) h _ hx
      · have hx := hb hc
        clear ha hb hc
        refine Ev.blk (is := [.iinc 3 1, .iinc 4 1]) (pc2 := 52) (L2 := [(9, 0), (9, 0), (0, v2), (0, w32 (v3 + 1)), (0, w32 (v4 + 1))]) (S2 := []) (h2 := h) (by decide +kernel) rfl trivial ?_
        refine Ev.jp (i := .goto (-20)) (len := 3) (pc2 := 32) (by decide +kernel) rfl ?_
        exact ih v2 (w32 (v3 + 1)) (w32 (v4 + 1)) h _ hx
theorem x_X_primes {sc : AS} {d : Nat} (hd : 4 ≤ d) {v0 : Int} {v1 : Int} {v2 : Int} {h : AH} {r : Int} (hx : X_primes v0 v1 v2 = some r) : Runs sc d 143 [(2, v0), (0, v1), (0, v2)] h (some (0, r)) h := by
  obtain ⟨d, rfl⟩ : ∃ e, d = e + 1 := ⟨d - 1, by omega⟩
  have hd : 3 ≤ d := by omega
  unfold X_primes at hx
  refine ⟨⟨aM_143, rfl, Nat.le_of_ble_eq_true rfl⟩, ?_⟩
  show Ev sc d 143 0 [(2, v0), (0, v1), (0, v2), (9, 0), (9, 0)] [] h (some (0, r)) h
  refine Ev.blk (is := [.iload_n 1]) (pc2 := 1) (L2 := [(2, v0), (0, v1), (0, v2), (9, 0), (9, 0)]) (S2 := [(0, v1)]) (h2 := h) (by decide +kernel) rfl trivial ?_
  obtain ⟨ha, hb⟩ := bite hx
  clear hx
  refine Ev.br (i := .ifCond .lt 24) (len := 3) (a := 25) (b := 4) (by decide +kernel) rfl Iff.rfl (fun hc => ?_) (fun hc => ?_)
  · have hx := ha hc
    clear ha hb hc
    refine Ev.blk (is := [.iconst (-1)]) (pc2 := 26) (L2 := [(2, v0), (0, v1), (0, v2), (9, 0), (9, 0)]) (S2 := [(0, (-1))]) (h2 := h) (by decide +kernel) rfl trivial ?_
    cases hx
    exact Ev.ret (i := .ireturn) (len := 1) (by decide +kernel) rfl (finOf (t := some .int) rfl (trivial))
  · have hx := hb hc
    clear ha hb hc
    refine Ev.blk (is := [.iload_n 2, .iload_n 1]) (pc2 := 6) (L2 := [(2, v0), (0, v1), (0, v2), (9, 0), (9, 0)]) (S2 := [(0, v1), (0, v2)]) (h2 := h) (by decide +kernel) rfl trivial ?_
    obtain ⟨ha, hb⟩ := bite hx
    clear hx
    refine Ev.br (i := .if_icmp .lt 19) (len := 3) (a := 25) (b := 9) (by decide +kernel) rfl Iff.rfl (fun hc => ?_) (fun hc => ?_)
    · have hx := ha hc
      clear ha hb hc
      refine Ev.blk (is := [.iconst (-1)]) (pc2 := 26) (L2 := [(2, v0), (0, v1), (0, v2), (9, 0), (9, 0)]) (S2 := [(0, (-1))]) (h2 := h) (by decide +kernel) rfl trivial ?_
      cases hx
      exact Ev.ret (i := .ireturn) (len := 1) (by decide +kernel) rfl (finOf (t := some .int) rfl (trivial))
    · have hx := hb hc
      clear ha hb hc
      refine Ev.blk (is := [.iload_n 2, .sipush 1000000000]) (pc2 := 13) (L2 := [(2, v0), (0, v1), (0, v2), (9, 0), (9, 0)]) (S2 := [(0, 1000000000), (0, v2)]) (h2 := h) (by decide +kernel) rfl trivial ?_
      obtain ⟨ha, hb⟩ := bite hx
      clear hx
      refine Ev.br (i := .if_icmp .gt 12) (len := 3) (a := 25) (b := 16) (by decide +kernel) rfl Iff.rfl (fun hc => ?_) (fun hc => ?_)
      · have hx := ha hc
        clear ha hb hc
        refine Ev.blk (is := [.iconst (-1)]) (pc2 := 26) (L2 := [(2, v0), (0, v1), (0, v2), (9, 0), (9, 0)]) (S2 := [(0, (-1))]) (h2 := h) (by decide +kernel) rfl trivial ?_
        cases hx
        exact Ev.ret (i := .ireturn) (len := 1) (by decide +kernel) rfl (finOf (t := some .int) rfl (trivial))
      · have hx := hb hc
        clear ha hb hc
        refine Ev.blk (is := [.iload_n 2, .iload_n 1, .isub, .sipush 1000]) (pc2 := 22) (L2 := [(2, v0), (0, v1), (0, v2), (9, 0), (9, 0)]) (S2 := [(0, 1000), (0, w32 (v2 - v1))]) (h2 := h) (by decide +kernel) rfl trivial ?_
        obtain ⟨ha, hb⟩ := bite hx
        clear hx
        refine Ev.br (i := .if_icmp .lt 5) (len := 3) (a := 27) (b := 25) (by decide +kernel) rfl Iff.rfl (fun hc => ?_) (fun hc => ?_)
        · have hx := ha hc
          clear ha hb hc
          refine Ev.blk (is := [.iconst 0, .istore_n 3, .iload_n 1, .istore 4]) (pc2 := 32) (L2 := [(2, v0), (0, v1), (0, v2), (0, 0), (0, v1)]) (S2 := []) (h2 := h) (by decide +kernel) rfl trivial ?_
          refine Ev.wk (L2 := [(9, 0), (9, 0), (0, v2), (0, 0), (0, v1)]) (wkL_of ⟨Or.inr rfl, ⟨Or.inr rfl, ⟨Or.inl rfl, ⟨Or.inl rfl, ⟨Or.inl rfl, trivial⟩⟩⟩⟩⟩) ?_
          exact y_X_primes_32 hd FU v2 0 v1 h _ hx
        · have hx := hb hc
          clear ha hb hc
          refine Ev.blk (is := [.iconst (-1)]) (pc2 := 26) (L2 := [(2, v0), (0, v1), (0, v2), (9, 0), (9, 0)]) (S2 := [(0, (-1))]) (h2 := h) (by decide +kernel) rfl trivial ?_
          cases hx
          exact Ev.ret (i := .ireturn) (len := 1) (by decide +kernel) rfl (finOf (t := some .int) rfl (trivial))
