/-! the methods run as their shallow functions say -/
theorem x_Checker_hasFault1 {sc : AS} {d : Nat} (hd : 4 ≤ d) {v0 : Int} {h : AH} {r : Int} (hx : Checker_hasFault1 v0 h = some r) : Runs sc d 89 [(2, v0)] h (some (0, r)) h := by
  obtain ⟨d, rfl⟩ : ∃ e, d = e + 1 := ⟨d - 1, by omega⟩
  have hd : 3 ≤ d := by omega
  unfold Checker_hasFault1 at hx
  refine ⟨⟨aM_89, rfl, Nat.le_of_ble_eq_true rfl⟩, ?_⟩
  show Ev sc d 89 0 [(2, v0)] [] h (some (0, r)) h
  obtain ⟨u1, hg, he, hx⟩ := bgd hx
  refine Ev.blk (is := [.aload_n 0, .getfield 3003]) (pc2 := 4) (L2 := [(2, v0)]) (S2 := [(0, u1)]) (h2 := h) (by decide +kernel) (by subst he; rfl) (by exact hg) ?_
  clear hg he
  obtain ⟨ha, hb⟩ := bite hx
  clear hx
  refine Ev.br (i := .ifCond .ne 28) (len := 3) (a := 7) (b := 32) (by decide +kernel) rfl Iff.rfl (fun hc => ?_) (fun hc => ?_)
  · have hx := ha hc
    clear ha hb hc
    obtain ⟨u2, hg, he, hx⟩ := bgd hx
    refine Ev.blk (is := [.aload_n 0, .getfield 3002]) (pc2 := 11) (L2 := [(2, v0)]) (S2 := [(0, u2)]) (h2 := h) (by decide +kernel) (by subst he; rfl) (by exact hg) ?_
    clear hg he
    refine Ev.blk (is := [.sipush 100]) (pc2 := 13) (L2 := [(2, v0)]) (S2 := [(0, 100), (0, u2)]) (h2 := h) (by decide +kernel) rfl trivial ?_
    obtain ⟨ha, hb⟩ := bite hx
    clear hx
    refine Ev.br (i := .if_icmp .ge 13) (len := 3) (a := 16) (b := 26) (by decide +kernel) rfl Iff.rfl (fun hc => ?_) (fun hc => ?_)
    · have hx := ha hc
      clear ha hb hc
      obtain ⟨u3, hg, he, hx⟩ := bgd hx
      refine Ev.blk (is := [.aload_n 0, .getfield 3002]) (pc2 := 20) (L2 := [(2, v0)]) (S2 := [(0, u3)]) (h2 := h) (by decide +kernel) (by subst he; rfl) (by exact hg) ?_
      clear hg he
      obtain ⟨u4, hc, hx⟩ := bca hx
      refine Ev.call (args := [(0, u3)]) (S2 := []) (r1 := (some (0, u4))) (h1 := h) (i := .invokestatic 20) (by decide +kernel) rfl rfl (Nat.le_of_ble_eq_true rfl) (Or.inl rfl) (x_Arithmetic_isPrime (by omega) hc) ?_
      obtain ⟨ha, hb⟩ := bite hx
      clear hx
      refine Ev.br (i := .ifCond .ne 7) (len := 3) (a := 26) (b := 30) (by decide +kernel) rfl Iff.rfl (fun hc => ?_) (fun hc => ?_)
      · have hx := ha hc
        clear ha hb hc
        refine Ev.blk (is := [.iconst 1]) (pc2 := 27) (L2 := [(2, v0)]) (S2 := [(0, 1)]) (h2 := h) (by decide +kernel) rfl trivial ?_
        refine Ev.jp (i := .goto 4) (len := 3) (pc2 := 31) (by decide +kernel) rfl ?_
        cases hx
        exact Ev.ret (i := .ireturn) (len := 1) (by decide +kernel) rfl (finOf (t := some .boolean) rfl (bz1))
      · have hx := hb hc
        clear ha hb hc
        refine Ev.blk (is := [.iconst 0]) (pc2 := 31) (L2 := [(2, v0)]) (S2 := [(0, 0)]) (h2 := h) (by decide +kernel) rfl trivial ?_
        cases hx
        exact Ev.ret (i := .ireturn) (len := 1) (by decide +kernel) rfl (finOf (t := some .boolean) rfl (bz0))
    · have hx := hb hc
      clear ha hb hc
      refine Ev.blk (is := [.iconst 1]) (pc2 := 27) (L2 := [(2, v0)]) (S2 := [(0, 1)]) (h2 := h) (by decide +kernel) rfl trivial ?_
      refine Ev.jp (i := .goto 4) (len := 3) (pc2 := 31) (by decide +kernel) rfl ?_
      cases hx
      exact Ev.ret (i := .ireturn) (len := 1) (by decide +kernel) rfl (finOf (t := some .boolean) rfl (bz1))
  · have hx := hb hc
    clear ha hb hc
    obtain ⟨u5, hg, he, hx⟩ := bgd hx
    refine Ev.blk (is := [.aload_n 0, .getfield 3002]) (pc2 := 36) (L2 := [(2, v0)]) (S2 := [(0, u5)]) (h2 := h) (by decide +kernel) (by subst he; rfl) (by exact hg) ?_
    clear hg he
    obtain ⟨u6, hg, he, hx⟩ := bgd hx
    refine Ev.blk (is := [.iconst 2, .irem]) (pc2 := 38) (L2 := [(2, v0)]) (S2 := [(0, u6)]) (h2 := h) (by decide +kernel) (by subst he; rfl) (by exact hg) ?_
    clear hg he
    obtain ⟨ha, hb⟩ := bite hx
    clear hx
    refine Ev.br (i := .ifCond .ne 7) (len := 3) (a := 41) (b := 45) (by decide +kernel) rfl Iff.rfl (fun hc => ?_) (fun hc => ?_)
    · have hx := ha hc
      clear ha hb hc
      refine Ev.blk (is := [.iconst 1]) (pc2 := 42) (L2 := [(2, v0)]) (S2 := [(0, 1)]) (h2 := h) (by decide +kernel) rfl trivial ?_
      refine Ev.jp (i := .goto 4) (len := 3) (pc2 := 46) (by decide +kernel) rfl ?_
      cases hx
      exact Ev.ret (i := .ireturn) (len := 1) (by decide +kernel) rfl (finOf (t := some .boolean) rfl (bz1))
    · have hx := hb hc
      clear ha hb hc
      refine Ev.blk (is := [.iconst 0]) (pc2 := 46) (L2 := [(2, v0)]) (S2 := [(0, 0)]) (h2 := h) (by decide +kernel) rfl trivial ?_
      cases hx
      exact Ev.ret (i := .ireturn) (len := 1) (by decide +kernel) rfl (finOf (t := some .boolean) rfl (bz0))
theorem y_Side_repeats_12 {sc : AS} {d : Nat} (hd : 1 ≤ d) {k2 : Int → Int → AH → Option Int} (hk2 : ∀ (v0 : Int) (v1 : Int) (h : AH) (r : Int), k2 v0 v1 h = some r → Ev sc d 90 2 [(2, v0), (0, v1), (9, 0)] [] h (some (0, r)) h) : ∀ (fu : Nat) (v0 : Int) (v1 : Int) (v2 : Int) (h : AH) (r : Int), Side_repeats_12 k2 fu v0 v1 v2 h = some r → Ev sc d 90 12 [(2, v0), (0, v1), (0, v2)] [] h (some (0, r)) h := by
  intro fu
  induction fu with
  | zero => intro v0 v1 v2 h r hx; unfold Side_repeats_12 at hx; cases hx
  | succ fu ih =>
    intro v0 v1 v2 h r hx
    unfold Side_repeats_12 at hx
    refine Ev.blk (is := [.iload_n 2, .iload_n 1]) (pc2 := 14) (L2 := [(2, v0), (0, v1), (0, v2)]) (S2 := [(0, v1), (0, v2)]) (h2 := h) (by decide +kernel) rfl trivial ?_
    obtain ⟨ha, hb⟩ := bite hx
    clear hx
    refine Ev.br (i := .if_icmp .ge 26) (len := 3) (a := 17) (b := 40) (by decide +kernel) rfl Iff.rfl (fun hc => ?_) (fun hc => ?_)
    · have hx := ha hc
      clear ha hb hc
      refine Ev.blk (is := [.aload_n 0, .iload_n 1, .iconst 0]) (pc2 := 20) (L2 := [(2, v0), (0, v1), (0, v2)]) (S2 := [(0, 0), (0, v1), (2, v0)]) (h2 := h) (by decide +kernel) rfl trivial ?_
      obtain ⟨_, hg, -, hx⟩ := bgd hx
      obtain ⟨u1, hc, hx⟩ := bca hx
      refine Ev.call (args := [(2, v0), (0, v1), (0, 0)]) (S2 := []) (r1 := (some (0, u1))) (h1 := h) (i := .invokevirtual 34) (by decide +kernel) rfl rfl (Nat.le_of_ble_eq_true rfl) (Or.inr (Or.inl ⟨rfl, hg, by decide +kernel⟩)) (x_Side_cell (by omega) hc) ?_
      refine Ev.blk (is := [.aload_n 0, .iload_n 2, .iconst 0]) (pc2 := 26) (L2 := [(2, v0), (0, v1), (0, v2)]) (S2 := [(0, 0), (0, v2), (2, v0), (0, u1)]) (h2 := h) (by decide +kernel) rfl trivial ?_
      obtain ⟨_, hg, -, hx⟩ := bgd hx
      obtain ⟨u2, hc, hx⟩ := bca hx
      refine Ev.call (args := [(2, v0), (0, v2), (0, 0)]) (S2 := [(0, u1)]) (r1 := (some (0, u2))) (h1 := h) (i := .invokevirtual 34) (by decide +kernel) rfl rfl (Nat.le_of_ble_eq_true rfl) (Or.inr (Or.inl ⟨rfl, hg, by decide +kernel⟩)) (x_Side_cell (by omega) hc) ?_
      obtain ⟨ha, hb⟩ := bite hx
      clear hx
      refine Ev.br (i := .if_icmp .ne 5) (len := 3) (a := 32) (b := 34) (by decide +kernel) rfl Iff.rfl (fun hc => ?_) (fun hc => ?_)
      · have hx := ha hc
        clear ha hb hc
        refine Ev.blk (is := [.iconst 1]) (pc2 := 33) (L2 := [(2, v0), (0, v1), (0, v2)]) (S2 := [(0, 1)]) (h2 := h) (by decide +kernel) rfl trivial ?_
        cases hx
        exact Ev.ret (i := .ireturn) (len := 1) (by decide +kernel) rfl (finOf (t := some .boolean) rfl (bz1))
      · have hx := hb hc
        clear ha hb hc
        refine Ev.blk (is := [.iinc 2 1]) (pc2 := 37) (L2 := [(2, v0), (0, v1), (0, w32 (v2 + 1))]) (S2 := []) (h2 := h) (by decide +kernel) rfl trivial ?_
        refine Ev.jp (i := .goto (-25)) (len := 3) (pc2 := 12) (by decide +kernel) rfl ?_
        exact ih v0 v1 (w32 (v2 + 1)) h _ hx
    · have hx := hb hc
      clear ha hb hc
      refine Ev.blk (is := [.iinc 1 1]) (pc2 := 43) (L2 := [(2, v0), (0, w32 (v1 + 1)), (0, v2)]) (S2 := []) (h2 := h) (by decide +kernel) rfl trivial ?_
      refine Ev.jp (i := .goto (-41)) (len := 3) (pc2 := 2) (by decide +kernel) rfl ?_
      refine Ev.wk (L2 := [(2, v0), (0, w32 (v1 + 1)), (9, 0)]) (wkL_of ⟨Or.inl rfl, ⟨Or.inl rfl, ⟨Or.inr rfl, trivial⟩⟩⟩) ?_
      exact hk2 v0 (w32 (v1 + 1)) h _ hx
theorem y_Side_repeats_2 {sc : AS} {d : Nat} (hd : 1 ≤ d) : ∀ (fu : Nat) (v0 : Int) (v1 : Int) (h : AH) (r : Int), Side_repeats_2 fu v0 v1 h = some r → Ev sc d 90 2 [(2, v0), (0, v1), (9, 0)] [] h (some (0, r)) h := by
  intro fu
  induction fu with
  | zero => intro v0 v1 h r hx; unfold Side_repeats_2 at hx; cases hx
  | succ fu ih =>
    intro v0 v1 h r hx
    unfold Side_repeats_2 at hx
    obtain ⟨u1, hg, he, hx⟩ := bgd hx
    refine Ev.blk (is := [.iload_n 1, .aload_n 0, .getfield 5001]) (pc2 := 7) (L2 := [(2, v0), (0, v1), (9, 0)]) (S2 := [(0, u1), (0, v1)]) (h2 := h) (by decide +kernel) (by subst he; rfl) (by exact hg) ?_
    clear hg he
    obtain ⟨ha, hb⟩ := bite hx
    clear hx
    refine Ev.br (i := .if_icmp .ge 39) (len := 3) (a := 10) (b := 46) (by decide +kernel) rfl Iff.rfl (fun hc => ?_) (fun hc => ?_)
    · have hx := ha hc
      clear ha hb hc
      refine Ev.blk (is := [.iconst 0, .istore_n 2]) (pc2 := 12) (L2 := [(2, v0), (0, v1), (0, 0)]) (S2 := []) (h2 := h) (by decide +kernel) rfl trivial ?_
      exact y_Side_repeats_12 hd ih FU v0 v1 0 h _ hx
    · have hx := hb hc
      clear ha hb hc
      refine Ev.blk (is := [.iconst 0]) (pc2 := 47) (L2 := [(2, v0), (0, v1), (9, 0)]) (S2 := [(0, 0)]) (h2 := h) (by decide +kernel) rfl trivial ?_
      cases hx
      exact Ev.ret (i := .ireturn) (len := 1) (by decide +kernel) rfl (finOf (t := some .boolean) rfl (bz0))
theorem x_Side_repeats {sc : AS} {d : Nat} (hd : 2 ≤ d) {v0 : Int} {h : AH} {r : Int} (hx : Side_repeats v0 h = some r) : Runs sc d 90 [(2, v0)] h (some (0, r)) h := by
  obtain ⟨d, rfl⟩ : ∃ e, d = e + 1 := ⟨d - 1, by omega⟩
  have hd : 1 ≤ d := by omega
  unfold Side_repeats at hx
  refine ⟨⟨aM_90, rfl, Nat.le_of_ble_eq_true rfl⟩, ?_⟩
  show Ev sc d 90 0 [(2, v0), (9, 0), (9, 0)] [] h (some (0, r)) h
  refine Ev.blk (is := [.iconst 0, .istore_n 1]) (pc2 := 2) (L2 := [(2, v0), (0, 0), (9, 0)]) (S2 := []) (h2 := h) (by decide +kernel) rfl trivial ?_
  exact y_Side_repeats_2 hd FU v0 0 h _ hx
theorem y_Ledger_stands_11 {sc : AS} {d : Nat} (hd : 2 ≤ d) : ∀ (fu : Nat) (v0 : Int) (v1 : Int) (v2 : Int) (v4 : Int) (v5 : Int) (h : AH) (r : Int), Ledger_stands_11 fu v0 v1 v2 v4 v5 h = some r → Ev sc d 91 11 [(2, v0), (0, v1), (1, v2), (8, 0), (2, v4), (0, v5)] [] h (some (0, r)) h := by
  intro fu
  induction fu with
  | zero => intro v0 v1 v2 v4 v5 h r hx; unfold Ledger_stands_11 at hx; cases hx
  | succ fu ih =>
    intro v0 v1 v2 v4 v5 h r hx
    unfold Ledger_stands_11 at hx
    refine Ev.blk (is := [.iload 5, .aload 4]) (pc2 := 15) (L2 := [(2, v0), (0, v1), (1, v2), (8, 0), (2, v4), (0, v5)]) (S2 := [(2, v4), (0, v5)]) (h2 := h) (by decide +kernel) rfl trivial ?_
    obtain ⟨_, hg, -, hx⟩ := bgd hx
    obtain ⟨u1, hc, hx⟩ := bca hx
    refine Ev.call (args := [(2, v4)]) (S2 := [(0, v5)]) (r1 := (some (0, u1))) (h1 := h) (i := .invokevirtual 51) (by decide +kernel) rfl rfl (Nat.le_of_ble_eq_true rfl) (Or.inr (Or.inl ⟨rfl, hg, by decide +kernel⟩)) (x_Line_rowCount (by omega) hc) ?_
    obtain ⟨ha, hb⟩ := bite hx
    clear hx
    refine Ev.br (i := .if_icmp .ge 27) (len := 3) (a := 21) (b := 45) (by decide +kernel) rfl Iff.rfl (fun hc => ?_) (fun hc => ?_)
    · have hx := ha hc
      clear ha hb hc
      refine Ev.blk (is := [.aload_n 0, .lload_n 2, .iload_n 1, .aload 4, .iload 5]) (pc2 := 28) (L2 := [(2, v0), (0, v1), (1, v2), (8, 0), (2, v4), (0, v5)]) (S2 := [(0, v5), (2, v4), (0, v1), (1, v2), (2, v0)]) (h2 := h) (by decide +kernel) rfl trivial ?_
      obtain ⟨_, hg, -, hx⟩ := bgd hx
      obtain ⟨u2, hc, hx⟩ := bca hx
      refine Ev.call (args := [(2, v4), (0, v5)]) (S2 := [(0, v1), (1, v2), (2, v0)]) (r1 := (some (0, u2))) (h1 := h) (i := .invokevirtual 52) (by decide +kernel) rfl rfl (Nat.le_of_ble_eq_true rfl) (Or.inr (Or.inl ⟨rfl, hg, by decide +kernel⟩)) (x_Line_divisor (by omega) hc) ?_
      obtain ⟨_, hg, -, hx⟩ := bgd hx
      obtain ⟨u3, hc, hx⟩ := bca hx
      refine Ev.call (args := [(2, v0), (1, v2), (0, v1), (0, u2)]) (S2 := []) (r1 := (some (0, u3))) (h1 := h) (i := .invokevirtual 54) (by decide +kernel) rfl rfl (Nat.le_of_ble_eq_true rfl) (Or.inr (Or.inl ⟨rfl, hg, by decide +kernel⟩)) (x_Ledger_leastAhead (by omega) hc) ?_
      obtain ⟨ha, hb⟩ := bite hx
      clear hx
      refine Ev.br (i := .ifCond .ge 5) (len := 3) (a := 37) (b := 39) (by decide +kernel) rfl Iff.rfl (fun hc => ?_) (fun hc => ?_)
      · have hx := ha hc
        clear ha hb hc
        refine Ev.blk (is := [.iconst 0]) (pc2 := 38) (L2 := [(2, v0), (0, v1), (1, v2), (8, 0), (2, v4), (0, v5)]) (S2 := [(0, 0)]) (h2 := h) (by decide +kernel) rfl trivial ?_
        cases hx
        exact Ev.ret (i := .ireturn) (len := 1) (by decide +kernel) rfl (finOf (t := some .boolean) rfl (bz0))
      · have hx := hb hc
        clear ha hb hc
        refine Ev.blk (is := [.iinc 5 1]) (pc2 := 42) (L2 := [(2, v0), (0, v1), (1, v2), (8, 0), (2, v4), (0, w32 (v5 + 1))]) (S2 := []) (h2 := h) (by decide +kernel) rfl trivial ?_
        refine Ev.jp (i := .goto (-31)) (len := 3) (pc2 := 11) (by decide +kernel) rfl ?_
        exact ih v0 v1 v2 v4 (w32 (v5 + 1)) h _ hx
    · have hx := hb hc
      clear ha hb hc
      refine Ev.blk (is := [.iconst 1]) (pc2 := 46) (L2 := [(2, v0), (0, v1), (1, v2), (8, 0), (2, v4), (0, v5)]) (S2 := [(0, 1)]) (h2 := h) (by decide +kernel) rfl trivial ?_
      cases hx
      exact Ev.ret (i := .ireturn) (len := 1) (by decide +kernel) rfl (finOf (t := some .boolean) rfl (bz1))
theorem x_Ledger_stands {sc : AS} {d : Nat} (hd : 3 ≤ d) {v0 : Int} {v1 : Int} {v2 : Int} {h : AH} {r : Int} (hx : Ledger_stands v0 v1 v2 h = some r) : Runs sc d 91 [(2, v0), (0, v1), (1, v2)] h (some (0, r)) h := by
  obtain ⟨d, rfl⟩ : ∃ e, d = e + 1 := ⟨d - 1, by omega⟩
  have hd : 2 ≤ d := by omega
  unfold Ledger_stands at hx
  refine ⟨⟨aM_91, rfl, Nat.le_of_ble_eq_true rfl⟩, ?_⟩
  show Ev sc d 91 0 [(2, v0), (0, v1), (1, v2), (8, 0), (9, 0), (9, 0)] [] h (some (0, r)) h
  obtain ⟨u1, hg, he, hx⟩ := bgd hx
  refine Ev.blk (is := [.aload_n 0, .getfield 2200]) (pc2 := 4) (L2 := [(2, v0), (0, v1), (1, v2), (8, 0), (9, 0), (9, 0)]) (S2 := [(2, u1)]) (h2 := h) (by decide +kernel) (by subst he; rfl) (by exact hg) ?_
  clear hg he
  obtain ⟨u2, hg, he, hx⟩ := bgd hx
  refine Ev.blk (is := [.iload_n 1, .aaload]) (pc2 := 6) (L2 := [(2, v0), (0, v1), (1, v2), (8, 0), (9, 0), (9, 0)]) (S2 := [(2, u2)]) (h2 := h) (by decide +kernel) (by subst he; rfl) (by exact hg) ?_
  clear hg he
  refine Ev.blk (is := [.astore 4, .iconst 0, .istore 5]) (pc2 := 11) (L2 := [(2, v0), (0, v1), (1, v2), (8, 0), (2, u2), (0, 0)]) (S2 := []) (h2 := h) (by decide +kernel) rfl trivial ?_
  exact y_Ledger_stands_11 hd FU v0 v1 v2 u2 0 h _ hx
theorem y_Checker_laterFault_23 {sc : AS} {d : Nat} (hd : 3 ≤ d) : ∀ (v0 : Int) (v1 : Int) (h : AH) (r : Int), Checker_laterFault_23 v0 v1 h = some r → Ev sc d 92 23 [(2, v0), (0, v1)] [] h (some (0, r)) h := by
  intro v0 v1 h r hx
  unfold Checker_laterFault_23 at hx
  refine Ev.blk (is := [.iload_n 1]) (pc2 := 24) (L2 := [(2, v0), (0, v1)]) (S2 := [(0, v1)]) (h2 := h) (by decide +kernel) rfl trivial ?_
  obtain ⟨ha, hb⟩ := bite hx
  clear hx
  refine Ev.br (i := .ifCond .ne 10) (len := 3) (a := 27) (b := 34) (by decide +kernel) rfl Iff.rfl (fun hc => ?_) (fun hc => ?_)
  · have hx := ha hc
    clear ha hb hc
    refine Ev.blk (is := [.aload_n 0]) (pc2 := 28) (L2 := [(2, v0), (0, v1)]) (S2 := [(2, v0)]) (h2 := h) (by decide +kernel) rfl trivial ?_
    obtain ⟨u1, hc, hx⟩ := bca hx
    refine Ev.call (args := [(2, v0)]) (S2 := []) (r1 := (some (0, u1))) (h1 := h) (i := .invokestatic 46) (by decide +kernel) rfl rfl (Nat.le_of_ble_eq_true rfl) (Or.inl rfl) (x_Checker_upFault (by omega) hc) ?_
    refine Ev.jp (i := .goto 4) (len := 3) (pc2 := 35) (by decide +kernel) rfl ?_
    cases hx
    exact Ev.ret (i := .ireturn) (len := 1) (by decide +kernel) rfl (finOf (t := some .int) rfl (trivial))
  · have hx := hb hc
    clear ha hb hc
    refine Ev.blk (is := [.iload_n 1]) (pc2 := 35) (L2 := [(2, v0), (0, v1)]) (S2 := [(0, v1)]) (h2 := h) (by decide +kernel) rfl trivial ?_
    cases hx
    exact Ev.ret (i := .ireturn) (len := 1) (by decide +kernel) rfl (finOf (t := some .int) rfl (trivial))
theorem x_Checker_laterFault {sc : AS} {d : Nat} (hd : 4 ≤ d) {v0 : Int} {h : AH} {r : Int} (hx : Checker_laterFault v0 h = some r) : Runs sc d 92 [(2, v0)] h (some (0, r)) h := by
  obtain ⟨d, rfl⟩ : ∃ e, d = e + 1 := ⟨d - 1, by omega⟩
  have hd : 3 ≤ d := by omega
  unfold Checker_laterFault at hx
  refine ⟨⟨aM_92, rfl, Nat.le_of_ble_eq_true rfl⟩, ?_⟩
  show Ev sc d 92 0 [(2, v0), (9, 0)] [] h (some (0, r)) h
  obtain ⟨u1, hg, he, hx⟩ := bgd hx
  refine Ev.blk (is := [.aload_n 0, .getfield 3003]) (pc2 := 4) (L2 := [(2, v0), (9, 0)]) (S2 := [(0, u1)]) (h2 := h) (by decide +kernel) (by subst he; rfl) (by exact hg) ?_
  clear hg he
  obtain ⟨ha, hb⟩ := bite hx
  clear hx
  refine Ev.br (i := .ifCond .ne 5) (len := 3) (a := 7) (b := 9) (by decide +kernel) rfl Iff.rfl (fun hc => ?_) (fun hc => ?_)
  · have hx := ha hc
    clear ha hb hc
    refine Ev.blk (is := [.iconst 0]) (pc2 := 8) (L2 := [(2, v0), (9, 0)]) (S2 := [(0, 0)]) (h2 := h) (by decide +kernel) rfl trivial ?_
    cases hx
    exact Ev.ret (i := .ireturn) (len := 1) (by decide +kernel) rfl (finOf (t := some .int) rfl (trivial))
  · have hx := hb hc
    clear ha hb hc
    refine Ev.blk (is := [.aload_n 0]) (pc2 := 10) (L2 := [(2, v0), (9, 0)]) (S2 := [(2, v0)]) (h2 := h) (by decide +kernel) rfl trivial ?_
    obtain ⟨u2, hc, hx⟩ := bca hx
    refine Ev.call (args := [(2, v0)]) (S2 := []) (r1 := (some (0, u2))) (h1 := h) (i := .invokestatic 32) (by decide +kernel) rfl rfl (Nat.le_of_ble_eq_true rfl) (Or.inl rfl) (x_Checker_productFault (by omega) hc) ?_
    refine Ev.blk (is := [.istore_n 1, .iload_n 1]) (pc2 := 15) (L2 := [(2, v0), (0, u2)]) (S2 := [(0, u2)]) (h2 := h) (by decide +kernel) rfl trivial ?_
    obtain ⟨ha, hb⟩ := bite hx
    clear hx
    refine Ev.br (i := .ifCond .ne 8) (len := 3) (a := 18) (b := 23) (by decide +kernel) rfl Iff.rfl (fun hc => ?_) (fun hc => ?_)
    · have hx := ha hc
      clear ha hb hc
      refine Ev.blk (is := [.aload_n 0]) (pc2 := 19) (L2 := [(2, v0), (0, u2)]) (S2 := [(2, v0)]) (h2 := h) (by decide +kernel) rfl trivial ?_
      obtain ⟨u3, hc, hx⟩ := bca hx
      refine Ev.call (args := [(2, v0)]) (S2 := []) (r1 := (some (0, u3))) (h1 := h) (i := .invokestatic 40) (by decide +kernel) rfl rfl (Nat.le_of_ble_eq_true rfl) (Or.inl rfl) (x_Checker_downFault (by omega) hc) ?_
      refine Ev.blk (is := [.istore_n 1]) (pc2 := 23) (L2 := [(2, v0), (0, u3)]) (S2 := []) (h2 := h) (by decide +kernel) rfl trivial ?_
      exact y_Checker_laterFault_23 hd v0 u3 h _ hx
    · have hx := hb hc
      clear ha hb hc
      exact y_Checker_laterFault_23 hd v0 u2 h _ hx
theorem x_Ledger_faultOf {sc : AS} {d : Nat} (hd : 5 ≤ d) {v0 : Int} {v1 : Int} {h : AH} {r : (Int × AH)} (hx : Ledger_faultOf v0 v1 h = some r) : Runs sc d 88 [(2, v0), (0, v1)] h (some (0, r.1)) r.2 := by
  obtain ⟨d, rfl⟩ : ∃ e, d = e + 1 := ⟨d - 1, by omega⟩
  have hd : 4 ≤ d := by omega
  unfold Ledger_faultOf at hx
  refine ⟨⟨aM_88, rfl, Nat.le_of_ble_eq_true rfl⟩, ?_⟩
  show Ev sc d 88 0 [(2, v0), (0, v1), (9, 0)] [] h (some (0, r.1)) r.2
  obtain ⟨u1, hg, he, hx⟩ := bgd hx
  refine Ev.blk (is := [.aload_n 0, .getfield 2200]) (pc2 := 4) (L2 := [(2, v0), (0, v1), (9, 0)]) (S2 := [(2, u1)]) (h2 := h) (by decide +kernel) (by subst he; rfl) (by exact hg) ?_
  clear hg he
  obtain ⟨u2, hg, he, hx⟩ := bgd hx
  refine Ev.blk (is := [.iload_n 1, .aaload]) (pc2 := 6) (L2 := [(2, v0), (0, v1), (9, 0)]) (S2 := [(2, u2)]) (h2 := h) (by decide +kernel) (by subst he; rfl) (by exact hg) ?_
  clear hg he
  refine Ev.blk (is := [.astore_n 2, .aload_n 2]) (pc2 := 8) (L2 := [(2, v0), (0, v1), (2, u2)]) (S2 := [(2, u2)]) (h2 := h) (by decide +kernel) rfl trivial ?_
  obtain ⟨u3, hc, hx⟩ := bca hx
  refine Ev.call (args := [(2, u2)]) (S2 := []) (r1 := (some (0, u3))) (h1 := h) (i := .invokestatic 89) (by decide +kernel) rfl rfl (Nat.le_of_ble_eq_true rfl) (Or.inl rfl) (x_Checker_hasFault1 (by omega) hc) ?_
  obtain ⟨ha, hb⟩ := bite hx
  clear hx
  refine Ev.br (i := .ifCond .eq 5) (len := 3) (a := 16) (b := 14) (by decide +kernel) rfl Iff.rfl (fun hc => ?_) (fun hc => ?_)
  · have hx := ha hc
    clear ha hb hc
    obtain ⟨u4, hg, he, hx⟩ := bgd hx
    refine Ev.blk (is := [.aload_n 2, .getfield 3200]) (pc2 := 20) (L2 := [(2, v0), (0, v1), (2, u2)]) (S2 := [(2, u4)]) (h2 := h) (by decide +kernel) (by subst he; rfl) (by exact hg) ?_
    clear hg he
    obtain ⟨_, hg, -, hx⟩ := bgd hx
    obtain ⟨u5, hc, hx⟩ := bca hx
    refine Ev.call (args := [(2, u4)]) (S2 := []) (r1 := (some (0, u5))) (h1 := h) (i := .invokevirtual 90) (by decide +kernel) rfl rfl (Nat.le_of_ble_eq_true rfl) (Or.inr (Or.inl ⟨rfl, hg, by decide +kernel⟩)) (x_Side_repeats (by omega) hc) ?_
    obtain ⟨ha, hb⟩ := bite hx
    clear hx
    refine Ev.br (i := .ifCond .ne 25) (len := 3) (a := 26) (b := 48) (by decide +kernel) rfl Iff.rfl (fun hc => ?_) (fun hc => ?_)
    · have hx := ha hc
      clear ha hb hc
      obtain ⟨u6, hg, he, hx⟩ := bgd hx
      refine Ev.blk (is := [.aload_n 2, .getfield 3201]) (pc2 := 30) (L2 := [(2, v0), (0, v1), (2, u2)]) (S2 := [(2, u6)]) (h2 := h) (by decide +kernel) (by subst he; rfl) (by exact hg) ?_
      clear hg he
      obtain ⟨_, hg, -, hx⟩ := bgd hx
      obtain ⟨u7, hc, hx⟩ := bca hx
      refine Ev.call (args := [(2, u6)]) (S2 := []) (r1 := (some (0, u7))) (h1 := h) (i := .invokevirtual 90) (by decide +kernel) rfl rfl (Nat.le_of_ble_eq_true rfl) (Or.inr (Or.inl ⟨rfl, hg, by decide +kernel⟩)) (x_Side_repeats (by omega) hc) ?_
      obtain ⟨ha, hb⟩ := bite hx
      clear hx
      refine Ev.br (i := .ifCond .ne 15) (len := 3) (a := 36) (b := 48) (by decide +kernel) rfl Iff.rfl (fun hc => ?_) (fun hc => ?_)
      · have hx := ha hc
        clear ha hb hc
        obtain ⟨u8, hg, he, hx⟩ := bgd hx
        refine Ev.blk (is := [.aload_n 0, .iload_n 1, .aload_n 0, .getfield 2104]) (pc2 := 42) (L2 := [(2, v0), (0, v1), (2, u2)]) (S2 := [(1, u8), (0, v1), (2, v0)]) (h2 := h) (by decide +kernel) (by subst he; rfl) (by exact hg) ?_
        clear hg he
        obtain ⟨_, hg, -, hx⟩ := bgd hx
        obtain ⟨u9, hc, hx⟩ := bca hx
        refine Ev.call (args := [(2, v0), (0, v1), (1, u8)]) (S2 := []) (r1 := (some (0, u9))) (h1 := h) (i := .invokevirtual 91) (by decide +kernel) rfl rfl (Nat.le_of_ble_eq_true rfl) (Or.inr (Or.inl ⟨rfl, hg, by decide +kernel⟩)) (x_Ledger_stands (by omega) hc) ?_
        obtain ⟨ha, hb⟩ := bite hx
        clear hx
        refine Ev.br (i := .ifCond .ne 5) (len := 3) (a := 48) (b := 50) (by decide +kernel) rfl Iff.rfl (fun hc => ?_) (fun hc => ?_)
        · have hx := ha hc
          clear ha hb hc
          refine Ev.blk (is := [.iconst 2]) (pc2 := 49) (L2 := [(2, v0), (0, v1), (2, u2)]) (S2 := [(0, 2)]) (h2 := h) (by decide +kernel) rfl trivial ?_
          cases hx
          exact Ev.ret (i := .ireturn) (len := 1) (by decide +kernel) rfl (finOf (t := some .int) rfl (trivial))
        · have hx := hb hc
          clear ha hb hc
          obtain ⟨u10, hg, he, hx⟩ := bgd hx
          refine Ev.blk (is := [.aload_n 2, .getfield 3006]) (pc2 := 54) (L2 := [(2, v0), (0, v1), (2, u2)]) (S2 := [(0, u10)]) (h2 := h) (by decide +kernel) (by subst he; rfl) (by exact hg) ?_
          clear hg he
          refine Ev.blk (is := [.iconst (-1)]) (pc2 := 55) (L2 := [(2, v0), (0, v1), (2, u2)]) (S2 := [(0, (-1)), (0, u10)]) (h2 := h) (by decide +kernel) rfl trivial ?_
          obtain ⟨ha, hb⟩ := bite hx
          clear hx
          refine Ev.br (i := .if_icmp .ne 11) (len := 3) (a := 58) (b := 66) (by decide +kernel) rfl Iff.rfl (fun hc => ?_) (fun hc => ?_)
          · have hx := ha hc
            clear ha hb hc
            refine Ev.blk (is := [.aload_n 2, .aload_n 2]) (pc2 := 60) (L2 := [(2, v0), (0, v1), (2, u2)]) (S2 := [(2, u2), (2, u2)]) (h2 := h) (by decide +kernel) rfl trivial ?_
            obtain ⟨u11, hc, hx⟩ := bca hx
            refine Ev.call (args := [(2, u2)]) (S2 := [(2, u2)]) (r1 := (some (0, u11))) (h1 := h) (i := .invokestatic 92) (by decide +kernel) rfl rfl (Nat.le_of_ble_eq_true rfl) (Or.inl rfl) (x_Checker_laterFault (by omega) hc) ?_
            obtain ⟨h12, hg, he, hx⟩ := bgd hx
            refine Ev.blk (is := [.putfield 3006]) (pc2 := 66) (L2 := [(2, v0), (0, v1), (2, u2)]) (S2 := []) (h2 := h12) (by decide +kernel) (by subst he; rfl) (by exact hg) ?_
            clear hg he
            obtain ⟨u13, hg, he, hx⟩ := bgd hx
            refine Ev.blk (is := [.aload_n 2, .getfield 3006]) (pc2 := 70) (L2 := [(2, v0), (0, v1), (2, u2)]) (S2 := [(0, u13)]) (h2 := h12) (by decide +kernel) (by subst he; rfl) (by exact hg) ?_
            clear hg he
            cases hx
            exact Ev.ret (i := .ireturn) (len := 1) (by decide +kernel) rfl (finOf (t := some .int) rfl (trivial))
          · have hx := hb hc
            clear ha hb hc
            obtain ⟨u14, hg, he, hx⟩ := bgd hx
            refine Ev.blk (is := [.aload_n 2, .getfield 3006]) (pc2 := 70) (L2 := [(2, v0), (0, v1), (2, u2)]) (S2 := [(0, u14)]) (h2 := h) (by decide +kernel) (by subst he; rfl) (by exact hg) ?_
            clear hg he
            cases hx
            exact Ev.ret (i := .ireturn) (len := 1) (by decide +kernel) rfl (finOf (t := some .int) rfl (trivial))
      · have hx := hb hc
        clear ha hb hc
        refine Ev.blk (is := [.iconst 2]) (pc2 := 49) (L2 := [(2, v0), (0, v1), (2, u2)]) (S2 := [(0, 2)]) (h2 := h) (by decide +kernel) rfl trivial ?_
        cases hx
        exact Ev.ret (i := .ireturn) (len := 1) (by decide +kernel) rfl (finOf (t := some .int) rfl (trivial))
    · have hx := hb hc
      clear ha hb hc
      refine Ev.blk (is := [.iconst 2]) (pc2 := 49) (L2 := [(2, v0), (0, v1), (2, u2)]) (S2 := [(0, 2)]) (h2 := h) (by decide +kernel) rfl trivial ?_
      cases hx
      exact Ev.ret (i := .ireturn) (len := 1) (by decide +kernel) rfl (finOf (t := some .int) rfl (trivial))
  · have hx := hb hc
    clear ha hb hc
    refine Ev.blk (is := [.iconst 1]) (pc2 := 15) (L2 := [(2, v0), (0, v1), (2, u2)]) (S2 := [(0, 1)]) (h2 := h) (by decide +kernel) rfl trivial ?_
    cases hx
    exact Ev.ret (i := .ireturn) (len := 1) (by decide +kernel) rfl (finOf (t := some .int) rfl (trivial))
theorem y_Ledger_checkFrom_6 {sc : AS} {d : Nat} (hd : 5 ≤ d) : ∀ (fu : Nat) (v0 : Int) (v2 : Int) (h : AH) (r : AH), Ledger_checkFrom_6 fu v0 v2 h = some r → Ev sc d 87 6 [(2, v0), (9, 0), (0, v2)] [] h none r := by
  intro fu
  induction fu with
  | zero => intro v0 v2 h r hx; unfold Ledger_checkFrom_6 at hx; cases hx
  | succ fu ih =>
    intro v0 v2 h r hx
    unfold Ledger_checkFrom_6 at hx
    obtain ⟨u1, hg, he, hx⟩ := bgd hx
    refine Ev.blk (is := [.iload_n 2, .aload_n 0, .getfield 2005]) (pc2 := 11) (L2 := [(2, v0), (9, 0), (0, v2)]) (S2 := [(0, u1), (0, v2)]) (h2 := h) (by decide +kernel) (by subst he; rfl) (by exact hg) ?_
    clear hg he
    obtain ⟨ha, hb⟩ := bite hx
    clear hx
    refine Ev.br (i := .if_icmp .ge 27) (len := 3) (a := 14) (b := 38) (by decide +kernel) rfl Iff.rfl (fun hc => ?_) (fun hc => ?_)
    · have hx := ha hc
      clear ha hb hc
      refine Ev.blk (is := [.aload_n 0, .iload_n 2]) (pc2 := 16) (L2 := [(2, v0), (9, 0), (0, v2)]) (S2 := [(0, v2), (2, v0)]) (h2 := h) (by decide +kernel) rfl trivial ?_
      obtain ⟨_, hg, -, hx⟩ := bgd hx
      obtain ⟨u2, hc, hx⟩ := bca hx
      refine Ev.call (args := [(2, v0), (0, v2)]) (S2 := []) (r1 := (some (0, u2))) (h1 := h) (i := .invokevirtual 13) (by decide +kernel) rfl rfl (Nat.le_of_ble_eq_true rfl) (Or.inr (Or.inl ⟨rfl, hg, by decide +kernel⟩)) (x_Ledger_has (by omega) hc) ?_
      obtain ⟨ha, hb⟩ := bite hx
      clear hx
      refine Ev.br (i := .ifCond .eq 13) (len := 3) (a := 32) (b := 22) (by decide +kernel) rfl Iff.rfl (fun hc => ?_) (fun hc => ?_)
      · have hx := ha hc
        clear ha hb hc
        refine Ev.blk (is := [.iinc 2 1]) (pc2 := 35) (L2 := [(2, v0), (9, 0), (0, w32 (v2 + 1))]) (S2 := []) (h2 := h) (by decide +kernel) rfl trivial ?_
        refine Ev.jp (i := .goto (-29)) (len := 3) (pc2 := 6) (by decide +kernel) rfl ?_
        exact ih v0 (w32 (v2 + 1)) h _ hx
      · have hx := hb hc
        clear ha hb hc
        refine Ev.blk (is := [.aload_n 0, .iload_n 2, .aload_n 0, .iload_n 2]) (pc2 := 26) (L2 := [(2, v0), (9, 0), (0, v2)]) (S2 := [(0, v2), (2, v0), (0, v2), (2, v0)]) (h2 := h) (by decide +kernel) rfl trivial ?_
        obtain ⟨_, hg, -, hx⟩ := bgd hx
        obtain ⟨u3, hc, hx⟩ := bca hx
        refine Ev.call (args := [(2, v0), (0, v2)]) (S2 := [(0, v2), (2, v0)]) (r1 := (some (0, u3.1))) (h1 := u3.2) (i := .invokevirtual 88) (by decide +kernel) rfl rfl (Nat.le_of_ble_eq_true rfl) (Or.inr (Or.inl ⟨rfl, hg, by decide +kernel⟩)) (x_Ledger_faultOf (by omega) hc) ?_
        obtain ⟨_, hg, -, hx⟩ := bgd hx
        obtain ⟨h5, hc, hx⟩ := bca hx
        refine Ev.call (args := [(2, v0), (0, v2), (0, u3.1)]) (S2 := []) (r1 := none) (h1 := h5) (i := .invokevirtual 59) (by decide +kernel) rfl rfl (Nat.le_of_ble_eq_true rfl) (Or.inr (Or.inl ⟨rfl, hg, by decide +kernel⟩)) (x_Ledger_settle (by omega) hc) ?_
        refine Ev.blk (is := [.iinc 2 1]) (pc2 := 35) (L2 := [(2, v0), (9, 0), (0, w32 (v2 + 1))]) (S2 := []) (h2 := h5) (by decide +kernel) rfl trivial ?_
        refine Ev.jp (i := .goto (-29)) (len := 3) (pc2 := 6) (by decide +kernel) rfl ?_
        exact ih v0 (w32 (v2 + 1)) h5 _ hx
    · have hx := hb hc
      clear ha hb hc
      cases hx
      exact Ev.ret (i := .return_) (len := 1) (by decide +kernel) rfl (finOf (t := none) rfl (trivial))
theorem x_Ledger_checkFrom {sc : AS} {d : Nat} (hd : 6 ≤ d) {v0 : Int} {v1 : Int} {h : AH} {r : AH} (hx : Ledger_checkFrom v0 v1 h = some r) : Runs sc d 87 [(2, v0), (0, v1)] h none r := by
  obtain ⟨d, rfl⟩ : ∃ e, d = e + 1 := ⟨d - 1, by omega⟩
  have hd : 5 ≤ d := by omega
  unfold Ledger_checkFrom at hx
  refine ⟨⟨aM_87, rfl, Nat.le_of_ble_eq_true rfl⟩, ?_⟩
  show Ev sc d 87 0 [(2, v0), (0, v1), (9, 0)] [] h none r
  refine Ev.blk (is := [.iload_n 1, .iconst 0]) (pc2 := 2) (L2 := [(2, v0), (0, v1), (9, 0)]) (S2 := [(0, 0), (0, v1)]) (h2 := h) (by decide +kernel) rfl trivial ?_
  obtain ⟨u1, hc, hx⟩ := bca hx
  refine Ev.call (args := [(0, v1), (0, 0)]) (S2 := []) (r1 := (some (0, u1))) (h1 := h) (i := .invokestatic 42) (by decide +kernel) rfl rfl (Nat.le_of_ble_eq_true rfl) (Or.inl rfl) (x_Math_max (by omega) hc) ?_
  refine Ev.blk (is := [.istore_n 2]) (pc2 := 6) (L2 := [(2, v0), (0, v1), (0, u1)]) (S2 := []) (h2 := h) (by decide +kernel) rfl trivial ?_
  refine Ev.wk (L2 := [(2, v0), (9, 0), (0, u1)]) (wkL_of ⟨Or.inl rfl, ⟨Or.inr rfl, ⟨Or.inl rfl, trivial⟩⟩⟩) ?_
  exact y_Ledger_checkFrom_6 hd FU v0 u1 h _ hx
theorem y_X_read_28 {sc : AS} {d : Nat} (hd : 9 ≤ d) : ∀ (v0 : Int) (v1 : Int) (v2 : Int) (h : AH) (r : (Int × AH)), X_read_28 v0 v1 v2 h = some r → Ev sc d 66 28 [(2, v0), (0, v1), (0, v2)] [] h (some (0, r.1)) r.2 := by
  intro v0 v1 v2 h r hx
  unfold X_read_28 at hx
  refine Ev.blk (is := [.iload_n 2]) (pc2 := 29) (L2 := [(2, v0), (0, v1), (0, v2)]) (S2 := [(0, v2)]) (h2 := h) (by decide +kernel) rfl trivial ?_
  obtain ⟨ha, hb⟩ := bite hx
  clear hx
  refine Ev.br (i := .ifCond .le 20) (len := 3) (a := 32) (b := 49) (by decide +kernel) rfl Iff.rfl (fun hc => ?_) (fun hc => ?_)
  · have hx := ha hc
    clear ha hb hc
    obtain ⟨u1, hg, he, hx⟩ := bgd hx
    refine Ev.blk (is := [.aload_n 0, .getfield 8203]) (pc2 := 36) (L2 := [(2, v0), (0, v1), (0, v2)]) (S2 := [(2, u1)]) (h2 := h) (by decide +kernel) (by subst he; rfl) (by exact hg) ?_
    clear hg he
    refine Ev.blk (is := [.iconst 1]) (pc2 := 37) (L2 := [(2, v0), (0, v1), (0, v2)]) (S2 := [(0, 1), (2, u1)]) (h2 := h) (by decide +kernel) rfl trivial ?_
    obtain ⟨_, hg, -, hx⟩ := bgd hx
    obtain ⟨u2, hc, hx⟩ := bca hx
    refine Ev.call (args := [(2, u1), (0, 1)]) (S2 := []) (r1 := (some (0, u2.1))) (h1 := u2.2) (i := .invokevirtual 67) (by decide +kernel) rfl rfl (Nat.le_of_ble_eq_true rfl) (Or.inr (Or.inl ⟨rfl, hg, by decide +kernel⟩)) (x_Reader_pass (by omega) hc) ?_
    obtain ⟨u3, hg, he, hx⟩ := bgd hx
    refine Ev.blk (is := [.pop, .aload_n 0, .getfield 8200]) (pc2 := 45) (L2 := [(2, v0), (0, v1), (0, v2)]) (S2 := [(2, u3)]) (h2 := u2.2) (by decide +kernel) (by subst he; rfl) (by exact hg) ?_
    clear hg he
    refine Ev.blk (is := [.iload_n 1]) (pc2 := 46) (L2 := [(2, v0), (0, v1), (0, v2)]) (S2 := [(0, v1), (2, u3)]) (h2 := u2.2) (by decide +kernel) rfl trivial ?_
    obtain ⟨_, hg, -, hx⟩ := bgd hx
    obtain ⟨h5, hc, hx⟩ := bca hx
    refine Ev.call (args := [(2, u3), (0, v1)]) (S2 := []) (r1 := none) (h1 := h5) (i := .invokevirtual 87) (by decide +kernel) rfl rfl (Nat.le_of_ble_eq_true rfl) (Or.inr (Or.inl ⟨rfl, hg, by decide +kernel⟩)) (x_Ledger_checkFrom (by omega) hc) ?_
    obtain ⟨u6, hg, he, hx⟩ := bgd hx
    refine Ev.blk (is := [.aload_n 0, .getfield 8202]) (pc2 := 53) (L2 := [(2, v0), (0, v1), (0, v2)]) (S2 := [(2, u6)]) (h2 := h5) (by decide +kernel) (by subst he; rfl) (by exact hg) ?_
    clear hg he
    obtain ⟨h7, hg, he, hx⟩ := bgd hx
    refine Ev.blk (is := [.iconst 0, .putfield 7001]) (pc2 := 57) (L2 := [(2, v0), (0, v1), (0, v2)]) (S2 := []) (h2 := h7) (by decide +kernel) (by subst he; rfl) (by exact hg) ?_
    clear hg he
    refine Ev.blk (is := [.iload_n 2]) (pc2 := 58) (L2 := [(2, v0), (0, v1), (0, v2)]) (S2 := [(0, v2)]) (h2 := h7) (by decide +kernel) rfl trivial ?_
    cases hx
    exact Ev.ret (i := .ireturn) (len := 1) (by decide +kernel) rfl (finOf (t := some .int) rfl (trivial))
  · have hx := hb hc
    clear ha hb hc
    obtain ⟨u8, hg, he, hx⟩ := bgd hx
    refine Ev.blk (is := [.aload_n 0, .getfield 8202]) (pc2 := 53) (L2 := [(2, v0), (0, v1), (0, v2)]) (S2 := [(2, u8)]) (h2 := h) (by decide +kernel) (by subst he; rfl) (by exact hg) ?_
    clear hg he
    obtain ⟨h9, hg, he, hx⟩ := bgd hx
    refine Ev.blk (is := [.iconst 0, .putfield 7001]) (pc2 := 57) (L2 := [(2, v0), (0, v1), (0, v2)]) (S2 := []) (h2 := h9) (by decide +kernel) (by subst he; rfl) (by exact hg) ?_
    clear hg he
    refine Ev.blk (is := [.iload_n 2]) (pc2 := 58) (L2 := [(2, v0), (0, v1), (0, v2)]) (S2 := [(0, v2)]) (h2 := h9) (by decide +kernel) rfl trivial ?_
    cases hx
    exact Ev.ret (i := .ireturn) (len := 1) (by decide +kernel) rfl (finOf (t := some .int) rfl (trivial))
theorem x_X_read {sc : AS} {d : Nat} (hd : 10 ≤ d) {v0 : Int} {h : AH} {r : (Int × AH)} (hx : X_read v0 h = some r) : Runs sc d 66 [(2, v0)] h (some (0, r.1)) r.2 := by
  obtain ⟨d, rfl⟩ : ∃ e, d = e + 1 := ⟨d - 1, by omega⟩
  have hd : 9 ≤ d := by omega
  unfold X_read at hx
  refine ⟨⟨aM_66, rfl, Nat.le_of_ble_eq_true rfl⟩, ?_⟩
  show Ev sc d 66 0 [(2, v0), (9, 0), (9, 0)] [] h (some (0, r.1)) r.2
  obtain ⟨u1, hg, he, hx⟩ := bgd hx
  refine Ev.blk (is := [.aload_n 0, .getfield 8200]) (pc2 := 4) (L2 := [(2, v0), (9, 0), (9, 0)]) (S2 := [(2, u1)]) (h2 := h) (by decide +kernel) (by subst he; rfl) (by exact hg) ?_
  clear hg he
  obtain ⟨u2, hg, he, hx⟩ := bgd hx
  refine Ev.blk (is := [.getfield 2005]) (pc2 := 7) (L2 := [(2, v0), (9, 0), (9, 0)]) (S2 := [(0, u2)]) (h2 := h) (by decide +kernel) (by subst he; rfl) (by exact hg) ?_
  clear hg he
  obtain ⟨u3, hg, he, hx⟩ := bgd hx
  refine Ev.blk (is := [.istore_n 1, .aload_n 0, .getfield 8203]) (pc2 := 12) (L2 := [(2, v0), (0, u2), (9, 0)]) (S2 := [(2, u3)]) (h2 := h) (by decide +kernel) (by subst he; rfl) (by exact hg) ?_
  clear hg he
  refine Ev.blk (is := [.iconst 0]) (pc2 := 13) (L2 := [(2, v0), (0, u2), (9, 0)]) (S2 := [(0, 0), (2, u3)]) (h2 := h) (by decide +kernel) rfl trivial ?_
  obtain ⟨_, hg, -, hx⟩ := bgd hx
  obtain ⟨u4, hc, hx⟩ := bca hx
  refine Ev.call (args := [(2, u3), (0, 0)]) (S2 := []) (r1 := (some (0, u4.1))) (h1 := u4.2) (i := .invokevirtual 67) (by decide +kernel) rfl rfl (Nat.le_of_ble_eq_true rfl) (Or.inr (Or.inl ⟨rfl, hg, by decide +kernel⟩)) (x_Reader_pass (by omega) hc) ?_
  refine Ev.blk (is := [.istore_n 2, .iload_n 2, .sipush 60, .iload_n 1, .isub]) (pc2 := 22) (L2 := [(2, v0), (0, u2), (0, u4.1)]) (S2 := [(0, w32 (60 - u2)), (0, u4.1)]) (h2 := u4.2) (by decide +kernel) rfl trivial ?_
  obtain ⟨ha, hb⟩ := bite hx
  clear hx
  refine Ev.br (i := .if_icmp .le 6) (len := 3) (a := 25) (b := 28) (by decide +kernel) rfl Iff.rfl (fun hc => ?_) (fun hc => ?_)
  · have hx := ha hc
    clear ha hb hc
    refine Ev.blk (is := [.sipush (-3), .istore_n 2]) (pc2 := 28) (L2 := [(2, v0), (0, u2), (0, (-3))]) (S2 := []) (h2 := u4.2) (by decide +kernel) rfl trivial ?_
    exact y_X_read_28 hd v0 u2 (-3) u4.2 _ hx
  · have hx := hb hc
    clear ha hb hc
    exact y_X_read_28 hd v0 u2 u4.1 u4.2 _ hx
theorem x_X_isPQ {sc : AS} {d : Nat} (hd : 1 ≤ d) {v0 : Int} {h : AH} {r : Int} (hx : X_isPQ v0 = some r) : Runs sc d 94 [(0, v0)] h (some (0, r)) h := by
  obtain ⟨d, rfl⟩ : ∃ e, d = e + 1 := ⟨d - 1, by omega⟩
  have hd : 0 ≤ d := by omega
  unfold X_isPQ at hx
  refine ⟨⟨aM_94, rfl, Nat.le_of_ble_eq_true rfl⟩, ?_⟩
  show Ev sc d 94 0 [(0, v0)] [] h (some (0, r)) h
  refine Ev.blk (is := [.iload_n 0, .iconst 1]) (pc2 := 2) (L2 := [(0, v0)]) (S2 := [(0, 1), (0, v0)]) (h2 := h) (by decide +kernel) rfl trivial ?_
  obtain ⟨ha, hb⟩ := bite hx
  clear hx
  refine Ev.br (i := .if_icmp .lt 13) (len := 3) (a := 15) (b := 5) (by decide +kernel) rfl Iff.rfl (fun hc => ?_) (fun hc => ?_)
  · have hx := ha hc
    clear ha hb hc
    refine Ev.blk (is := [.iconst 0]) (pc2 := 16) (L2 := [(0, v0)]) (S2 := [(0, 0)]) (h2 := h) (by decide +kernel) rfl trivial ?_
    cases hx
    exact Ev.ret (i := .ireturn) (len := 1) (by decide +kernel) rfl (finOf (t := some .boolean) rfl (bz0))
  · have hx := hb hc
    clear ha hb hc
    refine Ev.blk (is := [.iload_n 0, .sipush 99]) (pc2 := 8) (L2 := [(0, v0)]) (S2 := [(0, 99), (0, v0)]) (h2 := h) (by decide +kernel) rfl trivial ?_
    obtain ⟨ha, hb⟩ := bite hx
    clear hx
    refine Ev.br (i := .if_icmp .gt 7) (len := 3) (a := 15) (b := 11) (by decide +kernel) rfl Iff.rfl (fun hc => ?_) (fun hc => ?_)
    · have hx := ha hc
      clear ha hb hc
      refine Ev.blk (is := [.iconst 0]) (pc2 := 16) (L2 := [(0, v0)]) (S2 := [(0, 0)]) (h2 := h) (by decide +kernel) rfl trivial ?_
      cases hx
      exact Ev.ret (i := .ireturn) (len := 1) (by decide +kernel) rfl (finOf (t := some .boolean) rfl (bz0))
    · have hx := hb hc
      clear ha hb hc
      refine Ev.blk (is := [.iconst 1]) (pc2 := 12) (L2 := [(0, v0)]) (S2 := [(0, 1)]) (h2 := h) (by decide +kernel) rfl trivial ?_
      refine Ev.jp (i := .goto 4) (len := 3) (pc2 := 16) (by decide +kernel) rfl ?_
      cases hx
      exact Ev.ret (i := .ireturn) (len := 1) (by decide +kernel) rfl (finOf (t := some .boolean) rfl (bz1))
theorem y_X_set_125 {sc : AS} {d : Nat} (hd : 6 ≤ d) : ∀ (v0 : Int) (v1 : Int) (v4 : Int) (v5 : Int) (h : AH) (r : (Int × AH)), X_set_125 v0 v1 v4 v5 h = some r → Ev sc d 93 125 [(2, v0), (0, v1), (9, 0), (9, 0), (2, v4), (0, v5)] [] h (some (0, r.1)) r.2 := by
  intro v0 v1 v4 v5 h r hx
  unfold X_set_125 at hx
  obtain ⟨h1, hg, he, hx⟩ := bgd hx
  refine Ev.blk (is := [.aload 4, .iconst (-1), .putfield 3006]) (pc2 := 131) (L2 := [(2, v0), (0, v1), (9, 0), (9, 0), (2, v4), (0, v5)]) (S2 := []) (h2 := h1) (by decide +kernel) (by subst he; rfl) (by exact hg) ?_
  clear hg he
  obtain ⟨u2, hg, he, hx⟩ := bgd hx
  refine Ev.blk (is := [.aload_n 0, .getfield 8200]) (pc2 := 135) (L2 := [(2, v0), (0, v1), (9, 0), (9, 0), (2, v4), (0, v5)]) (S2 := [(2, u2)]) (h2 := h1) (by decide +kernel) (by subst he; rfl) (by exact hg) ?_
  clear hg he
  refine Ev.blk (is := [.iload_n 1]) (pc2 := 136) (L2 := [(2, v0), (0, v1), (9, 0), (9, 0), (2, v4), (0, v5)]) (S2 := [(0, v1), (2, u2)]) (h2 := h1) (by decide +kernel) rfl trivial ?_
  obtain ⟨_, hg, -, hx⟩ := bgd hx
  obtain ⟨h4, hc, hx⟩ := bca hx
  refine Ev.call (args := [(2, u2), (0, v1)]) (S2 := []) (r1 := none) (h1 := h4) (i := .invokevirtual 87) (by decide +kernel) rfl rfl (Nat.le_of_ble_eq_true rfl) (Or.inr (Or.inl ⟨rfl, hg, by decide +kernel⟩)) (x_Ledger_checkFrom (by omega) hc) ?_
  refine Ev.blk (is := [.iload 5]) (pc2 := 141) (L2 := [(2, v0), (0, v1), (9, 0), (9, 0), (2, v4), (0, v5)]) (S2 := [(0, v5)]) (h2 := h4) (by decide +kernel) rfl trivial ?_
  cases hx
  exact Ev.ret (i := .ireturn) (len := 1) (by decide +kernel) rfl (finOf (t := some .int) rfl (trivial))
theorem y_X_set_87 {sc : AS} {d : Nat} (hd : 6 ≤ d) : ∀ (v0 : Int) (v1 : Int) (v2 : Int) (v3 : Int) (v4 : Int) (h : AH) (r : (Int × AH)), X_set_87 v0 v1 v2 v3 v4 h = some r → Ev sc d 93 87 [(2, v0), (0, v1), (0, v2), (0, v3), (2, v4), (9, 0)] [] h (some (0, r.1)) r.2 := by
  intro v0 v1 v2 v3 v4 h r hx
  unfold X_set_87 at hx
  refine Ev.blk (is := [.iload_n 2, .iconst 2]) (pc2 := 89) (L2 := [(2, v0), (0, v1), (0, v2), (0, v3), (2, v4), (9, 0)]) (S2 := [(0, 2), (0, v2)]) (h2 := h) (by decide +kernel) rfl trivial ?_
  obtain ⟨ha, hb⟩ := bite hx
  clear hx
  refine Ev.br (i := .if_icmp .ne 34) (len := 3) (a := 92) (b := 123) (by decide +kernel) rfl Iff.rfl (fun hc => ?_) (fun hc => ?_)
  · have hx := ha hc
    clear ha hb hc
    refine Ev.blk (is := [.aload 4]) (pc2 := 94) (L2 := [(2, v0), (0, v1), (0, v2), (0, v3), (2, v4), (9, 0)]) (S2 := [(2, v4)]) (h2 := h) (by decide +kernel) rfl trivial ?_
    obtain ⟨_, hg, -, hx⟩ := bgd hx
    obtain ⟨u1, hc, hx⟩ := bca hx
    refine Ev.call (args := [(2, v4)]) (S2 := []) (r1 := (some (0, u1))) (h1 := h) (i := .invokevirtual 47) (by decide +kernel) rfl rfl (Nat.le_of_ble_eq_true rfl) (Or.inr (Or.inl ⟨rfl, hg, by decide +kernel⟩)) (x_Line_hasPQ (by omega) hc) ?_
    obtain ⟨ha, hb⟩ := bite hx
    clear hx
    refine Ev.br (i := .ifCond .eq 26) (len := 3) (a := 123) (b := 100) (by decide +kernel) rfl Iff.rfl (fun hc => ?_) (fun hc => ?_)
    · have hx := ha hc
      clear ha hb hc
      refine Ev.blk (is := [.iconst (-1)]) (pc2 := 124) (L2 := [(2, v0), (0, v1), (0, v2), (0, v3), (2, v4), (9, 0)]) (S2 := [(0, (-1))]) (h2 := h) (by decide +kernel) rfl trivial ?_
      cases hx
      exact Ev.ret (i := .ireturn) (len := 1) (by decide +kernel) rfl (finOf (t := some .int) rfl (trivial))
    · have hx := hb hc
      clear ha hb hc
      refine Ev.blk (is := [.iload_n 3]) (pc2 := 101) (L2 := [(2, v0), (0, v1), (0, v2), (0, v3), (2, v4), (9, 0)]) (S2 := [(0, v3)]) (h2 := h) (by decide +kernel) rfl trivial ?_
      obtain ⟨u2, hc, hx⟩ := bca hx
      refine Ev.call (args := [(0, v3)]) (S2 := []) (r1 := (some (0, u2))) (h1 := h) (i := .invokestatic 94) (by decide +kernel) rfl rfl (Nat.le_of_ble_eq_true rfl) (Or.inl rfl) (x_X_isPQ (by omega) hc) ?_
      obtain ⟨ha, hb⟩ := bite hx
      clear hx
      refine Ev.br (i := .ifCond .eq 19) (len := 3) (a := 123) (b := 107) (by decide +kernel) rfl Iff.rfl (fun hc => ?_) (fun hc => ?_)
      · have hx := ha hc
        clear ha hb hc
        refine Ev.blk (is := [.iconst (-1)]) (pc2 := 124) (L2 := [(2, v0), (0, v1), (0, v2), (0, v3), (2, v4), (9, 0)]) (S2 := [(0, (-1))]) (h2 := h) (by decide +kernel) rfl trivial ?_
        cases hx
        exact Ev.ret (i := .ireturn) (len := 1) (by decide +kernel) rfl (finOf (t := some .int) rfl (trivial))
      · have hx := hb hc
        clear ha hb hc
        obtain ⟨u3, hg, he, hx⟩ := bgd hx
        refine Ev.blk (is := [.aload 4, .getfield 3005]) (pc2 := 112) (L2 := [(2, v0), (0, v1), (0, v2), (0, v3), (2, v4), (9, 0)]) (S2 := [(0, u3)]) (h2 := h) (by decide +kernel) (by subst he; rfl) (by exact hg) ?_
        clear hg he
        obtain ⟨h4, hg, he, hx⟩ := bgd hx
        refine Ev.blk (is := [.istore 5, .aload 4, .iload_n 3, .putfield 3005]) (pc2 := 120) (L2 := [(2, v0), (0, v1), (0, v2), (0, v3), (2, v4), (0, u3)]) (S2 := []) (h2 := h4) (by decide +kernel) (by subst he; rfl) (by exact hg) ?_
        clear hg he
        refine Ev.jp (i := .goto 5) (len := 3) (pc2 := 125) (by decide +kernel) rfl ?_
        refine Ev.wk (L2 := [(2, v0), (0, v1), (9, 0), (9, 0), (2, v4), (0, u3)]) (wkL_of ⟨Or.inl rfl, ⟨Or.inl rfl, ⟨Or.inr rfl, ⟨Or.inr rfl, ⟨Or.inl rfl, ⟨Or.inl rfl, trivial⟩⟩⟩⟩⟩⟩) ?_
        exact y_X_set_125 hd v0 v1 v4 u3 h4 _ hx
  · have hx := hb hc
    clear ha hb hc
    refine Ev.blk (is := [.iconst (-1)]) (pc2 := 124) (L2 := [(2, v0), (0, v1), (0, v2), (0, v3), (2, v4), (9, 0)]) (S2 := [(0, (-1))]) (h2 := h) (by decide +kernel) rfl trivial ?_
    cases hx
    exact Ev.ret (i := .ireturn) (len := 1) (by decide +kernel) rfl (finOf (t := some .int) rfl (trivial))
theorem y_X_set_51 {sc : AS} {d : Nat} (hd : 6 ≤ d) : ∀ (v0 : Int) (v1 : Int) (v2 : Int) (v3 : Int) (v4 : Int) (h : AH) (r : (Int × AH)), X_set_51 v0 v1 v2 v3 v4 h = some r → Ev sc d 93 51 [(2, v0), (0, v1), (0, v2), (0, v3), (2, v4), (9, 0)] [] h (some (0, r.1)) r.2 := by
  intro v0 v1 v2 v3 v4 h r hx
  unfold X_set_51 at hx
  refine Ev.blk (is := [.iload_n 2, .iconst 1]) (pc2 := 53) (L2 := [(2, v0), (0, v1), (0, v2), (0, v3), (2, v4), (9, 0)]) (S2 := [(0, 1), (0, v2)]) (h2 := h) (by decide +kernel) rfl trivial ?_
  obtain ⟨ha, hb⟩ := bite hx
  clear hx
  refine Ev.br (i := .if_icmp .ne 34) (len := 3) (a := 56) (b := 87) (by decide +kernel) rfl Iff.rfl (fun hc => ?_) (fun hc => ?_)
  · have hx := ha hc
    clear ha hb hc
    refine Ev.blk (is := [.aload 4]) (pc2 := 58) (L2 := [(2, v0), (0, v1), (0, v2), (0, v3), (2, v4), (9, 0)]) (S2 := [(2, v4)]) (h2 := h) (by decide +kernel) rfl trivial ?_
    obtain ⟨_, hg, -, hx⟩ := bgd hx
    obtain ⟨u1, hc, hx⟩ := bca hx
    refine Ev.call (args := [(2, v4)]) (S2 := []) (r1 := (some (0, u1))) (h1 := h) (i := .invokevirtual 47) (by decide +kernel) rfl rfl (Nat.le_of_ble_eq_true rfl) (Or.inr (Or.inl ⟨rfl, hg, by decide +kernel⟩)) (x_Line_hasPQ (by omega) hc) ?_
    obtain ⟨ha, hb⟩ := bite hx
    clear hx
    refine Ev.br (i := .ifCond .eq 26) (len := 3) (a := 87) (b := 64) (by decide +kernel) rfl Iff.rfl (fun hc => ?_) (fun hc => ?_)
    · have hx := ha hc
      clear ha hb hc
      exact y_X_set_87 hd v0 v1 v2 v3 v4 h _ hx
    · have hx := hb hc
      clear ha hb hc
      refine Ev.blk (is := [.iload_n 3]) (pc2 := 65) (L2 := [(2, v0), (0, v1), (0, v2), (0, v3), (2, v4), (9, 0)]) (S2 := [(0, v3)]) (h2 := h) (by decide +kernel) rfl trivial ?_
      obtain ⟨u2, hc, hx⟩ := bca hx
      refine Ev.call (args := [(0, v3)]) (S2 := []) (r1 := (some (0, u2))) (h1 := h) (i := .invokestatic 94) (by decide +kernel) rfl rfl (Nat.le_of_ble_eq_true rfl) (Or.inl rfl) (x_X_isPQ (by omega) hc) ?_
      obtain ⟨ha, hb⟩ := bite hx
      clear hx
      refine Ev.br (i := .ifCond .eq 19) (len := 3) (a := 87) (b := 71) (by decide +kernel) rfl Iff.rfl (fun hc => ?_) (fun hc => ?_)
      · have hx := ha hc
        clear ha hb hc
        exact y_X_set_87 hd v0 v1 v2 v3 v4 h _ hx
      · have hx := hb hc
        clear ha hb hc
        obtain ⟨u3, hg, he, hx⟩ := bgd hx
        refine Ev.blk (is := [.aload 4, .getfield 3004]) (pc2 := 76) (L2 := [(2, v0), (0, v1), (0, v2), (0, v3), (2, v4), (9, 0)]) (S2 := [(0, u3)]) (h2 := h) (by decide +kernel) (by subst he; rfl) (by exact hg) ?_
        clear hg he
        obtain ⟨h4, hg, he, hx⟩ := bgd hx
        refine Ev.blk (is := [.istore 5, .aload 4, .iload_n 3, .putfield 3004]) (pc2 := 84) (L2 := [(2, v0), (0, v1), (0, v2), (0, v3), (2, v4), (0, u3)]) (S2 := []) (h2 := h4) (by decide +kernel) (by subst he; rfl) (by exact hg) ?_
        clear hg he
        refine Ev.jp (i := .goto 41) (len := 3) (pc2 := 125) (by decide +kernel) rfl ?_
        refine Ev.wk (L2 := [(2, v0), (0, v1), (9, 0), (9, 0), (2, v4), (0, u3)]) (wkL_of ⟨Or.inl rfl, ⟨Or.inl rfl, ⟨Or.inr rfl, ⟨Or.inr rfl, ⟨Or.inl rfl, ⟨Or.inl rfl, trivial⟩⟩⟩⟩⟩⟩) ?_
        exact y_X_set_125 hd v0 v1 v4 u3 h4 _ hx
  · have hx := hb hc
    clear ha hb hc
    exact y_X_set_87 hd v0 v1 v2 v3 v4 h _ hx
theorem x_X_set {sc : AS} {d : Nat} (hd : 7 ≤ d) {v0 : Int} {v1 : Int} {v2 : Int} {v3 : Int} {h : AH} {r : (Int × AH)} (hx : X_set v0 v1 v2 v3 h = some r) : Runs sc d 93 [(2, v0), (0, v1), (0, v2), (0, v3)] h (some (0, r.1)) r.2 := by
  obtain ⟨d, rfl⟩ : ∃ e, d = e + 1 := ⟨d - 1, by omega⟩
  have hd : 6 ≤ d := by omega
  unfold X_set at hx
  refine ⟨⟨aM_93, rfl, Nat.le_of_ble_eq_true rfl⟩, ?_⟩
  show Ev sc d 93 0 [(2, v0), (0, v1), (0, v2), (0, v3), (9, 0), (9, 0)] [] h (some (0, r.1)) r.2
  obtain ⟨u1, hg, he, hx⟩ := bgd hx
  refine Ev.blk (is := [.aload_n 0, .getfield 8200]) (pc2 := 4) (L2 := [(2, v0), (0, v1), (0, v2), (0, v3), (9, 0), (9, 0)]) (S2 := [(2, u1)]) (h2 := h) (by decide +kernel) (by subst he; rfl) (by exact hg) ?_
  clear hg he
  refine Ev.blk (is := [.iload_n 1]) (pc2 := 5) (L2 := [(2, v0), (0, v1), (0, v2), (0, v3), (9, 0), (9, 0)]) (S2 := [(0, v1), (2, u1)]) (h2 := h) (by decide +kernel) rfl trivial ?_
  obtain ⟨_, hg, -, hx⟩ := bgd hx
  obtain ⟨u2, hc, hx⟩ := bca hx
  refine Ev.call (args := [(2, u1), (0, v1)]) (S2 := []) (r1 := (some (0, u2))) (h1 := h) (i := .invokevirtual 13) (by decide +kernel) rfl rfl (Nat.le_of_ble_eq_true rfl) (Or.inr (Or.inl ⟨rfl, hg, by decide +kernel⟩)) (x_Ledger_has (by omega) hc) ?_
  obtain ⟨ha, hb⟩ := bite hx
  clear hx
  refine Ev.br (i := .ifCond .ne 5) (len := 3) (a := 11) (b := 13) (by decide +kernel) rfl Iff.rfl (fun hc => ?_) (fun hc => ?_)
  · have hx := ha hc
    clear ha hb hc
    refine Ev.blk (is := [.iconst (-1)]) (pc2 := 12) (L2 := [(2, v0), (0, v1), (0, v2), (0, v3), (9, 0), (9, 0)]) (S2 := [(0, (-1))]) (h2 := h) (by decide +kernel) rfl trivial ?_
    cases hx
    exact Ev.ret (i := .ireturn) (len := 1) (by decide +kernel) rfl (finOf (t := some .int) rfl (trivial))
  · have hx := hb hc
    clear ha hb hc
    obtain ⟨u3, hg, he, hx⟩ := bgd hx
    refine Ev.blk (is := [.aload_n 0, .getfield 8200]) (pc2 := 17) (L2 := [(2, v0), (0, v1), (0, v2), (0, v3), (9, 0), (9, 0)]) (S2 := [(2, u3)]) (h2 := h) (by decide +kernel) (by subst he; rfl) (by exact hg) ?_
    clear hg he
    obtain ⟨u4, hg, he, hx⟩ := bgd hx
    refine Ev.blk (is := [.getfield 2200]) (pc2 := 20) (L2 := [(2, v0), (0, v1), (0, v2), (0, v3), (9, 0), (9, 0)]) (S2 := [(2, u4)]) (h2 := h) (by decide +kernel) (by subst he; rfl) (by exact hg) ?_
    clear hg he
    obtain ⟨u5, hg, he, hx⟩ := bgd hx
    refine Ev.blk (is := [.iload_n 1, .aaload]) (pc2 := 22) (L2 := [(2, v0), (0, v1), (0, v2), (0, v3), (9, 0), (9, 0)]) (S2 := [(2, u5)]) (h2 := h) (by decide +kernel) (by subst he; rfl) (by exact hg) ?_
    clear hg he
    refine Ev.blk (is := [.astore 4, .iload_n 2]) (pc2 := 25) (L2 := [(2, v0), (0, v1), (0, v2), (0, v3), (2, u5), (9, 0)]) (S2 := [(0, v2)]) (h2 := h) (by decide +kernel) rfl trivial ?_
    obtain ⟨ha, hb⟩ := bite hx
    clear hx
    refine Ev.br (i := .ifCond .ne 26) (len := 3) (a := 28) (b := 51) (by decide +kernel) rfl Iff.rfl (fun hc => ?_) (fun hc => ?_)
    · have hx := ha hc
      clear ha hb hc
      refine Ev.blk (is := [.iload_n 3]) (pc2 := 29) (L2 := [(2, v0), (0, v1), (0, v2), (0, v3), (2, u5), (9, 0)]) (S2 := [(0, v3)]) (h2 := h) (by decide +kernel) rfl trivial ?_
      obtain ⟨u6, hc, hx⟩ := bca hx
      refine Ev.call (args := [(0, v3)]) (S2 := []) (r1 := (some (0, u6))) (h1 := h) (i := .invokestatic 10) (by decide +kernel) rfl rfl (Nat.le_of_ble_eq_true rfl) (Or.inl rfl) (x_Arithmetic_isNumber (by omega) hc) ?_
      obtain ⟨ha, hb⟩ := bite hx
      clear hx
      refine Ev.br (i := .ifCond .eq 19) (len := 3) (a := 51) (b := 35) (by decide +kernel) rfl Iff.rfl (fun hc => ?_) (fun hc => ?_)
      · have hx := ha hc
        clear ha hb hc
        exact y_X_set_51 hd v0 v1 v2 v3 u5 h _ hx
      · have hx := hb hc
        clear ha hb hc
        obtain ⟨u7, hg, he, hx⟩ := bgd hx
        refine Ev.blk (is := [.aload 4, .getfield 3002]) (pc2 := 40) (L2 := [(2, v0), (0, v1), (0, v2), (0, v3), (2, u5), (9, 0)]) (S2 := [(0, u7)]) (h2 := h) (by decide +kernel) (by subst he; rfl) (by exact hg) ?_
        clear hg he
        obtain ⟨h8, hg, he, hx⟩ := bgd hx
        refine Ev.blk (is := [.istore 5, .aload 4, .iload_n 3, .putfield 3002]) (pc2 := 48) (L2 := [(2, v0), (0, v1), (0, v2), (0, v3), (2, u5), (0, u7)]) (S2 := []) (h2 := h8) (by decide +kernel) (by subst he; rfl) (by exact hg) ?_
        clear hg he
        refine Ev.jp (i := .goto 77) (len := 3) (pc2 := 125) (by decide +kernel) rfl ?_
        refine Ev.wk (L2 := [(2, v0), (0, v1), (9, 0), (9, 0), (2, u5), (0, u7)]) (wkL_of ⟨Or.inl rfl, ⟨Or.inl rfl, ⟨Or.inr rfl, ⟨Or.inr rfl, ⟨Or.inl rfl, ⟨Or.inl rfl, trivial⟩⟩⟩⟩⟩⟩) ?_
        exact y_X_set_125 hd v0 v1 u5 u7 h8 _ hx
    · have hx := hb hc
      clear ha hb hc
      exact y_X_set_51 hd v0 v1 v2 v3 u5 h _ hx
theorem x_Line_side {sc : AS} {d : Nat} (hd : 1 ≤ d) {v0 : Int} {v1 : Int} {h : AH} {r : Int} (hx : Line_side v0 v1 h = some r) : Runs sc d 97 [(2, v0), (0, v1)] h (some (2, r)) h := by
  obtain ⟨d, rfl⟩ : ∃ e, d = e + 1 := ⟨d - 1, by omega⟩
  have hd : 0 ≤ d := by omega
  unfold Line_side at hx
  refine ⟨⟨aM_97, rfl, Nat.le_of_ble_eq_true rfl⟩, ?_⟩
  show Ev sc d 97 0 [(2, v0), (0, v1)] [] h (some (2, r)) h
  refine Ev.blk (is := [.iload_n 1]) (pc2 := 1) (L2 := [(2, v0), (0, v1)]) (S2 := [(0, v1)]) (h2 := h) (by decide +kernel) rfl trivial ?_
  obtain ⟨ha, hb⟩ := bite hx
  clear hx
  refine Ev.br (i := .ifCond .eq 10) (len := 3) (a := 11) (b := 4) (by decide +kernel) rfl Iff.rfl (fun hc => ?_) (fun hc => ?_)
  · have hx := ha hc
    clear ha hb hc
    obtain ⟨u1, hg, he, hx⟩ := bgd hx
    refine Ev.blk (is := [.aload_n 0, .getfield 3200]) (pc2 := 15) (L2 := [(2, v0), (0, v1)]) (S2 := [(2, u1)]) (h2 := h) (by decide +kernel) (by subst he; rfl) (by exact hg) ?_
    clear hg he
    cases hx
    exact Ev.ret (i := .areturn) (len := 1) (by decide +kernel) rfl (finOf (t := some (.object "PrimeProofs$Side")) rfl (trivial))
  · have hx := hb hc
    clear ha hb hc
    obtain ⟨u2, hg, he, hx⟩ := bgd hx
    refine Ev.blk (is := [.aload_n 0, .getfield 3201]) (pc2 := 8) (L2 := [(2, v0), (0, v1)]) (S2 := [(2, u2)]) (h2 := h) (by decide +kernel) (by subst he; rfl) (by exact hg) ?_
    clear hg he
    refine Ev.jp (i := .goto 7) (len := 3) (pc2 := 15) (by decide +kernel) rfl ?_
    cases hx
    exact Ev.ret (i := .areturn) (len := 1) (by decide +kernel) rfl (finOf (t := some (.object "PrimeProofs$Side")) rfl (trivial))
theorem x_Side_has {sc : AS} {d : Nat} (hd : 1 ≤ d) {v0 : Int} {v1 : Int} {h : AH} {r : Int} (hx : Side_has v0 v1 h = some r) : Runs sc d 98 [(2, v0), (0, v1)] h (some (0, r)) h := by
  obtain ⟨d, rfl⟩ : ∃ e, d = e + 1 := ⟨d - 1, by omega⟩
  have hd : 0 ≤ d := by omega
  unfold Side_has at hx
  refine ⟨⟨aM_98, rfl, Nat.le_of_ble_eq_true rfl⟩, ?_⟩
  show Ev sc d 98 0 [(2, v0), (0, v1)] [] h (some (0, r)) h
  refine Ev.blk (is := [.iload_n 1]) (pc2 := 1) (L2 := [(2, v0), (0, v1)]) (S2 := [(0, v1)]) (h2 := h) (by decide +kernel) rfl trivial ?_
  obtain ⟨ha, hb⟩ := bite hx
  clear hx
  refine Ev.br (i := .ifCond .lt 15) (len := 3) (a := 16) (b := 4) (by decide +kernel) rfl Iff.rfl (fun hc => ?_) (fun hc => ?_)
  · have hx := ha hc
    clear ha hb hc
    refine Ev.blk (is := [.iconst 0]) (pc2 := 17) (L2 := [(2, v0), (0, v1)]) (S2 := [(0, 0)]) (h2 := h) (by decide +kernel) rfl trivial ?_
    cases hx
    exact Ev.ret (i := .ireturn) (len := 1) (by decide +kernel) rfl (finOf (t := some .boolean) rfl (bz0))
  · have hx := hb hc
    clear ha hb hc
    obtain ⟨u1, hg, he, hx⟩ := bgd hx
    refine Ev.blk (is := [.iload_n 1, .aload_n 0, .getfield 5001]) (pc2 := 9) (L2 := [(2, v0), (0, v1)]) (S2 := [(0, u1), (0, v1)]) (h2 := h) (by decide +kernel) (by subst he; rfl) (by exact hg) ?_
    clear hg he
    obtain ⟨ha, hb⟩ := bite hx
    clear hx
    refine Ev.br (i := .if_icmp .ge 7) (len := 3) (a := 12) (b := 16) (by decide +kernel) rfl Iff.rfl (fun hc => ?_) (fun hc => ?_)
    · have hx := ha hc
      clear ha hb hc
      refine Ev.blk (is := [.iconst 1]) (pc2 := 13) (L2 := [(2, v0), (0, v1)]) (S2 := [(0, 1)]) (h2 := h) (by decide +kernel) rfl trivial ?_
      refine Ev.jp (i := .goto 4) (len := 3) (pc2 := 17) (by decide +kernel) rfl ?_
      cases hx
      exact Ev.ret (i := .ireturn) (len := 1) (by decide +kernel) rfl (finOf (t := some .boolean) rfl (bz1))
    · have hx := hb hc
      clear ha hb hc
      refine Ev.blk (is := [.iconst 0]) (pc2 := 17) (L2 := [(2, v0), (0, v1)]) (S2 := [(0, 0)]) (h2 := h) (by decide +kernel) rfl trivial ?_
      cases hx
      exact Ev.ret (i := .ireturn) (len := 1) (by decide +kernel) rfl (finOf (t := some .boolean) rfl (bz0))
theorem x_Ledger_hasRow {sc : AS} {d : Nat} (hd : 2 ≤ d) {v0 : Int} {v1 : Int} {v2 : Int} {v3 : Int} {h : AH} {r : Int} (hx : Ledger_hasRow v0 v1 v2 v3 h = some r) : Runs sc d 96 [(2, v0), (0, v1), (0, v2), (0, v3)] h (some (0, r)) h := by
  obtain ⟨d, rfl⟩ : ∃ e, d = e + 1 := ⟨d - 1, by omega⟩
  have hd : 1 ≤ d := by omega
  unfold Ledger_hasRow at hx
  refine ⟨⟨aM_96, rfl, Nat.le_of_ble_eq_true rfl⟩, ?_⟩
  show Ev sc d 96 0 [(2, v0), (0, v1), (0, v2), (0, v3)] [] h (some (0, r)) h
  refine Ev.blk (is := [.aload_n 0, .iload_n 1]) (pc2 := 2) (L2 := [(2, v0), (0, v1), (0, v2), (0, v3)]) (S2 := [(0, v1), (2, v0)]) (h2 := h) (by decide +kernel) rfl trivial ?_
  obtain ⟨_, hg, -, hx⟩ := bgd hx
  obtain ⟨u1, hc, hx⟩ := bca hx
  refine Ev.call (args := [(2, v0), (0, v1)]) (S2 := []) (r1 := (some (0, u1))) (h1 := h) (i := .invokevirtual 13) (by decide +kernel) rfl rfl (Nat.le_of_ble_eq_true rfl) (Or.inr (Or.inl ⟨rfl, hg, by decide +kernel⟩)) (x_Ledger_has (by omega) hc) ?_
  obtain ⟨ha, hb⟩ := bite hx
  clear hx
  refine Ev.br (i := .ifCond .eq 24) (len := 3) (a := 29) (b := 8) (by decide +kernel) rfl Iff.rfl (fun hc => ?_) (fun hc => ?_)
  · have hx := ha hc
    clear ha hb hc
    refine Ev.blk (is := [.iconst 0]) (pc2 := 30) (L2 := [(2, v0), (0, v1), (0, v2), (0, v3)]) (S2 := [(0, 0)]) (h2 := h) (by decide +kernel) rfl trivial ?_
    cases hx
    exact Ev.ret (i := .ireturn) (len := 1) (by decide +kernel) rfl (finOf (t := some .boolean) rfl (bz0))
  · have hx := hb hc
    clear ha hb hc
    obtain ⟨u2, hg, he, hx⟩ := bgd hx
    refine Ev.blk (is := [.aload_n 0, .getfield 2200]) (pc2 := 12) (L2 := [(2, v0), (0, v1), (0, v2), (0, v3)]) (S2 := [(2, u2)]) (h2 := h) (by decide +kernel) (by subst he; rfl) (by exact hg) ?_
    clear hg he
    obtain ⟨u3, hg, he, hx⟩ := bgd hx
    refine Ev.blk (is := [.iload_n 1, .aaload]) (pc2 := 14) (L2 := [(2, v0), (0, v1), (0, v2), (0, v3)]) (S2 := [(2, u3)]) (h2 := h) (by decide +kernel) (by subst he; rfl) (by exact hg) ?_
    clear hg he
    refine Ev.blk (is := [.iload_n 2]) (pc2 := 15) (L2 := [(2, v0), (0, v1), (0, v2), (0, v3)]) (S2 := [(0, v2), (2, u3)]) (h2 := h) (by decide +kernel) rfl trivial ?_
    obtain ⟨_, hg, -, hx⟩ := bgd hx
    obtain ⟨u4, hc, hx⟩ := bca hx
    refine Ev.call (args := [(2, u3), (0, v2)]) (S2 := []) (r1 := (some (2, u4))) (h1 := h) (i := .invokevirtual 97) (by decide +kernel) rfl rfl (Nat.le_of_ble_eq_true rfl) (Or.inr (Or.inl ⟨rfl, hg, by decide +kernel⟩)) (x_Line_side (by omega) hc) ?_
    refine Ev.blk (is := [.iload_n 3]) (pc2 := 19) (L2 := [(2, v0), (0, v1), (0, v2), (0, v3)]) (S2 := [(0, v3), (2, u4)]) (h2 := h) (by decide +kernel) rfl trivial ?_
    obtain ⟨_, hg, -, hx⟩ := bgd hx
    obtain ⟨u5, hc, hx⟩ := bca hx
    refine Ev.call (args := [(2, u4), (0, v3)]) (S2 := []) (r1 := (some (0, u5))) (h1 := h) (i := .invokevirtual 98) (by decide +kernel) rfl rfl (Nat.le_of_ble_eq_true rfl) (Or.inr (Or.inl ⟨rfl, hg, by decide +kernel⟩)) (x_Side_has (by omega) hc) ?_
    obtain ⟨ha, hb⟩ := bite hx
    clear hx
    refine Ev.br (i := .ifCond .eq 7) (len := 3) (a := 29) (b := 25) (by decide +kernel) rfl Iff.rfl (fun hc => ?_) (fun hc => ?_)
    · have hx := ha hc
      clear ha hb hc
      refine Ev.blk (is := [.iconst 0]) (pc2 := 30) (L2 := [(2, v0), (0, v1), (0, v2), (0, v3)]) (S2 := [(0, 0)]) (h2 := h) (by decide +kernel) rfl trivial ?_
      cases hx
      exact Ev.ret (i := .ireturn) (len := 1) (by decide +kernel) rfl (finOf (t := some .boolean) rfl (bz0))
    · have hx := hb hc
      clear ha hb hc
      refine Ev.blk (is := [.iconst 1]) (pc2 := 26) (L2 := [(2, v0), (0, v1), (0, v2), (0, v3)]) (S2 := [(0, 1)]) (h2 := h) (by decide +kernel) rfl trivial ?_
      refine Ev.jp (i := .goto 4) (len := 3) (pc2 := 30) (by decide +kernel) rfl ?_
      cases hx
      exact Ev.ret (i := .ireturn) (len := 1) (by decide +kernel) rfl (finOf (t := some .boolean) rfl (bz1))
theorem x_Side_fits {sc : AS} {d : Nat} (hd : 2 ≤ d) {v0 : Int} {v1 : Int} {v2 : Int} {h : AH} {r : Int} (hx : Side_fits v0 v1 v2 = some r) : Runs sc d 99 [(0, v0), (0, v1), (0, v2)] h (some (0, r)) h := by
  obtain ⟨d, rfl⟩ : ∃ e, d = e + 1 := ⟨d - 1, by omega⟩
  have hd : 1 ≤ d := by omega
  unfold Side_fits at hx
  refine ⟨⟨aM_99, rfl, Nat.le_of_ble_eq_true rfl⟩, ?_⟩
  show Ev sc d 99 0 [(0, v0), (0, v1), (0, v2)] [] h (some (0, r)) h
  refine Ev.blk (is := [.iload_n 1]) (pc2 := 1) (L2 := [(0, v0), (0, v1), (0, v2)]) (S2 := [(0, v1)]) (h2 := h) (by decide +kernel) rfl trivial ?_
  obtain ⟨ha, hb⟩ := bite hx
  clear hx
  by_cases hc0 : v1 = 0
  · have hx := ha hc0
    clear ha hb
    refine Ev.jp (i := .tableswitch 71 0 2 #[27, 32, 49]) (len := 27) (pc2 := 28) (by decide +kernel) (by rw [hc0]; rfl) ?_
    clear hc0
    refine Ev.blk (is := [.iload_n 2]) (pc2 := 29) (L2 := [(0, v0), (0, v1), (0, v2)]) (S2 := [(0, v2)]) (h2 := h) (by decide +kernel) rfl trivial ?_
    obtain ⟨u1, hc, hx⟩ := bca hx
    refine Ev.call (args := [(0, v2)]) (S2 := []) (r1 := (some (0, u1))) (h1 := h) (i := .invokestatic 10) (by decide +kernel) rfl rfl (Nat.le_of_ble_eq_true rfl) (Or.inl rfl) (x_Arithmetic_isNumber (by omega) hc) ?_
    obtain ⟨_, hg, -, hx⟩ := bgd hx
    cases hx
    exact Ev.ret (i := .ireturn) (len := 1) (by decide +kernel) rfl (finOf (t := some .boolean) rfl (hg))
  have hx := hb hc0
  clear ha hb
  obtain ⟨ha, hb⟩ := bite hx
  clear hx
  by_cases hc1 : v1 = 1
  · have hx := ha hc1
    clear ha hb
    refine Ev.jp (i := .tableswitch 71 0 2 #[27, 32, 49]) (len := 27) (pc2 := 33) (by decide +kernel) (by rw [hc1]; rfl) ?_
    clear hc1
    refine Ev.blk (is := [.iload_n 2, .iconst 1]) (pc2 := 35) (L2 := [(0, v0), (0, v1), (0, v2)]) (S2 := [(0, 1), (0, v2)]) (h2 := h) (by decide +kernel) rfl trivial ?_
    obtain ⟨ha, hb⟩ := bite hx
    clear hx
    refine Ev.br (i := .if_icmp .lt 13) (len := 3) (a := 48) (b := 38) (by decide +kernel) rfl Iff.rfl (fun hc => ?_) (fun hc => ?_)
    · have hx := ha hc
      clear ha hb hc
      refine Ev.blk (is := [.iconst 0]) (pc2 := 49) (L2 := [(0, v0), (0, v1), (0, v2)]) (S2 := [(0, 0)]) (h2 := h) (by decide +kernel) rfl trivial ?_
      cases hx
      exact Ev.ret (i := .ireturn) (len := 1) (by decide +kernel) rfl (finOf (t := some .boolean) rfl (bz0))
    · have hx := hb hc
      clear ha hb hc
      refine Ev.blk (is := [.iload_n 2, .sipush 30]) (pc2 := 41) (L2 := [(0, v0), (0, v1), (0, v2)]) (S2 := [(0, 30), (0, v2)]) (h2 := h) (by decide +kernel) rfl trivial ?_
      obtain ⟨ha, hb⟩ := bite hx
      clear hx
      refine Ev.br (i := .if_icmp .gt 7) (len := 3) (a := 48) (b := 44) (by decide +kernel) rfl Iff.rfl (fun hc => ?_) (fun hc => ?_)
      · have hx := ha hc
        clear ha hb hc
        refine Ev.blk (is := [.iconst 0]) (pc2 := 49) (L2 := [(0, v0), (0, v1), (0, v2)]) (S2 := [(0, 0)]) (h2 := h) (by decide +kernel) rfl trivial ?_
        cases hx
        exact Ev.ret (i := .ireturn) (len := 1) (by decide +kernel) rfl (finOf (t := some .boolean) rfl (bz0))
      · have hx := hb hc
        clear ha hb hc
        refine Ev.blk (is := [.iconst 1]) (pc2 := 45) (L2 := [(0, v0), (0, v1), (0, v2)]) (S2 := [(0, 1)]) (h2 := h) (by decide +kernel) rfl trivial ?_
        refine Ev.jp (i := .goto 4) (len := 3) (pc2 := 49) (by decide +kernel) rfl ?_
        cases hx
        exact Ev.ret (i := .ireturn) (len := 1) (by decide +kernel) rfl (finOf (t := some .boolean) rfl (bz1))
  have hx := hb hc1
  clear ha hb
  obtain ⟨ha, hb⟩ := bite hx
  clear hx
  by_cases hc2 : v1 = 2
  · have hx := ha hc2
    clear ha hb
    refine Ev.jp (i := .tableswitch 71 0 2 #[27, 32, 49]) (len := 27) (pc2 := 50) (by decide +kernel) (by rw [hc2]; rfl) ?_
    clear hc2
    refine Ev.blk (is := [.iload_n 0]) (pc2 := 51) (L2 := [(0, v0), (0, v1), (0, v2)]) (S2 := [(0, v0)]) (h2 := h) (by decide +kernel) rfl trivial ?_
    obtain ⟨ha, hb⟩ := bite hx
    clear hx
    refine Ev.br (i := .ifCond .ne 19) (len := 3) (a := 54) (b := 70) (by decide +kernel) rfl Iff.rfl (fun hc => ?_) (fun hc => ?_)
    · have hx := ha hc
      clear ha hb hc
      refine Ev.blk (is := [.iload_n 2, .iconst 2]) (pc2 := 56) (L2 := [(0, v0), (0, v1), (0, v2)]) (S2 := [(0, 2), (0, v2)]) (h2 := h) (by decide +kernel) rfl trivial ?_
      obtain ⟨ha, hb⟩ := bite hx
      clear hx
      refine Ev.br (i := .if_icmp .lt 14) (len := 3) (a := 70) (b := 59) (by decide +kernel) rfl Iff.rfl (fun hc => ?_) (fun hc => ?_)
      · have hx := ha hc
        clear ha hb hc
        refine Ev.blk (is := [.iconst 0]) (pc2 := 71) (L2 := [(0, v0), (0, v1), (0, v2)]) (S2 := [(0, 0)]) (h2 := h) (by decide +kernel) rfl trivial ?_
        cases hx
        exact Ev.ret (i := .ireturn) (len := 1) (by decide +kernel) rfl (finOf (t := some .boolean) rfl (bz0))
      · have hx := hb hc
        clear ha hb hc
        refine Ev.blk (is := [.iload_n 2, .sipush 999]) (pc2 := 63) (L2 := [(0, v0), (0, v1), (0, v2)]) (S2 := [(0, 999), (0, v2)]) (h2 := h) (by decide +kernel) rfl trivial ?_
        obtain ⟨ha, hb⟩ := bite hx
        clear hx
        refine Ev.br (i := .if_icmp .gt 7) (len := 3) (a := 70) (b := 66) (by decide +kernel) rfl Iff.rfl (fun hc => ?_) (fun hc => ?_)
        · have hx := ha hc
          clear ha hb hc
          refine Ev.blk (is := [.iconst 0]) (pc2 := 71) (L2 := [(0, v0), (0, v1), (0, v2)]) (S2 := [(0, 0)]) (h2 := h) (by decide +kernel) rfl trivial ?_
          cases hx
          exact Ev.ret (i := .ireturn) (len := 1) (by decide +kernel) rfl (finOf (t := some .boolean) rfl (bz0))
        · have hx := hb hc
          clear ha hb hc
          refine Ev.blk (is := [.iconst 1]) (pc2 := 67) (L2 := [(0, v0), (0, v1), (0, v2)]) (S2 := [(0, 1)]) (h2 := h) (by decide +kernel) rfl trivial ?_
          refine Ev.jp (i := .goto 4) (len := 3) (pc2 := 71) (by decide +kernel) rfl ?_
          cases hx
          exact Ev.ret (i := .ireturn) (len := 1) (by decide +kernel) rfl (finOf (t := some .boolean) rfl (bz1))
    · have hx := hb hc
      clear ha hb hc
      refine Ev.blk (is := [.iconst 0]) (pc2 := 71) (L2 := [(0, v0), (0, v1), (0, v2)]) (S2 := [(0, 0)]) (h2 := h) (by decide +kernel) rfl trivial ?_
      cases hx
      exact Ev.ret (i := .ireturn) (len := 1) (by decide +kernel) rfl (finOf (t := some .boolean) rfl (bz0))
  have hx := hb hc2
  clear ha hb
  refine Ev.jp (i := .tableswitch 71 0 2 #[27, 32, 49]) (len := 27) (pc2 := 72) (by decide +kernel) (jsw (by omega)) ?_
  clear hc0 hc1 hc2
  refine Ev.blk (is := [.iconst 0]) (pc2 := 73) (L2 := [(0, v0), (0, v1), (0, v2)]) (S2 := [(0, 0)]) (h2 := h) (by decide +kernel) rfl trivial ?_
  cases hx
  exact Ev.ret (i := .ireturn) (len := 1) (by decide +kernel) rfl (finOf (t := some .boolean) rfl (bz0))
theorem x_X_alter {sc : AS} {d : Nat} (hd : 7 ≤ d) {v0 : Int} {v1 : Int} {v2 : Int} {v3 : Int} {v4 : Int} {v5 : Int} {h : AH} {r : (Int × AH)} (hx : X_alter v0 v1 v2 v3 v4 v5 h = some r) : Runs sc d 95 [(2, v0), (0, v1), (0, v2), (0, v3), (0, v4), (0, v5)] h (some (0, r.1)) r.2 := by
  obtain ⟨d, rfl⟩ : ∃ e, d = e + 1 := ⟨d - 1, by omega⟩
  have hd : 6 ≤ d := by omega
  unfold X_alter at hx
  refine ⟨⟨aM_95, rfl, Nat.le_of_ble_eq_true rfl⟩, ?_⟩
  show Ev sc d 95 0 [(2, v0), (0, v1), (0, v2), (0, v3), (0, v4), (0, v5), (9, 0), (9, 0), (9, 0)] [] h (some (0, r.1)) r.2
  obtain ⟨u1, hg, he, hx⟩ := bgd hx
  refine Ev.blk (is := [.aload_n 0, .getfield 8200]) (pc2 := 4) (L2 := [(2, v0), (0, v1), (0, v2), (0, v3), (0, v4), (0, v5), (9, 0), (9, 0), (9, 0)]) (S2 := [(2, u1)]) (h2 := h) (by decide +kernel) (by subst he; rfl) (by exact hg) ?_
  clear hg he
  refine Ev.blk (is := [.iload_n 1, .iload_n 2, .iload_n 3]) (pc2 := 7) (L2 := [(2, v0), (0, v1), (0, v2), (0, v3), (0, v4), (0, v5), (9, 0), (9, 0), (9, 0)]) (S2 := [(0, v3), (0, v2), (0, v1), (2, u1)]) (h2 := h) (by decide +kernel) rfl trivial ?_
  obtain ⟨_, hg, -, hx⟩ := bgd hx
  obtain ⟨u2, hc, hx⟩ := bca hx
  refine Ev.call (args := [(2, u1), (0, v1), (0, v2), (0, v3)]) (S2 := []) (r1 := (some (0, u2))) (h1 := h) (i := .invokevirtual 96) (by decide +kernel) rfl rfl (Nat.le_of_ble_eq_true rfl) (Or.inr (Or.inl ⟨rfl, hg, by decide +kernel⟩)) (x_Ledger_hasRow (by omega) hc) ?_
  obtain ⟨ha, hb⟩ := bite hx
  clear hx
  refine Ev.br (i := .ifCond .eq 14) (len := 3) (a := 24) (b := 13) (by decide +kernel) rfl Iff.rfl (fun hc => ?_) (fun hc => ?_)
  · have hx := ha hc
    clear ha hb hc
    refine Ev.blk (is := [.iconst (-1)]) (pc2 := 25) (L2 := [(2, v0), (0, v1), (0, v2), (0, v3), (0, v4), (0, v5), (9, 0), (9, 0), (9, 0)]) (S2 := [(0, (-1))]) (h2 := h) (by decide +kernel) rfl trivial ?_
    cases hx
    exact Ev.ret (i := .ireturn) (len := 1) (by decide +kernel) rfl (finOf (t := some .int) rfl (trivial))
  · have hx := hb hc
    clear ha hb hc
    refine Ev.blk (is := [.iload_n 2, .iload 4, .iload 5]) (pc2 := 18) (L2 := [(2, v0), (0, v1), (0, v2), (0, v3), (0, v4), (0, v5), (9, 0), (9, 0), (9, 0)]) (S2 := [(0, v5), (0, v4), (0, v2)]) (h2 := h) (by decide +kernel) rfl trivial ?_
    obtain ⟨u3, hc, hx⟩ := bca hx
    refine Ev.call (args := [(0, v2), (0, v4), (0, v5)]) (S2 := []) (r1 := (some (0, u3))) (h1 := h) (i := .invokestatic 99) (by decide +kernel) rfl rfl (Nat.le_of_ble_eq_true rfl) (Or.inl rfl) (x_Side_fits (by omega) hc) ?_
    obtain ⟨ha, hb⟩ := bite hx
    clear hx
    refine Ev.br (i := .ifCond .ne 5) (len := 3) (a := 24) (b := 26) (by decide +kernel) rfl Iff.rfl (fun hc => ?_) (fun hc => ?_)
    · have hx := ha hc
      clear ha hb hc
      refine Ev.blk (is := [.iconst (-1)]) (pc2 := 25) (L2 := [(2, v0), (0, v1), (0, v2), (0, v3), (0, v4), (0, v5), (9, 0), (9, 0), (9, 0)]) (S2 := [(0, (-1))]) (h2 := h) (by decide +kernel) rfl trivial ?_
      cases hx
      exact Ev.ret (i := .ireturn) (len := 1) (by decide +kernel) rfl (finOf (t := some .int) rfl (trivial))
    · have hx := hb hc
      clear ha hb hc
      obtain ⟨u4, hg, he, hx⟩ := bgd hx
      refine Ev.blk (is := [.aload_n 0, .getfield 8200]) (pc2 := 30) (L2 := [(2, v0), (0, v1), (0, v2), (0, v3), (0, v4), (0, v5), (9, 0), (9, 0), (9, 0)]) (S2 := [(2, u4)]) (h2 := h) (by decide +kernel) (by subst he; rfl) (by exact hg) ?_
      clear hg he
      obtain ⟨u5, hg, he, hx⟩ := bgd hx
      refine Ev.blk (is := [.getfield 2200]) (pc2 := 33) (L2 := [(2, v0), (0, v1), (0, v2), (0, v3), (0, v4), (0, v5), (9, 0), (9, 0), (9, 0)]) (S2 := [(2, u5)]) (h2 := h) (by decide +kernel) (by subst he; rfl) (by exact hg) ?_
      clear hg he
      obtain ⟨u6, hg, he, hx⟩ := bgd hx
      refine Ev.blk (is := [.iload_n 1, .aaload]) (pc2 := 35) (L2 := [(2, v0), (0, v1), (0, v2), (0, v3), (0, v4), (0, v5), (9, 0), (9, 0), (9, 0)]) (S2 := [(2, u6)]) (h2 := h) (by decide +kernel) (by subst he; rfl) (by exact hg) ?_
      clear hg he
      refine Ev.blk (is := [.astore 6, .aload 6, .iload_n 2]) (pc2 := 40) (L2 := [(2, v0), (0, v1), (0, v2), (0, v3), (0, v4), (0, v5), (2, u6), (9, 0), (9, 0)]) (S2 := [(0, v2), (2, u6)]) (h2 := h) (by decide +kernel) rfl trivial ?_
      obtain ⟨_, hg, -, hx⟩ := bgd hx
      obtain ⟨u7, hc, hx⟩ := bca hx
      refine Ev.call (args := [(2, u6), (0, v2)]) (S2 := []) (r1 := (some (2, u7))) (h1 := h) (i := .invokevirtual 97) (by decide +kernel) rfl rfl (Nat.le_of_ble_eq_true rfl) (Or.inr (Or.inl ⟨rfl, hg, by decide +kernel⟩)) (x_Line_side (by omega) hc) ?_
      refine Ev.blk (is := [.astore 7, .aload 7, .iload_n 3, .iload 4]) (pc2 := 50) (L2 := [(2, v0), (0, v1), (0, v2), (0, v3), (0, v4), (0, v5), (2, u6), (2, u7), (9, 0)]) (S2 := [(0, v4), (0, v3), (2, u7)]) (h2 := h) (by decide +kernel) rfl trivial ?_
      obtain ⟨_, hg, -, hx⟩ := bgd hx
      obtain ⟨u8, hc, hx⟩ := bca hx
      refine Ev.call (args := [(2, u7), (0, v3), (0, v4)]) (S2 := []) (r1 := (some (0, u8))) (h1 := h) (i := .invokevirtual 34) (by decide +kernel) rfl rfl (Nat.le_of_ble_eq_true rfl) (Or.inr (Or.inl ⟨rfl, hg, by decide +kernel⟩)) (x_Side_cell (by omega) hc) ?_
      refine Ev.blk (is := [.istore 8, .aload 7, .iload_n 3, .iload 4, .iload 5]) (pc2 := 62) (L2 := [(2, v0), (0, v1), (0, v2), (0, v3), (0, v4), (0, v5), (2, u6), (2, u7), (0, u8)]) (S2 := [(0, v5), (0, v4), (0, v3), (2, u7)]) (h2 := h) (by decide +kernel) rfl trivial ?_
      obtain ⟨_, hg, -, hx⟩ := bgd hx
      obtain ⟨h10, hc, hx⟩ := bca hx
      refine Ev.call (args := [(2, u7), (0, v3), (0, v4), (0, v5)]) (S2 := []) (r1 := none) (h1 := h10) (i := .invokevirtual 30) (by decide +kernel) rfl rfl (Nat.le_of_ble_eq_true rfl) (Or.inr (Or.inl ⟨rfl, hg, by decide +kernel⟩)) (x_Side_put (by omega) hc) ?_
      obtain ⟨h11, hg, he, hx⟩ := bgd hx
      refine Ev.blk (is := [.aload 6, .iconst (-1), .putfield 3006]) (pc2 := 71) (L2 := [(2, v0), (0, v1), (0, v2), (0, v3), (0, v4), (0, v5), (2, u6), (2, u7), (0, u8)]) (S2 := []) (h2 := h11) (by decide +kernel) (by subst he; rfl) (by exact hg) ?_
      clear hg he
      obtain ⟨u12, hg, he, hx⟩ := bgd hx
      refine Ev.blk (is := [.aload_n 0, .getfield 8200]) (pc2 := 75) (L2 := [(2, v0), (0, v1), (0, v2), (0, v3), (0, v4), (0, v5), (2, u6), (2, u7), (0, u8)]) (S2 := [(2, u12)]) (h2 := h11) (by decide +kernel) (by subst he; rfl) (by exact hg) ?_
      clear hg he
      refine Ev.blk (is := [.iload_n 1]) (pc2 := 76) (L2 := [(2, v0), (0, v1), (0, v2), (0, v3), (0, v4), (0, v5), (2, u6), (2, u7), (0, u8)]) (S2 := [(0, v1), (2, u12)]) (h2 := h11) (by decide +kernel) rfl trivial ?_
      obtain ⟨_, hg, -, hx⟩ := bgd hx
      obtain ⟨h14, hc, hx⟩ := bca hx
      refine Ev.call (args := [(2, u12), (0, v1)]) (S2 := []) (r1 := none) (h1 := h14) (i := .invokevirtual 87) (by decide +kernel) rfl rfl (Nat.le_of_ble_eq_true rfl) (Or.inr (Or.inl ⟨rfl, hg, by decide +kernel⟩)) (x_Ledger_checkFrom (by omega) hc) ?_
      refine Ev.blk (is := [.iload 8]) (pc2 := 81) (L2 := [(2, v0), (0, v1), (0, v2), (0, v3), (0, v4), (0, v5), (2, u6), (2, u7), (0, u8)]) (S2 := [(0, u8)]) (h2 := h14) (by decide +kernel) rfl trivial ?_
      cases hx
      exact Ev.ret (i := .ireturn) (len := 1) (by decide +kernel) rfl (finOf (t := some .int) rfl (trivial))
theorem y_Side_takeOut_12 {sc : AS} {d : Nat} (hd : 1 ≤ d) : ∀ (fu : Nat) (v0 : Int) (v2 : Int) (h : AH) (r : AH), Side_takeOut_12 fu v0 v2 h = some r → Ev sc d 101 12 [(2, v0), (9, 0), (0, v2)] [] h none r := by
  intro fu
  induction fu with
  | zero => intro v0 v2 h r hx; unfold Side_takeOut_12 at hx; cases hx
  | succ fu ih =>
    intro v0 v2 h r hx
    unfold Side_takeOut_12 at hx
    obtain ⟨u1, hg, he, hx⟩ := bgd hx
    refine Ev.blk (is := [.iload_n 2, .iconst 3, .iadd, .aload_n 0, .getfield 5001]) (pc2 := 19) (L2 := [(2, v0), (9, 0), (0, v2)]) (S2 := [(0, u1), (0, w32 (v2 + 3))]) (h2 := h) (by decide +kernel) (by subst he; rfl) (by exact hg) ?_
    clear hg he
    refine Ev.blk (is := [.iconst 3, .imul]) (pc2 := 21) (L2 := [(2, v0), (9, 0), (0, v2)]) (S2 := [(0, w32 (u1 * 3)), (0, w32 (v2 + 3))]) (h2 := h) (by decide +kernel) rfl trivial ?_
    obtain ⟨ha, hb⟩ := bite hx
    clear hx
    refine Ev.br (i := .if_icmp .ge 23) (len := 3) (a := 24) (b := 44) (by decide +kernel) rfl Iff.rfl (fun hc => ?_) (fun hc => ?_)
    · have hx := ha hc
      clear ha hb hc
      obtain ⟨u2, hg, he, hx⟩ := bgd hx
      refine Ev.blk (is := [.aload_n 0, .getfield 5200]) (pc2 := 28) (L2 := [(2, v0), (9, 0), (0, v2)]) (S2 := [(2, u2)]) (h2 := h) (by decide +kernel) (by subst he; rfl) (by exact hg) ?_
      clear hg he
      obtain ⟨u3, hg, he, hx⟩ := bgd hx
      refine Ev.blk (is := [.iload_n 2, .aload_n 0, .getfield 5200]) (pc2 := 33) (L2 := [(2, v0), (9, 0), (0, v2)]) (S2 := [(2, u3), (0, v2), (2, u2)]) (h2 := h) (by decide +kernel) (by subst he; rfl) (by exact hg) ?_
      clear hg he
      obtain ⟨u4, hg, he, hx⟩ := bgd hx
      refine Ev.blk (is := [.iload_n 2, .iconst 3, .iadd, .iaload]) (pc2 := 37) (L2 := [(2, v0), (9, 0), (0, v2)]) (S2 := [(0, u4), (0, v2), (2, u2)]) (h2 := h) (by decide +kernel) (by subst he; rfl) (by exact hg) ?_
      clear hg he
      obtain ⟨h5, hg, he, hx⟩ := bgd hx
      refine Ev.blk (is := [.iastore]) (pc2 := 38) (L2 := [(2, v0), (9, 0), (0, v2)]) (S2 := []) (h2 := h5) (by decide +kernel) (by subst he; rfl) (by exact hg) ?_
      clear hg he
      refine Ev.blk (is := [.iinc 2 1]) (pc2 := 41) (L2 := [(2, v0), (9, 0), (0, w32 (v2 + 1))]) (S2 := []) (h2 := h5) (by decide +kernel) rfl trivial ?_
      refine Ev.jp (i := .goto (-29)) (len := 3) (pc2 := 12) (by decide +kernel) rfl ?_
      exact ih v0 (w32 (v2 + 1)) h5 _ hx
    · have hx := hb hc
      clear ha hb hc
      obtain ⟨u6, hg, he, hx⟩ := bgd hx
      refine Ev.blk (is := [.aload_n 0, .dup, .getfield 5001]) (pc2 := 49) (L2 := [(2, v0), (9, 0), (0, v2)]) (S2 := [(0, u6), (2, v0)]) (h2 := h) (by decide +kernel) (by subst he; rfl) (by exact hg) ?_
      clear hg he
      obtain ⟨h7, hg, he, hx⟩ := bgd hx
      refine Ev.blk (is := [.iconst 1, .isub, .putfield 5001]) (pc2 := 54) (L2 := [(2, v0), (9, 0), (0, v2)]) (S2 := []) (h2 := h7) (by decide +kernel) (by subst he; rfl) (by exact hg) ?_
      clear hg he
      cases hx
      exact Ev.ret (i := .return_) (len := 1) (by decide +kernel) rfl (finOf (t := none) rfl (trivial))
theorem x_Side_takeOut {sc : AS} {d : Nat} (hd : 2 ≤ d) {v0 : Int} {v1 : Int} {h : AH} {r : AH} (hx : Side_takeOut v0 v1 h = some r) : Runs sc d 101 [(2, v0), (0, v1)] h none r := by
  obtain ⟨d, rfl⟩ : ∃ e, d = e + 1 := ⟨d - 1, by omega⟩
  have hd : 1 ≤ d := by omega
  unfold Side_takeOut at hx
  refine ⟨⟨aM_101, rfl, Nat.le_of_ble_eq_true rfl⟩, ?_⟩
  show Ev sc d 101 0 [(2, v0), (0, v1), (9, 0)] [] h none r
  refine Ev.blk (is := [.aload_n 0, .iload_n 1]) (pc2 := 2) (L2 := [(2, v0), (0, v1), (9, 0)]) (S2 := [(0, v1), (2, v0)]) (h2 := h) (by decide +kernel) rfl trivial ?_
  obtain ⟨_, hg, -, hx⟩ := bgd hx
  obtain ⟨u1, hc, hx⟩ := bca hx
  refine Ev.call (args := [(2, v0), (0, v1)]) (S2 := []) (r1 := (some (0, u1))) (h1 := h) (i := .invokevirtual 98) (by decide +kernel) rfl rfl (Nat.le_of_ble_eq_true rfl) (Or.inr (Or.inl ⟨rfl, hg, by decide +kernel⟩)) (x_Side_has (by omega) hc) ?_
  obtain ⟨ha, hb⟩ := bite hx
  clear hx
  refine Ev.br (i := .ifCond .eq 49) (len := 3) (a := 54) (b := 8) (by decide +kernel) rfl Iff.rfl (fun hc => ?_) (fun hc => ?_)
  · have hx := ha hc
    clear ha hb hc
    cases hx
    exact Ev.ret (i := .return_) (len := 1) (by decide +kernel) rfl (finOf (t := none) rfl (trivial))
  · have hx := hb hc
    clear ha hb hc
    refine Ev.blk (is := [.iload_n 1, .iconst 3, .imul, .istore_n 2]) (pc2 := 12) (L2 := [(2, v0), (0, v1), (0, w32 (v1 * 3))]) (S2 := []) (h2 := h) (by decide +kernel) rfl trivial ?_
    refine Ev.wk (L2 := [(2, v0), (9, 0), (0, w32 (v1 * 3))]) (wkL_of ⟨Or.inl rfl, ⟨Or.inr rfl, ⟨Or.inl rfl, trivial⟩⟩⟩) ?_
    exact y_Side_takeOut_12 hd FU v0 (w32 (v1 * 3)) h _ hx
theorem x_X_cut {sc : AS} {d : Nat} (hd : 7 ≤ d) {v0 : Int} {v1 : Int} {v2 : Int} {v3 : Int} {h : AH} {r : (Int × AH)} (hx : X_cut v0 v1 v2 v3 h = some r) : Runs sc d 100 [(2, v0), (0, v1), (0, v2), (0, v3)] h (some (0, r.1)) r.2 := by
  obtain ⟨d, rfl⟩ : ∃ e, d = e + 1 := ⟨d - 1, by omega⟩
  have hd : 6 ≤ d := by omega
  unfold X_cut at hx
  refine ⟨⟨aM_100, rfl, Nat.le_of_ble_eq_true rfl⟩, ?_⟩
  show Ev sc d 100 0 [(2, v0), (0, v1), (0, v2), (0, v3), (9, 0), (9, 0)] [] h (some (0, r.1)) r.2
  obtain ⟨u1, hg, he, hx⟩ := bgd hx
  refine Ev.blk (is := [.aload_n 0, .getfield 8200]) (pc2 := 4) (L2 := [(2, v0), (0, v1), (0, v2), (0, v3), (9, 0), (9, 0)]) (S2 := [(2, u1)]) (h2 := h) (by decide +kernel) (by subst he; rfl) (by exact hg) ?_
  clear hg he
  refine Ev.blk (is := [.iload_n 1, .iload_n 2, .iload_n 3]) (pc2 := 7) (L2 := [(2, v0), (0, v1), (0, v2), (0, v3), (9, 0), (9, 0)]) (S2 := [(0, v3), (0, v2), (0, v1), (2, u1)]) (h2 := h) (by decide +kernel) rfl trivial ?_
  obtain ⟨_, hg, -, hx⟩ := bgd hx
  obtain ⟨u2, hc, hx⟩ := bca hx
  refine Ev.call (args := [(2, u1), (0, v1), (0, v2), (0, v3)]) (S2 := []) (r1 := (some (0, u2))) (h1 := h) (i := .invokevirtual 96) (by decide +kernel) rfl rfl (Nat.le_of_ble_eq_true rfl) (Or.inr (Or.inl ⟨rfl, hg, by decide +kernel⟩)) (x_Ledger_hasRow (by omega) hc) ?_
  obtain ⟨ha, hb⟩ := bite hx
  clear hx
  refine Ev.br (i := .ifCond .ne 5) (len := 3) (a := 13) (b := 15) (by decide +kernel) rfl Iff.rfl (fun hc => ?_) (fun hc => ?_)
  · have hx := ha hc
    clear ha hb hc
    refine Ev.blk (is := [.iconst (-1)]) (pc2 := 14) (L2 := [(2, v0), (0, v1), (0, v2), (0, v3), (9, 0), (9, 0)]) (S2 := [(0, (-1))]) (h2 := h) (by decide +kernel) rfl trivial ?_
    cases hx
    exact Ev.ret (i := .ireturn) (len := 1) (by decide +kernel) rfl (finOf (t := some .int) rfl (trivial))
  · have hx := hb hc
    clear ha hb hc
    obtain ⟨u3, hg, he, hx⟩ := bgd hx
    refine Ev.blk (is := [.aload_n 0, .getfield 8200]) (pc2 := 19) (L2 := [(2, v0), (0, v1), (0, v2), (0, v3), (9, 0), (9, 0)]) (S2 := [(2, u3)]) (h2 := h) (by decide +kernel) (by subst he; rfl) (by exact hg) ?_
    clear hg he
    obtain ⟨u4, hg, he, hx⟩ := bgd hx
    refine Ev.blk (is := [.getfield 2200]) (pc2 := 22) (L2 := [(2, v0), (0, v1), (0, v2), (0, v3), (9, 0), (9, 0)]) (S2 := [(2, u4)]) (h2 := h) (by decide +kernel) (by subst he; rfl) (by exact hg) ?_
    clear hg he
    obtain ⟨u5, hg, he, hx⟩ := bgd hx
    refine Ev.blk (is := [.iload_n 1, .aaload]) (pc2 := 24) (L2 := [(2, v0), (0, v1), (0, v2), (0, v3), (9, 0), (9, 0)]) (S2 := [(2, u5)]) (h2 := h) (by decide +kernel) (by subst he; rfl) (by exact hg) ?_
    clear hg he
    refine Ev.blk (is := [.astore 4, .aload 4, .iload_n 2]) (pc2 := 29) (L2 := [(2, v0), (0, v1), (0, v2), (0, v3), (2, u5), (9, 0)]) (S2 := [(0, v2), (2, u5)]) (h2 := h) (by decide +kernel) rfl trivial ?_
    obtain ⟨_, hg, -, hx⟩ := bgd hx
    obtain ⟨u6, hc, hx⟩ := bca hx
    refine Ev.call (args := [(2, u5), (0, v2)]) (S2 := []) (r1 := (some (2, u6))) (h1 := h) (i := .invokevirtual 97) (by decide +kernel) rfl rfl (Nat.le_of_ble_eq_true rfl) (Or.inr (Or.inl ⟨rfl, hg, by decide +kernel⟩)) (x_Line_side (by omega) hc) ?_
    refine Ev.blk (is := [.astore 5, .aload 5, .iload_n 3]) (pc2 := 37) (L2 := [(2, v0), (0, v1), (0, v2), (0, v3), (2, u5), (2, u6)]) (S2 := [(0, v3), (2, u6)]) (h2 := h) (by decide +kernel) rfl trivial ?_
    obtain ⟨_, hg, -, hx⟩ := bgd hx
    obtain ⟨h8, hc, hx⟩ := bca hx
    refine Ev.call (args := [(2, u6), (0, v3)]) (S2 := []) (r1 := none) (h1 := h8) (i := .invokevirtual 101) (by decide +kernel) rfl rfl (Nat.le_of_ble_eq_true rfl) (Or.inr (Or.inl ⟨rfl, hg, by decide +kernel⟩)) (x_Side_takeOut (by omega) hc) ?_
    obtain ⟨h9, hg, he, hx⟩ := bgd hx
    refine Ev.blk (is := [.aload 4, .iconst (-1), .putfield 3006]) (pc2 := 46) (L2 := [(2, v0), (0, v1), (0, v2), (0, v3), (2, u5), (2, u6)]) (S2 := []) (h2 := h9) (by decide +kernel) (by subst he; rfl) (by exact hg) ?_
    clear hg he
    obtain ⟨u10, hg, he, hx⟩ := bgd hx
    refine Ev.blk (is := [.aload_n 0, .getfield 8200]) (pc2 := 50) (L2 := [(2, v0), (0, v1), (0, v2), (0, v3), (2, u5), (2, u6)]) (S2 := [(2, u10)]) (h2 := h9) (by decide +kernel) (by subst he; rfl) (by exact hg) ?_
    clear hg he
    refine Ev.blk (is := [.iload_n 1]) (pc2 := 51) (L2 := [(2, v0), (0, v1), (0, v2), (0, v3), (2, u5), (2, u6)]) (S2 := [(0, v1), (2, u10)]) (h2 := h9) (by decide +kernel) rfl trivial ?_
    obtain ⟨_, hg, -, hx⟩ := bgd hx
    obtain ⟨h12, hc, hx⟩ := bca hx
    refine Ev.call (args := [(2, u10), (0, v1)]) (S2 := []) (r1 := none) (h1 := h12) (i := .invokevirtual 87) (by decide +kernel) rfl rfl (Nat.le_of_ble_eq_true rfl) (Or.inr (Or.inl ⟨rfl, hg, by decide +kernel⟩)) (x_Ledger_checkFrom (by omega) hc) ?_
    obtain ⟨u13, hg, he, hx⟩ := bgd hx
    refine Ev.blk (is := [.aload 5, .getfield 5001]) (pc2 := 59) (L2 := [(2, v0), (0, v1), (0, v2), (0, v3), (2, u5), (2, u6)]) (S2 := [(0, u13)]) (h2 := h12) (by decide +kernel) (by subst he; rfl) (by exact hg) ?_
    clear hg he
    cases hx
    exact Ev.ret (i := .ireturn) (len := 1) (by decide +kernel) rfl (finOf (t := some .int) rfl (trivial))
theorem x_Math_abs {sc : AS} {d : Nat} (hd : 1 ≤ d) {v0 : Int} {h : AH} {r : Int} (hx : Math_abs v0 = some r) : Runs sc d 104 [(0, v0)] h (some (0, r)) h := by
  obtain ⟨d, rfl⟩ : ∃ e, d = e + 1 := ⟨d - 1, by omega⟩
  have hd : 0 ≤ d := by omega
  unfold Math_abs at hx
  refine ⟨⟨aM_104, rfl, Nat.le_of_ble_eq_true rfl⟩, ?_⟩
  show Ev sc d 104 0 [(0, v0)] [] h (some (0, r)) h
  refine Ev.blk (is := [.iload_n 0]) (pc2 := 1) (L2 := [(0, v0)]) (S2 := [(0, v0)]) (h2 := h) (by decide +kernel) rfl trivial ?_
  obtain ⟨ha, hb⟩ := bite hx
  clear hx
  refine Ev.br (i := .ifCond .ge 8) (len := 3) (a := 4) (b := 9) (by decide +kernel) rfl Iff.rfl (fun hc => ?_) (fun hc => ?_)
  · have hx := ha hc
    clear ha hb hc
    refine Ev.blk (is := [.iload_n 0, .ineg]) (pc2 := 6) (L2 := [(0, v0)]) (S2 := [(0, w32 (-v0))]) (h2 := h) (by decide +kernel) rfl trivial ?_
    refine Ev.jp (i := .goto 4) (len := 3) (pc2 := 10) (by decide +kernel) rfl ?_
    cases hx
    exact Ev.ret (i := .ireturn) (len := 1) (by decide +kernel) rfl (finOf (t := some .int) rfl (trivial))
  · have hx := hb hc
    clear ha hb hc
    refine Ev.blk (is := [.iload_n 0]) (pc2 := 10) (L2 := [(0, v0)]) (S2 := [(0, v0)]) (h2 := h) (by decide +kernel) rfl trivial ?_
    cases hx
    exact Ev.ret (i := .ireturn) (len := 1) (by decide +kernel) rfl (finOf (t := some .int) rfl (trivial))
theorem y_Ledger_shift_47 {sc : AS} {d : Nat} (hd : 1 ≤ d) : ∀ (fu : Nat) (v0 : Int) (v1 : Int) (v2 : Int) (v3 : Int) (v4 : Int) (v5 : Int) (v6 : Int) (h : AH) (r : AH), Ledger_shift_47 fu v0 v1 v2 v3 v4 v5 v6 h = some r → Ev sc d 103 47 [(2, v0), (0, v1), (0, v2), (2, v3), (0, v4), (0, v5), (0, v6)] [] h none r := by
  intro fu
  induction fu with
  | zero => intro v0 v1 v2 v3 v4 v5 v6 h r hx; unfold Ledger_shift_47 at hx; cases hx
  | succ fu ih =>
    intro v0 v1 v2 v3 v4 v5 v6 h r hx
    unfold Ledger_shift_47 at hx
    refine Ev.blk (is := [.iload 6, .iload 5]) (pc2 := 51) (L2 := [(2, v0), (0, v1), (0, v2), (2, v3), (0, v4), (0, v5), (0, v6)]) (S2 := [(0, v5), (0, v6)]) (h2 := h) (by decide +kernel) rfl trivial ?_
    obtain ⟨ha, hb⟩ := bite hx
    clear hx
    refine Ev.br (i := .if_icmp .ge 35) (len := 3) (a := 54) (b := 86) (by decide +kernel) rfl Iff.rfl (fun hc => ?_) (fun hc => ?_)
    · have hx := ha hc
      clear ha hb hc
      obtain ⟨u1, hg, he, hx⟩ := bgd hx
      refine Ev.blk (is := [.aload_n 0, .getfield 2200]) (pc2 := 58) (L2 := [(2, v0), (0, v1), (0, v2), (2, v3), (0, v4), (0, v5), (0, v6)]) (S2 := [(2, u1)]) (h2 := h) (by decide +kernel) (by subst he; rfl) (by exact hg) ?_
      clear hg he
      obtain ⟨u2, hg, he, hx⟩ := bgd hx
      refine Ev.blk (is := [.iload_n 1, .iload 6, .iload 4, .imul, .iadd, .aload_n 0, .getfield 2200]) (pc2 := 69) (L2 := [(2, v0), (0, v1), (0, v2), (2, v3), (0, v4), (0, v5), (0, v6)]) (S2 := [(2, u2), (0, w32 (v1 + (w32 (v6 * v4)))), (2, u1)]) (h2 := h) (by decide +kernel) (by subst he; rfl) (by exact hg) ?_
      clear hg he
      obtain ⟨u3, hg, he, hx⟩ := bgd hx
      refine Ev.blk (is := [.iload_n 1, .iload 6, .iconst 1, .iadd, .iload 4, .imul, .iadd, .aaload]) (pc2 := 79) (L2 := [(2, v0), (0, v1), (0, v2), (2, v3), (0, v4), (0, v5), (0, v6)]) (S2 := [(2, u3), (0, w32 (v1 + (w32 (v6 * v4)))), (2, u1)]) (h2 := h) (by decide +kernel) (by subst he; rfl) (by exact hg) ?_
      clear hg he
      obtain ⟨h4, hg, he, hx⟩ := bgd hx
      refine Ev.blk (is := [.aastore]) (pc2 := 80) (L2 := [(2, v0), (0, v1), (0, v2), (2, v3), (0, v4), (0, v5), (0, v6)]) (S2 := []) (h2 := h4) (by decide +kernel) (by subst he; rfl) (by exact hg) ?_
      clear hg he
      refine Ev.blk (is := [.iinc 6 1]) (pc2 := 83) (L2 := [(2, v0), (0, v1), (0, v2), (2, v3), (0, v4), (0, v5), (0, w32 (v6 + 1))]) (S2 := []) (h2 := h4) (by decide +kernel) rfl trivial ?_
      refine Ev.jp (i := .goto (-36)) (len := 3) (pc2 := 47) (by decide +kernel) rfl ?_
      exact ih v0 v1 v2 v3 v4 v5 (w32 (v6 + 1)) h4 _ hx
    · have hx := hb hc
      clear ha hb hc
      obtain ⟨u5, hg, he, hx⟩ := bgd hx
      refine Ev.blk (is := [.aload_n 0, .getfield 2200]) (pc2 := 90) (L2 := [(2, v0), (0, v1), (0, v2), (2, v3), (0, v4), (0, v5), (0, v6)]) (S2 := [(2, u5)]) (h2 := h) (by decide +kernel) (by subst he; rfl) (by exact hg) ?_
      clear hg he
      obtain ⟨h6, hg, he, hx⟩ := bgd hx
      refine Ev.blk (is := [.iload_n 2, .aload_n 3, .aastore]) (pc2 := 93) (L2 := [(2, v0), (0, v1), (0, v2), (2, v3), (0, v4), (0, v5), (0, v6)]) (S2 := []) (h2 := h6) (by decide +kernel) (by subst he; rfl) (by exact hg) ?_
      clear hg he
      cases hx
      exact Ev.ret (i := .return_) (len := 1) (by decide +kernel) rfl (finOf (t := none) rfl (trivial))
theorem y_Ledger_shift_34 {sc : AS} {d : Nat} (hd : 1 ≤ d) : ∀ (v0 : Int) (v1 : Int) (v2 : Int) (v3 : Int) (s0 : Int) (h : AH) (r : AH), Ledger_shift_34 v0 v1 v2 v3 s0 h = some r → Ev sc d 103 34 [(2, v0), (0, v1), (0, v2), (2, v3), (9, 0), (9, 0), (9, 0)] [(0, s0)] h none r := by
  intro v0 v1 v2 v3 s0 h r hx
  unfold Ledger_shift_34 at hx
  refine Ev.blk (is := [.istore 4, .iload_n 2, .iload_n 1, .isub]) (pc2 := 39) (L2 := [(2, v0), (0, v1), (0, v2), (2, v3), (0, s0), (9, 0), (9, 0)]) (S2 := [(0, w32 (v2 - v1))]) (h2 := h) (by decide +kernel) rfl trivial ?_
  obtain ⟨u1, hc, hx⟩ := bca hx
  refine Ev.call (args := [(0, w32 (v2 - v1))]) (S2 := []) (r1 := (some (0, u1))) (h1 := h) (i := .invokestatic 104) (by decide +kernel) rfl rfl (Nat.le_of_ble_eq_true rfl) (Or.inl rfl) (x_Math_abs (by omega) hc) ?_
  refine Ev.blk (is := [.istore 5, .iconst 0, .istore 6]) (pc2 := 47) (L2 := [(2, v0), (0, v1), (0, v2), (2, v3), (0, s0), (0, u1), (0, 0)]) (S2 := []) (h2 := h) (by decide +kernel) rfl trivial ?_
  exact y_Ledger_shift_47 hd FU v0 v1 v2 v3 s0 u1 0 h _ hx
theorem x_Ledger_shift {sc : AS} {d : Nat} (hd : 2 ≤ d) {v0 : Int} {v1 : Int} {v2 : Int} {h : AH} {r : AH} (hx : Ledger_shift v0 v1 v2 h = some r) : Runs sc d 103 [(2, v0), (0, v1), (0, v2)] h none r := by
  obtain ⟨d, rfl⟩ : ∃ e, d = e + 1 := ⟨d - 1, by omega⟩
  have hd : 1 ≤ d := by omega
  unfold Ledger_shift at hx
  refine ⟨⟨aM_103, rfl, Nat.le_of_ble_eq_true rfl⟩, ?_⟩
  show Ev sc d 103 0 [(2, v0), (0, v1), (0, v2), (9, 0), (9, 0), (9, 0), (9, 0)] [] h none r
  refine Ev.blk (is := [.aload_n 0, .iload_n 1]) (pc2 := 2) (L2 := [(2, v0), (0, v1), (0, v2), (9, 0), (9, 0), (9, 0), (9, 0)]) (S2 := [(0, v1), (2, v0)]) (h2 := h) (by decide +kernel) rfl trivial ?_
  obtain ⟨_, hg, -, hx⟩ := bgd hx
  obtain ⟨u1, hc, hx⟩ := bca hx
  refine Ev.call (args := [(2, v0), (0, v1)]) (S2 := []) (r1 := (some (0, u1))) (h1 := h) (i := .invokevirtual 13) (by decide +kernel) rfl rfl (Nat.le_of_ble_eq_true rfl) (Or.inr (Or.inl ⟨rfl, hg, by decide +kernel⟩)) (x_Ledger_has (by omega) hc) ?_
  obtain ⟨ha, hb⟩ := bite hx
  clear hx
  refine Ev.br (i := .ifCond .eq 11) (len := 3) (a := 16) (b := 8) (by decide +kernel) rfl Iff.rfl (fun hc => ?_) (fun hc => ?_)
  · have hx := ha hc
    clear ha hb hc
    cases hx
    exact Ev.ret (i := .return_) (len := 1) (by decide +kernel) rfl (finOf (t := none) rfl (trivial))
  · have hx := hb hc
    clear ha hb hc
    refine Ev.blk (is := [.aload_n 0, .iload_n 2]) (pc2 := 10) (L2 := [(2, v0), (0, v1), (0, v2), (9, 0), (9, 0), (9, 0), (9, 0)]) (S2 := [(0, v2), (2, v0)]) (h2 := h) (by decide +kernel) rfl trivial ?_
    obtain ⟨_, hg, -, hx⟩ := bgd hx
    obtain ⟨u2, hc, hx⟩ := bca hx
    refine Ev.call (args := [(2, v0), (0, v2)]) (S2 := []) (r1 := (some (0, u2))) (h1 := h) (i := .invokevirtual 13) (by decide +kernel) rfl rfl (Nat.le_of_ble_eq_true rfl) (Or.inr (Or.inl ⟨rfl, hg, by decide +kernel⟩)) (x_Ledger_has (by omega) hc) ?_
    obtain ⟨ha, hb⟩ := bite hx
    clear hx
    refine Ev.br (i := .ifCond .ne 4) (len := 3) (a := 16) (b := 17) (by decide +kernel) rfl Iff.rfl (fun hc => ?_) (fun hc => ?_)
    · have hx := ha hc
      clear ha hb hc
      cases hx
      exact Ev.ret (i := .return_) (len := 1) (by decide +kernel) rfl (finOf (t := none) rfl (trivial))
    · have hx := hb hc
      clear ha hb hc
      obtain ⟨u3, hg, he, hx⟩ := bgd hx
      refine Ev.blk (is := [.aload_n 0, .getfield 2200]) (pc2 := 21) (L2 := [(2, v0), (0, v1), (0, v2), (9, 0), (9, 0), (9, 0), (9, 0)]) (S2 := [(2, u3)]) (h2 := h) (by decide +kernel) (by subst he; rfl) (by exact hg) ?_
      clear hg he
      obtain ⟨u4, hg, he, hx⟩ := bgd hx
      refine Ev.blk (is := [.iload_n 1, .aaload]) (pc2 := 23) (L2 := [(2, v0), (0, v1), (0, v2), (9, 0), (9, 0), (9, 0), (9, 0)]) (S2 := [(2, u4)]) (h2 := h) (by decide +kernel) (by subst he; rfl) (by exact hg) ?_
      clear hg he
      refine Ev.blk (is := [.astore_n 3, .iload_n 1, .iload_n 2]) (pc2 := 26) (L2 := [(2, v0), (0, v1), (0, v2), (2, u4), (9, 0), (9, 0), (9, 0)]) (S2 := [(0, v2), (0, v1)]) (h2 := h) (by decide +kernel) rfl trivial ?_
      obtain ⟨ha, hb⟩ := bite hx
      clear hx
      refine Ev.br (i := .if_icmp .ge 7) (len := 3) (a := 29) (b := 33) (by decide +kernel) rfl Iff.rfl (fun hc => ?_) (fun hc => ?_)
      · have hx := ha hc
        clear ha hb hc
        refine Ev.blk (is := [.iconst 1]) (pc2 := 30) (L2 := [(2, v0), (0, v1), (0, v2), (2, u4), (9, 0), (9, 0), (9, 0)]) (S2 := [(0, 1)]) (h2 := h) (by decide +kernel) rfl trivial ?_
        refine Ev.jp (i := .goto 4) (len := 3) (pc2 := 34) (by decide +kernel) rfl ?_
        exact y_Ledger_shift_34 hd v0 v1 v2 u4 1 h _ hx
      · have hx := hb hc
        clear ha hb hc
        refine Ev.blk (is := [.iconst (-1)]) (pc2 := 34) (L2 := [(2, v0), (0, v1), (0, v2), (2, u4), (9, 0), (9, 0), (9, 0)]) (S2 := [(0, (-1))]) (h2 := h) (by decide +kernel) rfl trivial ?_
        exact y_Ledger_shift_34 hd v0 v1 v2 u4 (-1) h _ hx
theorem x_X_move {sc : AS} {d : Nat} (hd : 7 ≤ d) {v0 : Int} {v1 : Int} {v2 : Int} {h : AH} {r : (Int × AH)} (hx : X_move v0 v1 v2 h = some r) : Runs sc d 102 [(2, v0), (0, v1), (0, v2)] h (some (0, r.1)) r.2 := by
  obtain ⟨d, rfl⟩ : ∃ e, d = e + 1 := ⟨d - 1, by omega⟩
  have hd : 6 ≤ d := by omega
  unfold X_move at hx
  refine ⟨⟨aM_102, rfl, Nat.le_of_ble_eq_true rfl⟩, ?_⟩
  show Ev sc d 102 0 [(2, v0), (0, v1), (0, v2)] [] h (some (0, r.1)) r.2
  obtain ⟨u1, hg, he, hx⟩ := bgd hx
  refine Ev.blk (is := [.aload_n 0, .getfield 8200]) (pc2 := 4) (L2 := [(2, v0), (0, v1), (0, v2)]) (S2 := [(2, u1)]) (h2 := h) (by decide +kernel) (by subst he; rfl) (by exact hg) ?_
  clear hg he
  refine Ev.blk (is := [.iload_n 1]) (pc2 := 5) (L2 := [(2, v0), (0, v1), (0, v2)]) (S2 := [(0, v1), (2, u1)]) (h2 := h) (by decide +kernel) rfl trivial ?_
  obtain ⟨_, hg, -, hx⟩ := bgd hx
  obtain ⟨u2, hc, hx⟩ := bca hx
  refine Ev.call (args := [(2, u1), (0, v1)]) (S2 := []) (r1 := (some (0, u2))) (h1 := h) (i := .invokevirtual 13) (by decide +kernel) rfl rfl (Nat.le_of_ble_eq_true rfl) (Or.inr (Or.inl ⟨rfl, hg, by decide +kernel⟩)) (x_Ledger_has (by omega) hc) ?_
  obtain ⟨ha, hb⟩ := bite hx
  clear hx
  refine Ev.br (i := .ifCond .eq 19) (len := 3) (a := 27) (b := 11) (by decide +kernel) rfl Iff.rfl (fun hc => ?_) (fun hc => ?_)
  · have hx := ha hc
    clear ha hb hc
    refine Ev.blk (is := [.iconst (-1)]) (pc2 := 28) (L2 := [(2, v0), (0, v1), (0, v2)]) (S2 := [(0, (-1))]) (h2 := h) (by decide +kernel) rfl trivial ?_
    cases hx
    exact Ev.ret (i := .ireturn) (len := 1) (by decide +kernel) rfl (finOf (t := some .int) rfl (trivial))
  · have hx := hb hc
    clear ha hb hc
    obtain ⟨u3, hg, he, hx⟩ := bgd hx
    refine Ev.blk (is := [.aload_n 0, .getfield 8200]) (pc2 := 15) (L2 := [(2, v0), (0, v1), (0, v2)]) (S2 := [(2, u3)]) (h2 := h) (by decide +kernel) (by subst he; rfl) (by exact hg) ?_
    clear hg he
    refine Ev.blk (is := [.iload_n 2]) (pc2 := 16) (L2 := [(2, v0), (0, v1), (0, v2)]) (S2 := [(0, v2), (2, u3)]) (h2 := h) (by decide +kernel) rfl trivial ?_
    obtain ⟨_, hg, -, hx⟩ := bgd hx
    obtain ⟨u4, hc, hx⟩ := bca hx
    refine Ev.call (args := [(2, u3), (0, v2)]) (S2 := []) (r1 := (some (0, u4))) (h1 := h) (i := .invokevirtual 13) (by decide +kernel) rfl rfl (Nat.le_of_ble_eq_true rfl) (Or.inr (Or.inl ⟨rfl, hg, by decide +kernel⟩)) (x_Ledger_has (by omega) hc) ?_
    obtain ⟨ha, hb⟩ := bite hx
    clear hx
    refine Ev.br (i := .ifCond .eq 8) (len := 3) (a := 27) (b := 22) (by decide +kernel) rfl Iff.rfl (fun hc => ?_) (fun hc => ?_)
    · have hx := ha hc
      clear ha hb hc
      refine Ev.blk (is := [.iconst (-1)]) (pc2 := 28) (L2 := [(2, v0), (0, v1), (0, v2)]) (S2 := [(0, (-1))]) (h2 := h) (by decide +kernel) rfl trivial ?_
      cases hx
      exact Ev.ret (i := .ireturn) (len := 1) (by decide +kernel) rfl (finOf (t := some .int) rfl (trivial))
    · have hx := hb hc
      clear ha hb hc
      refine Ev.blk (is := [.iload_n 1, .iload_n 2]) (pc2 := 24) (L2 := [(2, v0), (0, v1), (0, v2)]) (S2 := [(0, v2), (0, v1)]) (h2 := h) (by decide +kernel) rfl trivial ?_
      obtain ⟨ha, hb⟩ := bite hx
      clear hx
      refine Ev.br (i := .if_icmp .ne 5) (len := 3) (a := 27) (b := 29) (by decide +kernel) rfl Iff.rfl (fun hc => ?_) (fun hc => ?_)
      · have hx := ha hc
        clear ha hb hc
        refine Ev.blk (is := [.iconst (-1)]) (pc2 := 28) (L2 := [(2, v0), (0, v1), (0, v2)]) (S2 := [(0, (-1))]) (h2 := h) (by decide +kernel) rfl trivial ?_
        cases hx
        exact Ev.ret (i := .ireturn) (len := 1) (by decide +kernel) rfl (finOf (t := some .int) rfl (trivial))
      · have hx := hb hc
        clear ha hb hc
        obtain ⟨u5, hg, he, hx⟩ := bgd hx
        refine Ev.blk (is := [.aload_n 0, .getfield 8200]) (pc2 := 33) (L2 := [(2, v0), (0, v1), (0, v2)]) (S2 := [(2, u5)]) (h2 := h) (by decide +kernel) (by subst he; rfl) (by exact hg) ?_
        clear hg he
        refine Ev.blk (is := [.iload_n 1, .iload_n 2]) (pc2 := 35) (L2 := [(2, v0), (0, v1), (0, v2)]) (S2 := [(0, v2), (0, v1), (2, u5)]) (h2 := h) (by decide +kernel) rfl trivial ?_
        obtain ⟨_, hg, -, hx⟩ := bgd hx
        obtain ⟨h7, hc, hx⟩ := bca hx
        refine Ev.call (args := [(2, u5), (0, v1), (0, v2)]) (S2 := []) (r1 := none) (h1 := h7) (i := .invokevirtual 103) (by decide +kernel) rfl rfl (Nat.le_of_ble_eq_true rfl) (Or.inr (Or.inl ⟨rfl, hg, by decide +kernel⟩)) (x_Ledger_shift (by omega) hc) ?_
        obtain ⟨u8, hg, he, hx⟩ := bgd hx
        refine Ev.blk (is := [.aload_n 0, .getfield 8200]) (pc2 := 42) (L2 := [(2, v0), (0, v1), (0, v2)]) (S2 := [(2, u8)]) (h2 := h7) (by decide +kernel) (by subst he; rfl) (by exact hg) ?_
        clear hg he
        refine Ev.blk (is := [.iload_n 1, .iload_n 2]) (pc2 := 44) (L2 := [(2, v0), (0, v1), (0, v2)]) (S2 := [(0, v2), (0, v1), (2, u8)]) (h2 := h7) (by decide +kernel) rfl trivial ?_
        obtain ⟨u9, hc, hx⟩ := bca hx
        refine Ev.call (args := [(0, v1), (0, v2)]) (S2 := [(2, u8)]) (r1 := (some (0, u9))) (h1 := h7) (i := .invokestatic 61) (by decide +kernel) rfl rfl (Nat.le_of_ble_eq_true rfl) (Or.inl rfl) (x_Math_min (by omega) hc) ?_
        obtain ⟨_, hg, -, hx⟩ := bgd hx
        obtain ⟨h11, hc, hx⟩ := bca hx
        refine Ev.call (args := [(2, u8), (0, u9)]) (S2 := []) (r1 := none) (h1 := h11) (i := .invokevirtual 87) (by decide +kernel) rfl rfl (Nat.le_of_ble_eq_true rfl) (Or.inr (Or.inl ⟨rfl, hg, by decide +kernel⟩)) (x_Ledger_checkFrom (by omega) hc) ?_
        obtain ⟨u12, hg, he, hx⟩ := bgd hx
        refine Ev.blk (is := [.aload_n 0, .getfield 8200]) (pc2 := 54) (L2 := [(2, v0), (0, v1), (0, v2)]) (S2 := [(2, u12)]) (h2 := h11) (by decide +kernel) (by subst he; rfl) (by exact hg) ?_
        clear hg he
        refine Ev.blk (is := [.iload_n 2]) (pc2 := 55) (L2 := [(2, v0), (0, v1), (0, v2)]) (S2 := [(0, v2), (2, u12)]) (h2 := h11) (by decide +kernel) rfl trivial ?_
        obtain ⟨_, hg, -, hx⟩ := bgd hx
        obtain ⟨u13, hc, hx⟩ := bca hx
        refine Ev.call (args := [(2, u12), (0, v2)]) (S2 := []) (r1 := (some (0, u13))) (h1 := h11) (i := .invokevirtual 12) (by decide +kernel) rfl rfl (Nat.le_of_ble_eq_true rfl) (Or.inr (Or.inl ⟨rfl, hg, by decide +kernel⟩)) (x_Ledger_isRight (by omega) hc) ?_
        obtain ⟨ha, hb⟩ := bite hx
        clear hx
        refine Ev.br (i := .ifCond .eq 7) (len := 3) (a := 65) (b := 61) (by decide +kernel) rfl Iff.rfl (fun hc => ?_) (fun hc => ?_)
        · have hx := ha hc
          clear ha hb hc
          refine Ev.blk (is := [.iconst 0]) (pc2 := 66) (L2 := [(2, v0), (0, v1), (0, v2)]) (S2 := [(0, 0)]) (h2 := h11) (by decide +kernel) rfl trivial ?_
          cases hx
          exact Ev.ret (i := .ireturn) (len := 1) (by decide +kernel) rfl (finOf (t := some .int) rfl (trivial))
        · have hx := hb hc
          clear ha hb hc
          refine Ev.blk (is := [.iconst 1]) (pc2 := 62) (L2 := [(2, v0), (0, v1), (0, v2)]) (S2 := [(0, 1)]) (h2 := h11) (by decide +kernel) rfl trivial ?_
          refine Ev.jp (i := .goto 4) (len := 3) (pc2 := 66) (by decide +kernel) rfl ?_
          cases hx
          exact Ev.ret (i := .ireturn) (len := 1) (by decide +kernel) rfl (finOf (t := some .int) rfl (trivial))
theorem x_Finder_laidAlone {sc : AS} {d : Nat} (hd : 6 ≤ d) {v0 : Int} {v1 : Int} {v2 : Int} {h : AH} {r : (Int × AH)} (hx : Finder_laidAlone v0 v1 v2 h = some r) : Runs sc d 107 [(2, v0), (0, v1), (0, v2)] h (some (2, r.1)) r.2 := by
  obtain ⟨d, rfl⟩ : ∃ e, d = e + 1 := ⟨d - 1, by omega⟩
  have hd : 5 ≤ d := by omega
  unfold Finder_laidAlone at hx
  refine ⟨⟨aM_107, rfl, Nat.le_of_ble_eq_true rfl⟩, ?_⟩
  show Ev sc d 107 0 [(2, v0), (0, v1), (0, v2), (9, 0)] [] h (some (2, r.1)) r.2
  refine Ev.blk (is := [.aload_n 0, .iconst 0]) (pc2 := 2) (L2 := [(2, v0), (0, v1), (0, v2), (9, 0)]) (S2 := [(0, 0), (2, v0)]) (h2 := h) (by decide +kernel) rfl trivial ?_
  obtain ⟨_, hg, -, hx⟩ := bgd hx
  obtain ⟨u1, hc, hx⟩ := bca hx
  refine Ev.call (args := [(2, v0), (0, 0)]) (S2 := []) (r1 := (some (2, u1.1))) (h1 := u1.2) (i := .invokevirtual 17) (by decide +kernel) rfl rfl (Nat.le_of_ble_eq_true rfl) (Or.inr (Or.inl ⟨rfl, hg, by decide +kernel⟩)) (x_Finder_draftAt (by omega) hc) ?_
  refine Ev.blk (is := [.astore_n 3, .aload_n 3]) (pc2 := 7) (L2 := [(2, v0), (0, v1), (0, v2), (2, u1.1)]) (S2 := [(2, u1.1)]) (h2 := u1.2) (by decide +kernel) rfl trivial ?_
  obtain ⟨ha, hb⟩ := bite hx
  clear hx
  refine Ev.br (i := .ifnull 17) (len := 3) (a := 24) (b := 10) (by decide +kernel) rfl Iff.rfl (fun hc => ?_) (fun hc => ?_)
  · have hx := ha hc
    clear ha hb hc
    refine Ev.blk (is := [.aconst_null]) (pc2 := 25) (L2 := [(2, v0), (0, v1), (0, v2), (2, u1.1)]) (S2 := [(2, (-1))]) (h2 := u1.2) (by decide +kernel) rfl trivial ?_
    cases hx
    exact Ev.ret (i := .areturn) (len := 1) (by decide +kernel) rfl (finOf (t := some (.object "PrimeProofs$Line")) rfl (trivial))
  · have hx := hb hc
    clear ha hb hc
    refine Ev.blk (is := [.aload_n 0, .aload_n 3, .iload_n 1, .iload_n 2]) (pc2 := 14) (L2 := [(2, v0), (0, v1), (0, v2), (2, u1.1)]) (S2 := [(0, v2), (0, v1), (2, u1.1), (2, v0)]) (h2 := u1.2) (by decide +kernel) rfl trivial ?_
    obtain ⟨_, hg, -, hx⟩ := bgd hx
    obtain ⟨u2, hc, hx⟩ := bca hx
    refine Ev.call (args := [(2, v0), (2, u1.1), (0, v1), (0, v2)]) (S2 := []) (r1 := (some (0, u2.1))) (h1 := u2.2) (i := .invokevirtual 18) (by decide +kernel) rfl rfl (Nat.le_of_ble_eq_true rfl) (Or.inr (Or.inl ⟨rfl, hg, by decide +kernel⟩)) (x_Finder_lay (by omega) hc) ?_
    obtain ⟨ha, hb⟩ := bite hx
    clear hx
    refine Ev.br (i := .ifCond .eq 7) (len := 3) (a := 24) (b := 20) (by decide +kernel) rfl Iff.rfl (fun hc => ?_) (fun hc => ?_)
    · have hx := ha hc
      clear ha hb hc
      refine Ev.blk (is := [.aconst_null]) (pc2 := 25) (L2 := [(2, v0), (0, v1), (0, v2), (2, u1.1)]) (S2 := [(2, (-1))]) (h2 := u2.2) (by decide +kernel) rfl trivial ?_
      cases hx
      exact Ev.ret (i := .areturn) (len := 1) (by decide +kernel) rfl (finOf (t := some (.object "PrimeProofs$Line")) rfl (trivial))
    · have hx := hb hc
      clear ha hb hc
      refine Ev.blk (is := [.aload_n 3]) (pc2 := 21) (L2 := [(2, v0), (0, v1), (0, v2), (2, u1.1)]) (S2 := [(2, u1.1)]) (h2 := u2.2) (by decide +kernel) rfl trivial ?_
      refine Ev.jp (i := .goto 4) (len := 3) (pc2 := 25) (by decide +kernel) rfl ?_
      cases hx
      exact Ev.ret (i := .areturn) (len := 1) (by decide +kernel) rfl (finOf (t := some (.object "PrimeProofs$Line")) rfl (trivial))
theorem x_Finder_foundAlone {sc : AS} {d : Nat} (hd : 7 ≤ d) {v0 : Int} {v1 : Int} {v2 : Int} {h : AH} {r : (Int × AH)} (hx : Finder_foundAlone v0 v1 v2 h = some r) : Runs sc d 106 [(2, v0), (0, v1), (0, v2)] h (some (2, r.1)) r.2 := by
  obtain ⟨d, rfl⟩ : ∃ e, d = e + 1 := ⟨d - 1, by omega⟩
  have hd : 6 ≤ d := by omega
  unfold Finder_foundAlone at hx
  refine ⟨⟨aM_106, rfl, Nat.le_of_ble_eq_true rfl⟩, ?_⟩
  show Ev sc d 106 0 [(2, v0), (0, v1), (0, v2), (9, 0)] [] h (some (2, r.1)) r.2
  refine Ev.blk (is := [.aload_n 0, .iload_n 1, .iload_n 2]) (pc2 := 3) (L2 := [(2, v0), (0, v1), (0, v2), (9, 0)]) (S2 := [(0, v2), (0, v1), (2, v0)]) (h2 := h) (by decide +kernel) rfl trivial ?_
  obtain ⟨_, hg, -, hx⟩ := bgd hx
  obtain ⟨u1, hc, hx⟩ := bca hx
  refine Ev.call (args := [(2, v0), (0, v1), (0, v2)]) (S2 := []) (r1 := (some (2, u1.1))) (h1 := u1.2) (i := .invokevirtual 107) (by decide +kernel) rfl rfl (Nat.le_of_ble_eq_true rfl) (Or.inr (Or.inl ⟨rfl, hg, by decide +kernel⟩)) (x_Finder_laidAlone (by omega) hc) ?_
  refine Ev.blk (is := [.astore_n 3, .aload_n 3]) (pc2 := 8) (L2 := [(2, v0), (0, v1), (0, v2), (2, u1.1)]) (S2 := [(2, u1.1)]) (h2 := u1.2) (by decide +kernel) rfl trivial ?_
  obtain ⟨ha, hb⟩ := bite hx
  clear hx
  refine Ev.br (i := .ifnull 14) (len := 3) (a := 22) (b := 11) (by decide +kernel) rfl Iff.rfl (fun hc => ?_) (fun hc => ?_)
  · have hx := ha hc
    clear ha hb hc
    refine Ev.blk (is := [.aconst_null]) (pc2 := 23) (L2 := [(2, v0), (0, v1), (0, v2), (2, u1.1)]) (S2 := [(2, (-1))]) (h2 := u1.2) (by decide +kernel) rfl trivial ?_
    cases hx
    exact Ev.ret (i := .areturn) (len := 1) (by decide +kernel) rfl (finOf (t := some (.object "PrimeProofs$Line")) rfl (trivial))
  · have hx := hb hc
    clear ha hb hc
    refine Ev.blk (is := [.aload_n 3]) (pc2 := 12) (L2 := [(2, v0), (0, v1), (0, v2), (2, u1.1)]) (S2 := [(2, u1.1)]) (h2 := u1.2) (by decide +kernel) rfl trivial ?_
    obtain ⟨u2, hc, hx⟩ := bca hx
    refine Ev.call (args := [(2, u1.1)]) (S2 := []) (r1 := (some (0, u2.1))) (h1 := u2.2) (i := .invokestatic 38) (by decide +kernel) rfl rfl (Nat.le_of_ble_eq_true rfl) (Or.inl rfl) (x_Finder_seek (by omega) hc) ?_
    obtain ⟨ha, hb⟩ := bite hx
    clear hx
    refine Ev.br (i := .ifCond .eq 7) (len := 3) (a := 22) (b := 18) (by decide +kernel) rfl Iff.rfl (fun hc => ?_) (fun hc => ?_)
    · have hx := ha hc
      clear ha hb hc
      refine Ev.blk (is := [.aconst_null]) (pc2 := 23) (L2 := [(2, v0), (0, v1), (0, v2), (2, u1.1)]) (S2 := [(2, (-1))]) (h2 := u2.2) (by decide +kernel) rfl trivial ?_
      cases hx
      exact Ev.ret (i := .areturn) (len := 1) (by decide +kernel) rfl (finOf (t := some (.object "PrimeProofs$Line")) rfl (trivial))
    · have hx := hb hc
      clear ha hb hc
      refine Ev.blk (is := [.aload_n 3]) (pc2 := 19) (L2 := [(2, v0), (0, v1), (0, v2), (2, u1.1)]) (S2 := [(2, u1.1)]) (h2 := u2.2) (by decide +kernel) rfl trivial ?_
      refine Ev.jp (i := .goto 4) (len := 3) (pc2 := 23) (by decide +kernel) rfl ?_
      cases hx
      exact Ev.ret (i := .areturn) (len := 1) (by decide +kernel) rfl (finOf (t := some (.object "PrimeProofs$Line")) rfl (trivial))
theorem x_X_mend {sc : AS} {d : Nat} (hd : 8 ≤ d) {v0 : Int} {v1 : Int} {h : AH} {r : (Int × AH)} (hx : X_mend v0 v1 h = some r) : Runs sc d 105 [(2, v0), (0, v1)] h (some (0, r.1)) r.2 := by
  obtain ⟨d, rfl⟩ : ∃ e, d = e + 1 := ⟨d - 1, by omega⟩
  have hd : 7 ≤ d := by omega
  unfold X_mend at hx
  refine ⟨⟨aM_105, rfl, Nat.le_of_ble_eq_true rfl⟩, ?_⟩
  show Ev sc d 105 0 [(2, v0), (0, v1), (9, 0), (9, 0)] [] h (some (0, r.1)) r.2
  obtain ⟨u1, hg, he, hx⟩ := bgd hx
  refine Ev.blk (is := [.aload_n 0, .getfield 8200]) (pc2 := 4) (L2 := [(2, v0), (0, v1), (9, 0), (9, 0)]) (S2 := [(2, u1)]) (h2 := h) (by decide +kernel) (by subst he; rfl) (by exact hg) ?_
  clear hg he
  refine Ev.blk (is := [.iload_n 1]) (pc2 := 5) (L2 := [(2, v0), (0, v1), (9, 0), (9, 0)]) (S2 := [(0, v1), (2, u1)]) (h2 := h) (by decide +kernel) rfl trivial ?_
  obtain ⟨_, hg, -, hx⟩ := bgd hx
  obtain ⟨u2, hc, hx⟩ := bca hx
  refine Ev.call (args := [(2, u1), (0, v1)]) (S2 := []) (r1 := (some (0, u2))) (h1 := h) (i := .invokevirtual 13) (by decide +kernel) rfl rfl (Nat.le_of_ble_eq_true rfl) (Or.inr (Or.inl ⟨rfl, hg, by decide +kernel⟩)) (x_Ledger_has (by omega) hc) ?_
  obtain ⟨ha, hb⟩ := bite hx
  clear hx
  refine Ev.br (i := .ifCond .ne 5) (len := 3) (a := 11) (b := 13) (by decide +kernel) rfl Iff.rfl (fun hc => ?_) (fun hc => ?_)
  · have hx := ha hc
    clear ha hb hc
    refine Ev.blk (is := [.iconst (-1)]) (pc2 := 12) (L2 := [(2, v0), (0, v1), (9, 0), (9, 0)]) (S2 := [(0, (-1))]) (h2 := h) (by decide +kernel) rfl trivial ?_
    cases hx
    exact Ev.ret (i := .ireturn) (len := 1) (by decide +kernel) rfl (finOf (t := some .int) rfl (trivial))
  · have hx := hb hc
    clear ha hb hc
    obtain ⟨u3, hg, he, hx⟩ := bgd hx
    refine Ev.blk (is := [.aload_n 0, .getfield 8200]) (pc2 := 17) (L2 := [(2, v0), (0, v1), (9, 0), (9, 0)]) (S2 := [(2, u3)]) (h2 := h) (by decide +kernel) (by subst he; rfl) (by exact hg) ?_
    clear hg he
    obtain ⟨u4, hg, he, hx⟩ := bgd hx
    refine Ev.blk (is := [.getfield 2200]) (pc2 := 20) (L2 := [(2, v0), (0, v1), (9, 0), (9, 0)]) (S2 := [(2, u4)]) (h2 := h) (by decide +kernel) (by subst he; rfl) (by exact hg) ?_
    clear hg he
    obtain ⟨u5, hg, he, hx⟩ := bgd hx
    refine Ev.blk (is := [.iload_n 1, .aaload]) (pc2 := 22) (L2 := [(2, v0), (0, v1), (9, 0), (9, 0)]) (S2 := [(2, u5)]) (h2 := h) (by decide +kernel) (by subst he; rfl) (by exact hg) ?_
    clear hg he
    obtain ⟨u6, hg, he, hx⟩ := bgd hx
    refine Ev.blk (is := [.astore_n 2, .aload_n 0, .getfield 8201]) (pc2 := 27) (L2 := [(2, v0), (0, v1), (2, u5), (9, 0)]) (S2 := [(2, u6)]) (h2 := h) (by decide +kernel) (by subst he; rfl) (by exact hg) ?_
    clear hg he
    obtain ⟨u7, hg, he, hx⟩ := bgd hx
    refine Ev.blk (is := [.aload_n 2, .getfield 3002]) (pc2 := 31) (L2 := [(2, v0), (0, v1), (2, u5), (9, 0)]) (S2 := [(0, u7), (2, u6)]) (h2 := h) (by decide +kernel) (by subst he; rfl) (by exact hg) ?_
    clear hg he
    obtain ⟨u8, hg, he, hx⟩ := bgd hx
    refine Ev.blk (is := [.aload_n 2, .getfield 3003]) (pc2 := 35) (L2 := [(2, v0), (0, v1), (2, u5), (9, 0)]) (S2 := [(0, u8), (0, u7), (2, u6)]) (h2 := h) (by decide +kernel) (by subst he; rfl) (by exact hg) ?_
    clear hg he
    obtain ⟨_, hg, -, hx⟩ := bgd hx
    obtain ⟨u9, hc, hx⟩ := bca hx
    refine Ev.call (args := [(2, u6), (0, u7), (0, u8)]) (S2 := []) (r1 := (some (2, u9.1))) (h1 := u9.2) (i := .invokevirtual 106) (by decide +kernel) rfl rfl (Nat.le_of_ble_eq_true rfl) (Or.inr (Or.inl ⟨rfl, hg, by decide +kernel⟩)) (x_Finder_foundAlone (by omega) hc) ?_
    refine Ev.blk (is := [.astore_n 3, .aload_n 3]) (pc2 := 40) (L2 := [(2, v0), (0, v1), (2, u5), (2, u9.1)]) (S2 := [(2, u9.1)]) (h2 := u9.2) (by decide +kernel) rfl trivial ?_
    obtain ⟨ha, hb⟩ := bite hx
    clear hx
    refine Ev.br (i := .ifnonnull 6) (len := 3) (a := 43) (b := 46) (by decide +kernel) rfl Iff.rfl (fun hc => ?_) (fun hc => ?_)
    · have hx := ha hc
      clear ha hb hc
      refine Ev.blk (is := [.sipush (-2)]) (pc2 := 45) (L2 := [(2, v0), (0, v1), (2, u5), (2, u9.1)]) (S2 := [(0, (-2))]) (h2 := u9.2) (by decide +kernel) rfl trivial ?_
      cases hx
      exact Ev.ret (i := .ireturn) (len := 1) (by decide +kernel) rfl (finOf (t := some .int) rfl (trivial))
    · have hx := hb hc
      clear ha hb hc
      refine Ev.blk (is := [.aload_n 2, .aload_n 3]) (pc2 := 48) (L2 := [(2, v0), (0, v1), (2, u5), (2, u9.1)]) (S2 := [(2, u9.1), (2, u5)]) (h2 := u9.2) (by decide +kernel) rfl trivial ?_
      obtain ⟨_, hg, -, hx⟩ := bgd hx
      obtain ⟨h11, hc, hx⟩ := bca hx
      refine Ev.call (args := [(2, u5), (2, u9.1)]) (S2 := []) (r1 := none) (h1 := h11) (i := .invokevirtual 57) (by decide +kernel) rfl rfl (Nat.le_of_ble_eq_true rfl) (Or.inr (Or.inl ⟨rfl, hg, by decide +kernel⟩)) (x_Line_copy (by omega) hc) ?_
      obtain ⟨u12, hg, he, hx⟩ := bgd hx
      refine Ev.blk (is := [.aload_n 0, .getfield 8200]) (pc2 := 55) (L2 := [(2, v0), (0, v1), (2, u5), (2, u9.1)]) (S2 := [(2, u12)]) (h2 := h11) (by decide +kernel) (by subst he; rfl) (by exact hg) ?_
      clear hg he
      refine Ev.blk (is := [.iload_n 1]) (pc2 := 56) (L2 := [(2, v0), (0, v1), (2, u5), (2, u9.1)]) (S2 := [(0, v1), (2, u12)]) (h2 := h11) (by decide +kernel) rfl trivial ?_
      obtain ⟨_, hg, -, hx⟩ := bgd hx
      obtain ⟨h14, hc, hx⟩ := bca hx
      refine Ev.call (args := [(2, u12), (0, v1)]) (S2 := []) (r1 := none) (h1 := h14) (i := .invokevirtual 87) (by decide +kernel) rfl rfl (Nat.le_of_ble_eq_true rfl) (Or.inr (Or.inl ⟨rfl, hg, by decide +kernel⟩)) (x_Ledger_checkFrom (by omega) hc) ?_
      obtain ⟨u15, hg, he, hx⟩ := bgd hx
      refine Ev.blk (is := [.aload_n 0, .getfield 8200]) (pc2 := 63) (L2 := [(2, v0), (0, v1), (2, u5), (2, u9.1)]) (S2 := [(2, u15)]) (h2 := h14) (by decide +kernel) (by subst he; rfl) (by exact hg) ?_
      clear hg he
      obtain ⟨u16, hg, he, hx⟩ := bgd hx
      refine Ev.blk (is := [.getfield 2201]) (pc2 := 66) (L2 := [(2, v0), (0, v1), (2, u5), (2, u9.1)]) (S2 := [(2, u16)]) (h2 := h14) (by decide +kernel) (by subst he; rfl) (by exact hg) ?_
      clear hg he
      obtain ⟨u17, hg, he, hx⟩ := bgd hx
      refine Ev.blk (is := [.iload_n 1, .iaload]) (pc2 := 68) (L2 := [(2, v0), (0, v1), (2, u5), (2, u9.1)]) (S2 := [(0, u17)]) (h2 := h14) (by decide +kernel) (by subst he; rfl) (by exact hg) ?_
      clear hg he
      cases hx
      exact Ev.ret (i := .ireturn) (len := 1) (by decide +kernel) rfl (finOf (t := some .int) rfl (trivial))
theorem y_Ledger_keepOnly_5 {sc : AS} {d : Nat} (hd : 2 ≤ d) : ∀ (fu : Nat) (v0 : Int) (v1 : Int) (v3 : Int) (v4 : Int) (h : AH) (r : AH), Ledger_keepOnly_5 fu v0 v1 v3 v4 h = some r → Ev sc d 109 5 [(2, v0), (1, v1), (8, 0), (0, v3), (0, v4), (9, 0)] [] h none r := by
  intro fu
  induction fu with
  | zero => intro v0 v1 v3 v4 h r hx; unfold Ledger_keepOnly_5 at hx; cases hx
  | succ fu ih =>
    intro v0 v1 v3 v4 h r hx
    unfold Ledger_keepOnly_5 at hx
    obtain ⟨u1, hg, he, hx⟩ := bgd hx
    refine Ev.blk (is := [.iload 4, .aload_n 0, .getfield 2005]) (pc2 := 11) (L2 := [(2, v0), (1, v1), (8, 0), (0, v3), (0, v4), (9, 0)]) (S2 := [(0, u1), (0, v4)]) (h2 := h) (by decide +kernel) (by subst he; rfl) (by exact hg) ?_
    clear hg he
    obtain ⟨ha, hb⟩ := bite hx
    clear hx
    refine Ev.br (i := .if_icmp .ge 51) (len := 3) (a := 14) (b := 62) (by decide +kernel) rfl Iff.rfl (fun hc => ?_) (fun hc => ?_)
    · have hx := ha hc
      clear ha hb hc
      refine Ev.blk (is := [.lload_n 1, .iload 4]) (pc2 := 17) (L2 := [(2, v0), (1, v1), (8, 0), (0, v3), (0, v4), (9, 0)]) (S2 := [(0, v4), (1, v1)]) (h2 := h) (by decide +kernel) rfl trivial ?_
      obtain ⟨u2, hc, hx⟩ := bca hx
      refine Ev.call (args := [(1, v1), (0, v4)]) (S2 := []) (r1 := (some (0, u2))) (h1 := h) (i := .invokestatic 14) (by decide +kernel) rfl rfl (Nat.le_of_ble_eq_true rfl) (Or.inl rfl) (x_Ledger_isIn (by omega) hc) ?_
      obtain ⟨ha, hb⟩ := bite hx
      clear hx
      refine Ev.br (i := .ifCond .eq 36) (len := 3) (a := 56) (b := 23) (by decide +kernel) rfl Iff.rfl (fun hc => ?_) (fun hc => ?_)
      · have hx := ha hc
        clear ha hb hc
        refine Ev.blk (is := [.iinc 4 1]) (pc2 := 59) (L2 := [(2, v0), (1, v1), (8, 0), (0, v3), (0, w32 (v4 + 1)), (9, 0)]) (S2 := []) (h2 := h) (by decide +kernel) rfl trivial ?_
        refine Ev.jp (i := .goto (-54)) (len := 3) (pc2 := 5) (by decide +kernel) rfl ?_
        exact ih v0 v1 v3 (w32 (v4 + 1)) h _ hx
      · have hx := hb hc
        clear ha hb hc
        obtain ⟨u3, hg, he, hx⟩ := bgd hx
        refine Ev.blk (is := [.aload_n 0, .getfield 2200]) (pc2 := 27) (L2 := [(2, v0), (1, v1), (8, 0), (0, v3), (0, v4), (9, 0)]) (S2 := [(2, u3)]) (h2 := h) (by decide +kernel) (by subst he; rfl) (by exact hg) ?_
        clear hg he
        obtain ⟨u4, hg, he, hx⟩ := bgd hx
        refine Ev.blk (is := [.iload_n 3, .aaload]) (pc2 := 29) (L2 := [(2, v0), (1, v1), (8, 0), (0, v3), (0, v4), (9, 0)]) (S2 := [(2, u4)]) (h2 := h) (by decide +kernel) (by subst he; rfl) (by exact hg) ?_
        clear hg he
        obtain ⟨u5, hg, he, hx⟩ := bgd hx
        refine Ev.blk (is := [.astore 5, .aload_n 0, .getfield 2200]) (pc2 := 35) (L2 := [(2, v0), (1, v1), (8, 0), (0, v3), (0, v4), (2, u4)]) (S2 := [(2, u5)]) (h2 := h) (by decide +kernel) (by subst he; rfl) (by exact hg) ?_
        clear hg he
        obtain ⟨u6, hg, he, hx⟩ := bgd hx
        refine Ev.blk (is := [.iload_n 3, .aload_n 0, .getfield 2200]) (pc2 := 40) (L2 := [(2, v0), (1, v1), (8, 0), (0, v3), (0, v4), (2, u4)]) (S2 := [(2, u6), (0, v3), (2, u5)]) (h2 := h) (by decide +kernel) (by subst he; rfl) (by exact hg) ?_
        clear hg he
        obtain ⟨u7, hg, he, hx⟩ := bgd hx
        refine Ev.blk (is := [.iload 4, .aaload]) (pc2 := 43) (L2 := [(2, v0), (1, v1), (8, 0), (0, v3), (0, v4), (2, u4)]) (S2 := [(2, u7), (0, v3), (2, u5)]) (h2 := h) (by decide +kernel) (by subst he; rfl) (by exact hg) ?_
        clear hg he
        obtain ⟨h8, hg, he, hx⟩ := bgd hx
        refine Ev.blk (is := [.aastore]) (pc2 := 44) (L2 := [(2, v0), (1, v1), (8, 0), (0, v3), (0, v4), (2, u4)]) (S2 := []) (h2 := h8) (by decide +kernel) (by subst he; rfl) (by exact hg) ?_
        clear hg he
        obtain ⟨u9, hg, he, hx⟩ := bgd hx
        refine Ev.blk (is := [.aload_n 0, .getfield 2200]) (pc2 := 48) (L2 := [(2, v0), (1, v1), (8, 0), (0, v3), (0, v4), (2, u4)]) (S2 := [(2, u9)]) (h2 := h8) (by decide +kernel) (by subst he; rfl) (by exact hg) ?_
        clear hg he
        obtain ⟨h10, hg, he, hx⟩ := bgd hx
        refine Ev.blk (is := [.iload 4, .aload 5, .aastore]) (pc2 := 53) (L2 := [(2, v0), (1, v1), (8, 0), (0, v3), (0, v4), (2, u4)]) (S2 := []) (h2 := h10) (by decide +kernel) (by subst he; rfl) (by exact hg) ?_
        clear hg he
        refine Ev.blk (is := [.iinc 3 1, .iinc 4 1]) (pc2 := 59) (L2 := [(2, v0), (1, v1), (8, 0), (0, w32 (v3 + 1)), (0, w32 (v4 + 1)), (2, u4)]) (S2 := []) (h2 := h10) (by decide +kernel) rfl trivial ?_
        refine Ev.jp (i := .goto (-54)) (len := 3) (pc2 := 5) (by decide +kernel) rfl ?_
        refine Ev.wk (L2 := [(2, v0), (1, v1), (8, 0), (0, w32 (v3 + 1)), (0, w32 (v4 + 1)), (9, 0)]) (wkL_of ⟨Or.inl rfl, ⟨Or.inl rfl, ⟨Or.inl rfl, ⟨Or.inl rfl, ⟨Or.inl rfl, ⟨Or.inr rfl, trivial⟩⟩⟩⟩⟩⟩) ?_
        exact ih v0 v1 (w32 (v3 + 1)) (w32 (v4 + 1)) h10 _ hx
    · have hx := hb hc
      clear ha hb hc
      refine Ev.blk (is := [.aload_n 0, .iload_n 3]) (pc2 := 64) (L2 := [(2, v0), (1, v1), (8, 0), (0, v3), (0, v4), (9, 0)]) (S2 := [(0, v3), (2, v0)]) (h2 := h) (by decide +kernel) rfl trivial ?_
      obtain ⟨_, hg, -, hx⟩ := bgd hx
      obtain ⟨h12, hc, hx⟩ := bca hx
      refine Ev.call (args := [(2, v0), (0, v3)]) (S2 := []) (r1 := none) (h1 := h12) (i := .invokevirtual 60) (by decide +kernel) rfl rfl (Nat.le_of_ble_eq_true rfl) (Or.inr (Or.inl ⟨rfl, hg, by decide +kernel⟩)) (x_Ledger_shorten (by omega) hc) ?_
      cases hx
      exact Ev.ret (i := .return_) (len := 1) (by decide +kernel) rfl (finOf (t := none) rfl (trivial))
theorem x_Ledger_keepOnly {sc : AS} {d : Nat} (hd : 3 ≤ d) {v0 : Int} {v1 : Int} {h : AH} {r : AH} (hx : Ledger_keepOnly v0 v1 h = some r) : Runs sc d 109 [(2, v0), (1, v1)] h none r := by
  obtain ⟨d, rfl⟩ : ∃ e, d = e + 1 := ⟨d - 1, by omega⟩
  have hd : 2 ≤ d := by omega
  unfold Ledger_keepOnly at hx
  refine ⟨⟨aM_109, rfl, Nat.le_of_ble_eq_true rfl⟩, ?_⟩
  show Ev sc d 109 0 [(2, v0), (1, v1), (8, 0), (9, 0), (9, 0), (9, 0)] [] h none r
  refine Ev.blk (is := [.iconst 0, .istore_n 3, .iconst 0, .istore 4]) (pc2 := 5) (L2 := [(2, v0), (1, v1), (8, 0), (0, 0), (0, 0), (9, 0)]) (S2 := []) (h2 := h) (by decide +kernel) rfl trivial ?_
  exact y_Ledger_keepOnly_5 hd FU v0 v1 0 0 h _ hx
theorem x_X_prune {sc : AS} {d : Nat} (hd : 7 ≤ d) {v0 : Int} {v1 : Int} {h : AH} {r : (Int × AH)} (hx : X_prune v0 v1 h = some r) : Runs sc d 108 [(2, v0), (0, v1)] h (some (0, r.1)) r.2 := by
  obtain ⟨d, rfl⟩ : ∃ e, d = e + 1 := ⟨d - 1, by omega⟩
  have hd : 6 ≤ d := by omega
  unfold X_prune at hx
  refine ⟨⟨aM_108, rfl, Nat.le_of_ble_eq_true rfl⟩, ?_⟩
  show Ev sc d 108 0 [(2, v0), (0, v1)] [] h (some (0, r.1)) r.2
  obtain ⟨u1, hg, he, hx⟩ := bgd hx
  refine Ev.blk (is := [.aload_n 0, .getfield 8200]) (pc2 := 4) (L2 := [(2, v0), (0, v1)]) (S2 := [(2, u1)]) (h2 := h) (by decide +kernel) (by subst he; rfl) (by exact hg) ?_
  clear hg he
  refine Ev.blk (is := [.iload_n 1]) (pc2 := 5) (L2 := [(2, v0), (0, v1)]) (S2 := [(0, v1), (2, u1)]) (h2 := h) (by decide +kernel) rfl trivial ?_
  obtain ⟨_, hg, -, hx⟩ := bgd hx
  obtain ⟨u2, hc, hx⟩ := bca hx
  refine Ev.call (args := [(2, u1), (0, v1)]) (S2 := []) (r1 := (some (0, u2))) (h1 := h) (i := .invokevirtual 13) (by decide +kernel) rfl rfl (Nat.le_of_ble_eq_true rfl) (Or.inr (Or.inl ⟨rfl, hg, by decide +kernel⟩)) (x_Ledger_has (by omega) hc) ?_
  obtain ⟨ha, hb⟩ := bite hx
  clear hx
  refine Ev.br (i := .ifCond .ne 5) (len := 3) (a := 11) (b := 13) (by decide +kernel) rfl Iff.rfl (fun hc => ?_) (fun hc => ?_)
  · have hx := ha hc
    clear ha hb hc
    refine Ev.blk (is := [.iconst (-1)]) (pc2 := 12) (L2 := [(2, v0), (0, v1)]) (S2 := [(0, (-1))]) (h2 := h) (by decide +kernel) rfl trivial ?_
    cases hx
    exact Ev.ret (i := .ireturn) (len := 1) (by decide +kernel) rfl (finOf (t := some .int) rfl (trivial))
  · have hx := hb hc
    clear ha hb hc
    obtain ⟨u3, hg, he, hx⟩ := bgd hx
    refine Ev.blk (is := [.aload_n 0, .getfield 8200]) (pc2 := 17) (L2 := [(2, v0), (0, v1)]) (S2 := [(2, u3)]) (h2 := h) (by decide +kernel) (by subst he; rfl) (by exact hg) ?_
    clear hg he
    refine Ev.blk (is := [.iload_n 1]) (pc2 := 18) (L2 := [(2, v0), (0, v1)]) (S2 := [(0, v1), (2, u3)]) (h2 := h) (by decide +kernel) rfl trivial ?_
    obtain ⟨_, hg, -, hx⟩ := bgd hx
    obtain ⟨u4, hc, hx⟩ := bca hx
    refine Ev.call (args := [(2, u3), (0, v1)]) (S2 := []) (r1 := (some (0, u4))) (h1 := h) (i := .invokevirtual 12) (by decide +kernel) rfl rfl (Nat.le_of_ble_eq_true rfl) (Or.inr (Or.inl ⟨rfl, hg, by decide +kernel⟩)) (x_Ledger_isRight (by omega) hc) ?_
    obtain ⟨ha, hb⟩ := bite hx
    clear hx
    refine Ev.br (i := .ifCond .ne 6) (len := 3) (a := 24) (b := 27) (by decide +kernel) rfl Iff.rfl (fun hc => ?_) (fun hc => ?_)
    · have hx := ha hc
      clear ha hb hc
      refine Ev.blk (is := [.sipush (-2)]) (pc2 := 26) (L2 := [(2, v0), (0, v1)]) (S2 := [(0, (-2))]) (h2 := h) (by decide +kernel) rfl trivial ?_
      cases hx
      exact Ev.ret (i := .ireturn) (len := 1) (by decide +kernel) rfl (finOf (t := some .int) rfl (trivial))
    · have hx := hb hc
      clear ha hb hc
      obtain ⟨u5, hg, he, hx⟩ := bgd hx
      refine Ev.blk (is := [.aload_n 0, .getfield 8200]) (pc2 := 31) (L2 := [(2, v0), (0, v1)]) (S2 := [(2, u5)]) (h2 := h) (by decide +kernel) (by subst he; rfl) (by exact hg) ?_
      clear hg he
      obtain ⟨u6, hg, he, hx⟩ := bgd hx
      refine Ev.blk (is := [.aload_n 0, .getfield 8200]) (pc2 := 35) (L2 := [(2, v0), (0, v1)]) (S2 := [(2, u6), (2, u5)]) (h2 := h) (by decide +kernel) (by subst he; rfl) (by exact hg) ?_
      clear hg he
      obtain ⟨u7, hg, he, hx⟩ := bgd hx
      refine Ev.blk (is := [.getfield 2202]) (pc2 := 38) (L2 := [(2, v0), (0, v1)]) (S2 := [(2, u7), (2, u5)]) (h2 := h) (by decide +kernel) (by subst he; rfl) (by exact hg) ?_
      clear hg he
      obtain ⟨u8, hg, he, hx⟩ := bgd hx
      refine Ev.blk (is := [.iload_n 1, .laload]) (pc2 := 40) (L2 := [(2, v0), (0, v1)]) (S2 := [(1, u8), (2, u5)]) (h2 := h) (by decide +kernel) (by subst he; rfl) (by exact hg) ?_
      clear hg he
      obtain ⟨_, hg, -, hx⟩ := bgd hx
      obtain ⟨h10, hc, hx⟩ := bca hx
      refine Ev.call (args := [(2, u5), (1, u8)]) (S2 := []) (r1 := none) (h1 := h10) (i := .invokevirtual 109) (by decide +kernel) rfl rfl (Nat.le_of_ble_eq_true rfl) (Or.inr (Or.inl ⟨rfl, hg, by decide +kernel⟩)) (x_Ledger_keepOnly (by omega) hc) ?_
      obtain ⟨u11, hg, he, hx⟩ := bgd hx
      refine Ev.blk (is := [.aload_n 0, .getfield 8200]) (pc2 := 47) (L2 := [(2, v0), (0, v1)]) (S2 := [(2, u11)]) (h2 := h10) (by decide +kernel) (by subst he; rfl) (by exact hg) ?_
      clear hg he
      refine Ev.blk (is := [.iconst 0]) (pc2 := 48) (L2 := [(2, v0), (0, v1)]) (S2 := [(0, 0), (2, u11)]) (h2 := h10) (by decide +kernel) rfl trivial ?_
      obtain ⟨_, hg, -, hx⟩ := bgd hx
      obtain ⟨h13, hc, hx⟩ := bca hx
      refine Ev.call (args := [(2, u11), (0, 0)]) (S2 := []) (r1 := none) (h1 := h13) (i := .invokevirtual 87) (by decide +kernel) rfl rfl (Nat.le_of_ble_eq_true rfl) (Or.inr (Or.inl ⟨rfl, hg, by decide +kernel⟩)) (x_Ledger_checkFrom (by omega) hc) ?_
      obtain ⟨u14, hg, he, hx⟩ := bgd hx
      refine Ev.blk (is := [.aload_n 0, .getfield 8200]) (pc2 := 55) (L2 := [(2, v0), (0, v1)]) (S2 := [(2, u14)]) (h2 := h13) (by decide +kernel) (by subst he; rfl) (by exact hg) ?_
      clear hg he
      obtain ⟨u15, hg, he, hx⟩ := bgd hx
      refine Ev.blk (is := [.getfield 2005]) (pc2 := 58) (L2 := [(2, v0), (0, v1)]) (S2 := [(0, u15)]) (h2 := h13) (by decide +kernel) (by subst he; rfl) (by exact hg) ?_
      clear hg he
      cases hx
      exact Ev.ret (i := .ireturn) (len := 1) (by decide +kernel) rfl (finOf (t := some .int) rfl (trivial))
theorem x_X_drop {sc : AS} {d : Nat} (hd : 3 ≤ d) {v0 : Int} {h : AH} {r : (Int × AH)} (hx : X_drop v0 h = some r) : Runs sc d 110 [(2, v0)] h (some (0, r.1)) r.2 := by
  obtain ⟨d, rfl⟩ : ∃ e, d = e + 1 := ⟨d - 1, by omega⟩
  have hd : 2 ≤ d := by omega
  unfold X_drop at hx
  refine ⟨⟨aM_110, rfl, Nat.le_of_ble_eq_true rfl⟩, ?_⟩
  show Ev sc d 110 0 [(2, v0)] [] h (some (0, r.1)) r.2
  obtain ⟨u1, hg, he, hx⟩ := bgd hx
  refine Ev.blk (is := [.aload_n 0, .getfield 8200]) (pc2 := 4) (L2 := [(2, v0)]) (S2 := [(2, u1)]) (h2 := h) (by decide +kernel) (by subst he; rfl) (by exact hg) ?_
  clear hg he
  obtain ⟨u2, hg, he, hx⟩ := bgd hx
  refine Ev.blk (is := [.getfield 2005]) (pc2 := 7) (L2 := [(2, v0)]) (S2 := [(0, u2)]) (h2 := h) (by decide +kernel) (by subst he; rfl) (by exact hg) ?_
  clear hg he
  obtain ⟨ha, hb⟩ := bite hx
  clear hx
  refine Ev.br (i := .ifCond .ne 5) (len := 3) (a := 10) (b := 12) (by decide +kernel) rfl Iff.rfl (fun hc => ?_) (fun hc => ?_)
  · have hx := ha hc
    clear ha hb hc
    refine Ev.blk (is := [.iconst (-1)]) (pc2 := 11) (L2 := [(2, v0)]) (S2 := [(0, (-1))]) (h2 := h) (by decide +kernel) rfl trivial ?_
    cases hx
    exact Ev.ret (i := .ireturn) (len := 1) (by decide +kernel) rfl (finOf (t := some .int) rfl (trivial))
  · have hx := hb hc
    clear ha hb hc
    obtain ⟨u3, hg, he, hx⟩ := bgd hx
    refine Ev.blk (is := [.aload_n 0, .getfield 8200]) (pc2 := 16) (L2 := [(2, v0)]) (S2 := [(2, u3)]) (h2 := h) (by decide +kernel) (by subst he; rfl) (by exact hg) ?_
    clear hg he
    obtain ⟨u4, hg, he, hx⟩ := bgd hx
    refine Ev.blk (is := [.aload_n 0, .getfield 8200]) (pc2 := 20) (L2 := [(2, v0)]) (S2 := [(2, u4), (2, u3)]) (h2 := h) (by decide +kernel) (by subst he; rfl) (by exact hg) ?_
    clear hg he
    obtain ⟨u5, hg, he, hx⟩ := bgd hx
    refine Ev.blk (is := [.getfield 2005]) (pc2 := 23) (L2 := [(2, v0)]) (S2 := [(0, u5), (2, u3)]) (h2 := h) (by decide +kernel) (by subst he; rfl) (by exact hg) ?_
    clear hg he
    refine Ev.blk (is := [.iconst 1, .isub]) (pc2 := 25) (L2 := [(2, v0)]) (S2 := [(0, w32 (u5 - 1)), (2, u3)]) (h2 := h) (by decide +kernel) rfl trivial ?_
    obtain ⟨_, hg, -, hx⟩ := bgd hx
    obtain ⟨h7, hc, hx⟩ := bca hx
    refine Ev.call (args := [(2, u3), (0, w32 (u5 - 1))]) (S2 := []) (r1 := none) (h1 := h7) (i := .invokevirtual 60) (by decide +kernel) rfl rfl (Nat.le_of_ble_eq_true rfl) (Or.inr (Or.inl ⟨rfl, hg, by decide +kernel⟩)) (x_Ledger_shorten (by omega) hc) ?_
    obtain ⟨u8, hg, he, hx⟩ := bgd hx
    refine Ev.blk (is := [.aload_n 0, .getfield 8200]) (pc2 := 32) (L2 := [(2, v0)]) (S2 := [(2, u8)]) (h2 := h7) (by decide +kernel) (by subst he; rfl) (by exact hg) ?_
    clear hg he
    obtain ⟨u9, hg, he, hx⟩ := bgd hx
    refine Ev.blk (is := [.getfield 2005]) (pc2 := 35) (L2 := [(2, v0)]) (S2 := [(0, u9)]) (h2 := h7) (by decide +kernel) (by subst he; rfl) (by exact hg) ?_
    clear hg he
    cases hx
    exact Ev.ret (i := .ireturn) (len := 1) (by decide +kernel) rfl (finOf (t := some .int) rfl (trivial))
theorem x_X_clear {sc : AS} {d : Nat} (hd : 3 ≤ d) {v0 : Int} {h : AH} {r : (Int × AH)} (hx : X_clear v0 h = some r) : Runs sc d 111 [(2, v0)] h (some (0, r.1)) r.2 := by
  obtain ⟨d, rfl⟩ : ∃ e, d = e + 1 := ⟨d - 1, by omega⟩
  have hd : 2 ≤ d := by omega
  unfold X_clear at hx
  refine ⟨⟨aM_111, rfl, Nat.le_of_ble_eq_true rfl⟩, ?_⟩
  show Ev sc d 111 0 [(2, v0), (9, 0)] [] h (some (0, r.1)) r.2
  obtain ⟨u1, hg, he, hx⟩ := bgd hx
  refine Ev.blk (is := [.aload_n 0, .getfield 8200]) (pc2 := 4) (L2 := [(2, v0), (9, 0)]) (S2 := [(2, u1)]) (h2 := h) (by decide +kernel) (by subst he; rfl) (by exact hg) ?_
  clear hg he
  obtain ⟨u2, hg, he, hx⟩ := bgd hx
  refine Ev.blk (is := [.getfield 2005]) (pc2 := 7) (L2 := [(2, v0), (9, 0)]) (S2 := [(0, u2)]) (h2 := h) (by decide +kernel) (by subst he; rfl) (by exact hg) ?_
  clear hg he
  obtain ⟨u3, hg, he, hx⟩ := bgd hx
  refine Ev.blk (is := [.istore_n 1, .aload_n 0, .getfield 8200]) (pc2 := 12) (L2 := [(2, v0), (0, u2)]) (S2 := [(2, u3)]) (h2 := h) (by decide +kernel) (by subst he; rfl) (by exact hg) ?_
  clear hg he
  refine Ev.blk (is := [.iconst 0]) (pc2 := 13) (L2 := [(2, v0), (0, u2)]) (S2 := [(0, 0), (2, u3)]) (h2 := h) (by decide +kernel) rfl trivial ?_
  obtain ⟨_, hg, -, hx⟩ := bgd hx
  obtain ⟨h5, hc, hx⟩ := bca hx
  refine Ev.call (args := [(2, u3), (0, 0)]) (S2 := []) (r1 := none) (h1 := h5) (i := .invokevirtual 60) (by decide +kernel) rfl rfl (Nat.le_of_ble_eq_true rfl) (Or.inr (Or.inl ⟨rfl, hg, by decide +kernel⟩)) (x_Ledger_shorten (by omega) hc) ?_
  refine Ev.blk (is := [.iload_n 1]) (pc2 := 17) (L2 := [(2, v0), (0, u2)]) (S2 := [(0, u2)]) (h2 := h5) (by decide +kernel) rfl trivial ?_
  cases hx
  exact Ev.ret (i := .ireturn) (len := 1) (by decide +kernel) rfl (finOf (t := some .int) rfl (trivial))
theorem x_X_line {sc : AS} {d : Nat} (hd : 2 ≤ d) {v0 : Int} {v1 : Int} {v2 : Int} {h : AH} {r : Int} (hx : X_line v0 v1 v2 h = some r) : Runs sc d 112 [(2, v0), (0, v1), (0, v2)] h (some (0, r)) h := by
  obtain ⟨d, rfl⟩ : ∃ e, d = e + 1 := ⟨d - 1, by omega⟩
  have hd : 1 ≤ d := by omega
  unfold X_line at hx
  refine ⟨⟨aM_112, rfl, Nat.le_of_ble_eq_true rfl⟩, ?_⟩
  show Ev sc d 112 0 [(2, v0), (0, v1), (0, v2), (9, 0)] [] h (some (0, r)) h
  obtain ⟨u1, hg, he, hx⟩ := bgd hx
  refine Ev.blk (is := [.aload_n 0, .getfield 8200]) (pc2 := 4) (L2 := [(2, v0), (0, v1), (0, v2), (9, 0)]) (S2 := [(2, u1)]) (h2 := h) (by decide +kernel) (by subst he; rfl) (by exact hg) ?_
  clear hg he
  refine Ev.blk (is := [.iload_n 1]) (pc2 := 5) (L2 := [(2, v0), (0, v1), (0, v2), (9, 0)]) (S2 := [(0, v1), (2, u1)]) (h2 := h) (by decide +kernel) rfl trivial ?_
  obtain ⟨_, hg, -, hx⟩ := bgd hx
  obtain ⟨u2, hc, hx⟩ := bca hx
  refine Ev.call (args := [(2, u1), (0, v1)]) (S2 := []) (r1 := (some (0, u2))) (h1 := h) (i := .invokevirtual 13) (by decide +kernel) rfl rfl (Nat.le_of_ble_eq_true rfl) (Or.inr (Or.inl ⟨rfl, hg, by decide +kernel⟩)) (x_Ledger_has (by omega) hc) ?_
  obtain ⟨ha, hb⟩ := bite hx
  clear hx
  refine Ev.br (i := .ifCond .ne 5) (len := 3) (a := 11) (b := 13) (by decide +kernel) rfl Iff.rfl (fun hc => ?_) (fun hc => ?_)
  · have hx := ha hc
    clear ha hb hc
    refine Ev.blk (is := [.iconst (-1)]) (pc2 := 12) (L2 := [(2, v0), (0, v1), (0, v2), (9, 0)]) (S2 := [(0, (-1))]) (h2 := h) (by decide +kernel) rfl trivial ?_
    cases hx
    exact Ev.ret (i := .ireturn) (len := 1) (by decide +kernel) rfl (finOf (t := some .int) rfl (trivial))
  · have hx := hb hc
    clear ha hb hc
    obtain ⟨u3, hg, he, hx⟩ := bgd hx
    refine Ev.blk (is := [.aload_n 0, .getfield 8200]) (pc2 := 17) (L2 := [(2, v0), (0, v1), (0, v2), (9, 0)]) (S2 := [(2, u3)]) (h2 := h) (by decide +kernel) (by subst he; rfl) (by exact hg) ?_
    clear hg he
    obtain ⟨u4, hg, he, hx⟩ := bgd hx
    refine Ev.blk (is := [.getfield 2200]) (pc2 := 20) (L2 := [(2, v0), (0, v1), (0, v2), (9, 0)]) (S2 := [(2, u4)]) (h2 := h) (by decide +kernel) (by subst he; rfl) (by exact hg) ?_
    clear hg he
    obtain ⟨u5, hg, he, hx⟩ := bgd hx
    refine Ev.blk (is := [.iload_n 1, .aaload]) (pc2 := 22) (L2 := [(2, v0), (0, v1), (0, v2), (9, 0)]) (S2 := [(2, u5)]) (h2 := h) (by decide +kernel) (by subst he; rfl) (by exact hg) ?_
    clear hg he
    refine Ev.blk (is := [.astore_n 3, .iload_n 2]) (pc2 := 24) (L2 := [(2, v0), (0, v1), (0, v2), (2, u5)]) (S2 := [(0, v2)]) (h2 := h) (by decide +kernel) rfl trivial ?_
    obtain ⟨ha, hb⟩ := bite hx
    clear hx
    by_cases hc0 : v2 = 0
    · have hx := ha hc0
      clear ha hb
      refine Ev.jp (i := .tableswitch 90 0 6 #[44, 49, 54, 59, 64, 72, 80]) (len := 44) (pc2 := 68) (by decide +kernel) (by rw [hc0]; rfl) ?_
      clear hc0
      obtain ⟨u6, hg, he, hx⟩ := bgd hx
      refine Ev.blk (is := [.aload_n 3, .getfield 3002]) (pc2 := 72) (L2 := [(2, v0), (0, v1), (0, v2), (2, u5)]) (S2 := [(0, u6)]) (h2 := h) (by decide +kernel) (by subst he; rfl) (by exact hg) ?_
      clear hg he
      cases hx
      exact Ev.ret (i := .ireturn) (len := 1) (by decide +kernel) rfl (finOf (t := some .int) rfl (trivial))
    have hx := hb hc0
    clear ha hb
    obtain ⟨ha, hb⟩ := bite hx
    clear hx
    by_cases hc1 : v2 = 1
    · have hx := ha hc1
      clear ha hb
      refine Ev.jp (i := .tableswitch 90 0 6 #[44, 49, 54, 59, 64, 72, 80]) (len := 44) (pc2 := 73) (by decide +kernel) (by rw [hc1]; rfl) ?_
      clear hc1
      obtain ⟨u7, hg, he, hx⟩ := bgd hx
      refine Ev.blk (is := [.aload_n 3, .getfield 3003]) (pc2 := 77) (L2 := [(2, v0), (0, v1), (0, v2), (2, u5)]) (S2 := [(0, u7)]) (h2 := h) (by decide +kernel) (by subst he; rfl) (by exact hg) ?_
      clear hg he
      cases hx
      exact Ev.ret (i := .ireturn) (len := 1) (by decide +kernel) rfl (finOf (t := some .int) rfl (trivial))
    have hx := hb hc1
    clear ha hb
    obtain ⟨ha, hb⟩ := bite hx
    clear hx
    by_cases hc2 : v2 = 2
    · have hx := ha hc2
      clear ha hb
      refine Ev.jp (i := .tableswitch 90 0 6 #[44, 49, 54, 59, 64, 72, 80]) (len := 44) (pc2 := 78) (by decide +kernel) (by rw [hc2]; rfl) ?_
      clear hc2
      obtain ⟨u8, hg, he, hx⟩ := bgd hx
      refine Ev.blk (is := [.aload_n 3, .getfield 3004]) (pc2 := 82) (L2 := [(2, v0), (0, v1), (0, v2), (2, u5)]) (S2 := [(0, u8)]) (h2 := h) (by decide +kernel) (by subst he; rfl) (by exact hg) ?_
      clear hg he
      cases hx
      exact Ev.ret (i := .ireturn) (len := 1) (by decide +kernel) rfl (finOf (t := some .int) rfl (trivial))
    have hx := hb hc2
    clear ha hb
    obtain ⟨ha, hb⟩ := bite hx
    clear hx
    by_cases hc3 : v2 = 3
    · have hx := ha hc3
      clear ha hb
      refine Ev.jp (i := .tableswitch 90 0 6 #[44, 49, 54, 59, 64, 72, 80]) (len := 44) (pc2 := 83) (by decide +kernel) (by rw [hc3]; rfl) ?_
      clear hc3
      obtain ⟨u9, hg, he, hx⟩ := bgd hx
      refine Ev.blk (is := [.aload_n 3, .getfield 3005]) (pc2 := 87) (L2 := [(2, v0), (0, v1), (0, v2), (2, u5)]) (S2 := [(0, u9)]) (h2 := h) (by decide +kernel) (by subst he; rfl) (by exact hg) ?_
      clear hg he
      cases hx
      exact Ev.ret (i := .ireturn) (len := 1) (by decide +kernel) rfl (finOf (t := some .int) rfl (trivial))
    have hx := hb hc3
    clear ha hb
    obtain ⟨ha, hb⟩ := bite hx
    clear hx
    by_cases hc4 : v2 = 4
    · have hx := ha hc4
      clear ha hb
      refine Ev.jp (i := .tableswitch 90 0 6 #[44, 49, 54, 59, 64, 72, 80]) (len := 44) (pc2 := 88) (by decide +kernel) (by rw [hc4]; rfl) ?_
      clear hc4
      obtain ⟨u10, hg, he, hx⟩ := bgd hx
      refine Ev.blk (is := [.aload_n 3, .getfield 3200]) (pc2 := 92) (L2 := [(2, v0), (0, v1), (0, v2), (2, u5)]) (S2 := [(2, u10)]) (h2 := h) (by decide +kernel) (by subst he; rfl) (by exact hg) ?_
      clear hg he
      obtain ⟨u11, hg, he, hx⟩ := bgd hx
      refine Ev.blk (is := [.getfield 5001]) (pc2 := 95) (L2 := [(2, v0), (0, v1), (0, v2), (2, u5)]) (S2 := [(0, u11)]) (h2 := h) (by decide +kernel) (by subst he; rfl) (by exact hg) ?_
      clear hg he
      cases hx
      exact Ev.ret (i := .ireturn) (len := 1) (by decide +kernel) rfl (finOf (t := some .int) rfl (trivial))
    have hx := hb hc4
    clear ha hb
    obtain ⟨ha, hb⟩ := bite hx
    clear hx
    by_cases hc5 : v2 = 5
    · have hx := ha hc5
      clear ha hb
      refine Ev.jp (i := .tableswitch 90 0 6 #[44, 49, 54, 59, 64, 72, 80]) (len := 44) (pc2 := 96) (by decide +kernel) (by rw [hc5]; rfl) ?_
      clear hc5
      obtain ⟨u12, hg, he, hx⟩ := bgd hx
      refine Ev.blk (is := [.aload_n 3, .getfield 3201]) (pc2 := 100) (L2 := [(2, v0), (0, v1), (0, v2), (2, u5)]) (S2 := [(2, u12)]) (h2 := h) (by decide +kernel) (by subst he; rfl) (by exact hg) ?_
      clear hg he
      obtain ⟨u13, hg, he, hx⟩ := bgd hx
      refine Ev.blk (is := [.getfield 5001]) (pc2 := 103) (L2 := [(2, v0), (0, v1), (0, v2), (2, u5)]) (S2 := [(0, u13)]) (h2 := h) (by decide +kernel) (by subst he; rfl) (by exact hg) ?_
      clear hg he
      cases hx
      exact Ev.ret (i := .ireturn) (len := 1) (by decide +kernel) rfl (finOf (t := some .int) rfl (trivial))
    have hx := hb hc5
    clear ha hb
    obtain ⟨ha, hb⟩ := bite hx
    clear hx
    by_cases hc6 : v2 = 6
    · have hx := ha hc6
      clear ha hb
      refine Ev.jp (i := .tableswitch 90 0 6 #[44, 49, 54, 59, 64, 72, 80]) (len := 44) (pc2 := 104) (by decide +kernel) (by rw [hc6]; rfl) ?_
      clear hc6
      obtain ⟨u14, hg, he, hx⟩ := bgd hx
      refine Ev.blk (is := [.aload_n 0, .getfield 8200]) (pc2 := 108) (L2 := [(2, v0), (0, v1), (0, v2), (2, u5)]) (S2 := [(2, u14)]) (h2 := h) (by decide +kernel) (by subst he; rfl) (by exact hg) ?_
      clear hg he
      obtain ⟨u15, hg, he, hx⟩ := bgd hx
      refine Ev.blk (is := [.getfield 2201]) (pc2 := 111) (L2 := [(2, v0), (0, v1), (0, v2), (2, u5)]) (S2 := [(2, u15)]) (h2 := h) (by decide +kernel) (by subst he; rfl) (by exact hg) ?_
      clear hg he
      obtain ⟨u16, hg, he, hx⟩ := bgd hx
      refine Ev.blk (is := [.iload_n 1, .iaload]) (pc2 := 113) (L2 := [(2, v0), (0, v1), (0, v2), (2, u5)]) (S2 := [(0, u16)]) (h2 := h) (by decide +kernel) (by subst he; rfl) (by exact hg) ?_
      clear hg he
      cases hx
      exact Ev.ret (i := .ireturn) (len := 1) (by decide +kernel) rfl (finOf (t := some .int) rfl (trivial))
    have hx := hb hc6
    clear ha hb
    refine Ev.jp (i := .tableswitch 90 0 6 #[44, 49, 54, 59, 64, 72, 80]) (len := 44) (pc2 := 114) (by decide +kernel) (jsw (by omega)) ?_
    clear hc0 hc1 hc2 hc3 hc4 hc5 hc6
    refine Ev.blk (is := [.iconst (-1)]) (pc2 := 115) (L2 := [(2, v0), (0, v1), (0, v2), (2, u5)]) (S2 := [(0, (-1))]) (h2 := h) (by decide +kernel) rfl trivial ?_
    cases hx
    exact Ev.ret (i := .ireturn) (len := 1) (by decide +kernel) rfl (finOf (t := some .int) rfl (trivial))
theorem x_X_row {sc : AS} {d : Nat} (hd : 3 ≤ d) {v0 : Int} {v1 : Int} {v2 : Int} {v3 : Int} {v4 : Int} {h : AH} {r : Int} (hx : X_row v0 v1 v2 v3 v4 h = some r) : Runs sc d 113 [(2, v0), (0, v1), (0, v2), (0, v3), (0, v4)] h (some (0, r)) h := by
  obtain ⟨d, rfl⟩ : ∃ e, d = e + 1 := ⟨d - 1, by omega⟩
  have hd : 2 ≤ d := by omega
  unfold X_row at hx
  refine ⟨⟨aM_113, rfl, Nat.le_of_ble_eq_true rfl⟩, ?_⟩
  show Ev sc d 113 0 [(2, v0), (0, v1), (0, v2), (0, v3), (0, v4), (9, 0), (9, 0)] [] h (some (0, r)) h
  obtain ⟨u1, hg, he, hx⟩ := bgd hx
  refine Ev.blk (is := [.aload_n 0, .getfield 8200]) (pc2 := 4) (L2 := [(2, v0), (0, v1), (0, v2), (0, v3), (0, v4), (9, 0), (9, 0)]) (S2 := [(2, u1)]) (h2 := h) (by decide +kernel) (by subst he; rfl) (by exact hg) ?_
  clear hg he
  refine Ev.blk (is := [.iload_n 1, .iload_n 2, .iload_n 3]) (pc2 := 7) (L2 := [(2, v0), (0, v1), (0, v2), (0, v3), (0, v4), (9, 0), (9, 0)]) (S2 := [(0, v3), (0, v2), (0, v1), (2, u1)]) (h2 := h) (by decide +kernel) rfl trivial ?_
  obtain ⟨_, hg, -, hx⟩ := bgd hx
  obtain ⟨u2, hc, hx⟩ := bca hx
  refine Ev.call (args := [(2, u1), (0, v1), (0, v2), (0, v3)]) (S2 := []) (r1 := (some (0, u2))) (h1 := h) (i := .invokevirtual 96) (by decide +kernel) rfl rfl (Nat.le_of_ble_eq_true rfl) (Or.inr (Or.inl ⟨rfl, hg, by decide +kernel⟩)) (x_Ledger_hasRow (by omega) hc) ?_
  obtain ⟨ha, hb⟩ := bite hx
  clear hx
  refine Ev.br (i := .ifCond .eq 14) (len := 3) (a := 24) (b := 13) (by decide +kernel) rfl Iff.rfl (fun hc => ?_) (fun hc => ?_)
  · have hx := ha hc
    clear ha hb hc
    refine Ev.blk (is := [.iconst (-1)]) (pc2 := 25) (L2 := [(2, v0), (0, v1), (0, v2), (0, v3), (0, v4), (9, 0), (9, 0)]) (S2 := [(0, (-1))]) (h2 := h) (by decide +kernel) rfl trivial ?_
    cases hx
    exact Ev.ret (i := .ireturn) (len := 1) (by decide +kernel) rfl (finOf (t := some .int) rfl (trivial))
  · have hx := hb hc
    clear ha hb hc
    refine Ev.blk (is := [.iload 4]) (pc2 := 15) (L2 := [(2, v0), (0, v1), (0, v2), (0, v3), (0, v4), (9, 0), (9, 0)]) (S2 := [(0, v4)]) (h2 := h) (by decide +kernel) rfl trivial ?_
    obtain ⟨ha, hb⟩ := bite hx
    clear hx
    refine Ev.br (i := .ifCond .lt 9) (len := 3) (a := 24) (b := 18) (by decide +kernel) rfl Iff.rfl (fun hc => ?_) (fun hc => ?_)
    · have hx := ha hc
      clear ha hb hc
      refine Ev.blk (is := [.iconst (-1)]) (pc2 := 25) (L2 := [(2, v0), (0, v1), (0, v2), (0, v3), (0, v4), (9, 0), (9, 0)]) (S2 := [(0, (-1))]) (h2 := h) (by decide +kernel) rfl trivial ?_
      cases hx
      exact Ev.ret (i := .ireturn) (len := 1) (by decide +kernel) rfl (finOf (t := some .int) rfl (trivial))
    · have hx := hb hc
      clear ha hb hc
      refine Ev.blk (is := [.iload 4, .iconst 3]) (pc2 := 21) (L2 := [(2, v0), (0, v1), (0, v2), (0, v3), (0, v4), (9, 0), (9, 0)]) (S2 := [(0, 3), (0, v4)]) (h2 := h) (by decide +kernel) rfl trivial ?_
      obtain ⟨ha, hb⟩ := bite hx
      clear hx
      refine Ev.br (i := .if_icmp .le 5) (len := 3) (a := 24) (b := 26) (by decide +kernel) rfl Iff.rfl (fun hc => ?_) (fun hc => ?_)
      · have hx := ha hc
        clear ha hb hc
        refine Ev.blk (is := [.iconst (-1)]) (pc2 := 25) (L2 := [(2, v0), (0, v1), (0, v2), (0, v3), (0, v4), (9, 0), (9, 0)]) (S2 := [(0, (-1))]) (h2 := h) (by decide +kernel) rfl trivial ?_
        cases hx
        exact Ev.ret (i := .ireturn) (len := 1) (by decide +kernel) rfl (finOf (t := some .int) rfl (trivial))
      · have hx := hb hc
        clear ha hb hc
        obtain ⟨u3, hg, he, hx⟩ := bgd hx
        refine Ev.blk (is := [.aload_n 0, .getfield 8200]) (pc2 := 30) (L2 := [(2, v0), (0, v1), (0, v2), (0, v3), (0, v4), (9, 0), (9, 0)]) (S2 := [(2, u3)]) (h2 := h) (by decide +kernel) (by subst he; rfl) (by exact hg) ?_
        clear hg he
        obtain ⟨u4, hg, he, hx⟩ := bgd hx
        refine Ev.blk (is := [.getfield 2200]) (pc2 := 33) (L2 := [(2, v0), (0, v1), (0, v2), (0, v3), (0, v4), (9, 0), (9, 0)]) (S2 := [(2, u4)]) (h2 := h) (by decide +kernel) (by subst he; rfl) (by exact hg) ?_
        clear hg he
        obtain ⟨u5, hg, he, hx⟩ := bgd hx
        refine Ev.blk (is := [.iload_n 1, .aaload]) (pc2 := 35) (L2 := [(2, v0), (0, v1), (0, v2), (0, v3), (0, v4), (9, 0), (9, 0)]) (S2 := [(2, u5)]) (h2 := h) (by decide +kernel) (by subst he; rfl) (by exact hg) ?_
        clear hg he
        refine Ev.blk (is := [.iload_n 2]) (pc2 := 36) (L2 := [(2, v0), (0, v1), (0, v2), (0, v3), (0, v4), (9, 0), (9, 0)]) (S2 := [(0, v2), (2, u5)]) (h2 := h) (by decide +kernel) rfl trivial ?_
        obtain ⟨_, hg, -, hx⟩ := bgd hx
        obtain ⟨u6, hc, hx⟩ := bca hx
        refine Ev.call (args := [(2, u5), (0, v2)]) (S2 := []) (r1 := (some (2, u6))) (h1 := h) (i := .invokevirtual 97) (by decide +kernel) rfl rfl (Nat.le_of_ble_eq_true rfl) (Or.inr (Or.inl ⟨rfl, hg, by decide +kernel⟩)) (x_Line_side (by omega) hc) ?_
        refine Ev.blk (is := [.astore 5, .iload 4, .iconst 3]) (pc2 := 44) (L2 := [(2, v0), (0, v1), (0, v2), (0, v3), (0, v4), (2, u6), (9, 0)]) (S2 := [(0, 3), (0, v4)]) (h2 := h) (by decide +kernel) rfl trivial ?_
        obtain ⟨ha, hb⟩ := bite hx
        clear hx
        refine Ev.br (i := .if_icmp .ge 12) (len := 3) (a := 47) (b := 56) (by decide +kernel) rfl Iff.rfl (fun hc => ?_) (fun hc => ?_)
        · have hx := ha hc
          clear ha hb hc
          refine Ev.blk (is := [.aload 5, .iload_n 3, .iload 4]) (pc2 := 52) (L2 := [(2, v0), (0, v1), (0, v2), (0, v3), (0, v4), (2, u6), (9, 0)]) (S2 := [(0, v4), (0, v3), (2, u6)]) (h2 := h) (by decide +kernel) rfl trivial ?_
          obtain ⟨_, hg, -, hx⟩ := bgd hx
          obtain ⟨u7, hc, hx⟩ := bca hx
          refine Ev.call (args := [(2, u6), (0, v3), (0, v4)]) (S2 := []) (r1 := (some (0, u7))) (h1 := h) (i := .invokevirtual 34) (by decide +kernel) rfl rfl (Nat.le_of_ble_eq_true rfl) (Or.inr (Or.inl ⟨rfl, hg, by decide +kernel⟩)) (x_Side_cell (by omega) hc) ?_
          cases hx
          exact Ev.ret (i := .ireturn) (len := 1) (by decide +kernel) rfl (finOf (t := some .int) rfl (trivial))
        · have hx := hb hc
          clear ha hb hc
          obtain ⟨u8, hg, he, hx⟩ := bgd hx
          refine Ev.blk (is := [.aload_n 0, .getfield 8200]) (pc2 := 60) (L2 := [(2, v0), (0, v1), (0, v2), (0, v3), (0, v4), (2, u6), (9, 0)]) (S2 := [(2, u8)]) (h2 := h) (by decide +kernel) (by subst he; rfl) (by exact hg) ?_
          clear hg he
          obtain ⟨u9, hg, he, hx⟩ := bgd hx
          refine Ev.blk (is := [.aload_n 0, .getfield 8200]) (pc2 := 64) (L2 := [(2, v0), (0, v1), (0, v2), (0, v3), (0, v4), (2, u6), (9, 0)]) (S2 := [(2, u9), (2, u8)]) (h2 := h) (by decide +kernel) (by subst he; rfl) (by exact hg) ?_
          clear hg he
          obtain ⟨u10, hg, he, hx⟩ := bgd hx
          refine Ev.blk (is := [.getfield 2104]) (pc2 := 67) (L2 := [(2, v0), (0, v1), (0, v2), (0, v3), (0, v4), (2, u6), (9, 0)]) (S2 := [(1, u10), (2, u8)]) (h2 := h) (by decide +kernel) (by subst he; rfl) (by exact hg) ?_
          clear hg he
          refine Ev.blk (is := [.iload_n 1, .aload 5, .iload_n 3, .iconst 0]) (pc2 := 72) (L2 := [(2, v0), (0, v1), (0, v2), (0, v3), (0, v4), (2, u6), (9, 0)]) (S2 := [(0, 0), (0, v3), (2, u6), (0, v1), (1, u10), (2, u8)]) (h2 := h) (by decide +kernel) rfl trivial ?_
          obtain ⟨_, hg, -, hx⟩ := bgd hx
          obtain ⟨u11, hc, hx⟩ := bca hx
          refine Ev.call (args := [(2, u6), (0, v3), (0, 0)]) (S2 := [(0, v1), (1, u10), (2, u8)]) (r1 := (some (0, u11))) (h1 := h) (i := .invokevirtual 34) (by decide +kernel) rfl rfl (Nat.le_of_ble_eq_true rfl) (Or.inr (Or.inl ⟨rfl, hg, by decide +kernel⟩)) (x_Side_cell (by omega) hc) ?_
          obtain ⟨_, hg, -, hx⟩ := bgd hx
          obtain ⟨u12, hc, hx⟩ := bca hx
          refine Ev.call (args := [(2, u8), (1, u10), (0, v1), (0, u11)]) (S2 := []) (r1 := (some (0, u12))) (h1 := h) (i := .invokevirtual 54) (by decide +kernel) rfl rfl (Nat.le_of_ble_eq_true rfl) (Or.inr (Or.inl ⟨rfl, hg, by decide +kernel⟩)) (x_Ledger_leastAhead (by omega) hc) ?_
          refine Ev.blk (is := [.istore 6, .iload 6]) (pc2 := 82) (L2 := [(2, v0), (0, v1), (0, v2), (0, v3), (0, v4), (2, u6), (0, u12)]) (S2 := [(0, u12)]) (h2 := h) (by decide +kernel) rfl trivial ?_
          obtain ⟨ha, hb⟩ := bite hx
          clear hx
          refine Ev.br (i := .ifCond .lt 8) (len := 3) (a := 90) (b := 85) (by decide +kernel) rfl Iff.rfl (fun hc => ?_) (fun hc => ?_)
          · have hx := ha hc
            clear ha hb hc
            refine Ev.blk (is := [.sipush (-2)]) (pc2 := 92) (L2 := [(2, v0), (0, v1), (0, v2), (0, v3), (0, v4), (2, u6), (0, u12)]) (S2 := [(0, (-2))]) (h2 := h) (by decide +kernel) rfl trivial ?_
            cases hx
            exact Ev.ret (i := .ireturn) (len := 1) (by decide +kernel) rfl (finOf (t := some .int) rfl (trivial))
          · have hx := hb hc
            clear ha hb hc
            refine Ev.blk (is := [.iload 6]) (pc2 := 87) (L2 := [(2, v0), (0, v1), (0, v2), (0, v3), (0, v4), (2, u6), (0, u12)]) (S2 := [(0, u12)]) (h2 := h) (by decide +kernel) rfl trivial ?_
            refine Ev.jp (i := .goto 5) (len := 3) (pc2 := 92) (by decide +kernel) rfl ?_
            cases hx
            exact Ev.ret (i := .ireturn) (len := 1) (by decide +kernel) rfl (finOf (t := some .int) rfl (trivial))
theorem x_X_right {sc : AS} {d : Nat} (hd : 1 ≤ d) {v0 : Int} {h : AH} {r : Int} (hx : X_right v0 h = some r) : Runs sc d 114 [(2, v0)] h (some (1, r)) h := by
  obtain ⟨d, rfl⟩ : ∃ e, d = e + 1 := ⟨d - 1, by omega⟩
  have hd : 0 ≤ d := by omega
  unfold X_right at hx
  refine ⟨⟨aM_114, rfl, Nat.le_of_ble_eq_true rfl⟩, ?_⟩
  show Ev sc d 114 0 [(2, v0)] [] h (some (1, r)) h
  obtain ⟨u1, hg, he, hx⟩ := bgd hx
  refine Ev.blk (is := [.aload_n 0, .getfield 8200]) (pc2 := 4) (L2 := [(2, v0)]) (S2 := [(2, u1)]) (h2 := h) (by decide +kernel) (by subst he; rfl) (by exact hg) ?_
  clear hg he
  obtain ⟨u2, hg, he, hx⟩ := bgd hx
  refine Ev.blk (is := [.getfield 2104]) (pc2 := 7) (L2 := [(2, v0)]) (S2 := [(1, u2)]) (h2 := h) (by decide +kernel) (by subst he; rfl) (by exact hg) ?_
  clear hg he
  cases hx
  exact Ev.ret (i := .lreturn) (len := 1) (by decide +kernel) rfl (finOf (t := some .long) rfl (trivial))
theorem x_X_rests {sc : AS} {d : Nat} (hd : 3 ≤ d) {v0 : Int} {v1 : Int} {h : AH} {r : Int} (hx : X_rests v0 v1 h = some r) : Runs sc d 115 [(2, v0), (0, v1)] h (some (1, r)) h := by
  obtain ⟨d, rfl⟩ : ∃ e, d = e + 1 := ⟨d - 1, by omega⟩
  have hd : 2 ≤ d := by omega
  unfold X_rests at hx
  refine ⟨⟨aM_115, rfl, Nat.le_of_ble_eq_true rfl⟩, ?_⟩
  show Ev sc d 115 0 [(2, v0), (0, v1)] [] h (some (1, r)) h
  obtain ⟨u1, hg, he, hx⟩ := bgd hx
  refine Ev.blk (is := [.aload_n 0, .getfield 8200]) (pc2 := 4) (L2 := [(2, v0), (0, v1)]) (S2 := [(2, u1)]) (h2 := h) (by decide +kernel) (by subst he; rfl) (by exact hg) ?_
  clear hg he
  refine Ev.blk (is := [.iload_n 1]) (pc2 := 5) (L2 := [(2, v0), (0, v1)]) (S2 := [(0, v1), (2, u1)]) (h2 := h) (by decide +kernel) rfl trivial ?_
  obtain ⟨_, hg, -, hx⟩ := bgd hx
  obtain ⟨u2, hc, hx⟩ := bca hx
  refine Ev.call (args := [(2, u1), (0, v1)]) (S2 := []) (r1 := (some (0, u2))) (h1 := h) (i := .invokevirtual 13) (by decide +kernel) rfl rfl (Nat.le_of_ble_eq_true rfl) (Or.inr (Or.inl ⟨rfl, hg, by decide +kernel⟩)) (x_Ledger_has (by omega) hc) ?_
  obtain ⟨ha, hb⟩ := bite hx
  clear hx
  refine Ev.br (i := .ifCond .ne 7) (len := 3) (a := 11) (b := 15) (by decide +kernel) rfl Iff.rfl (fun hc => ?_) (fun hc => ?_)
  · have hx := ha hc
    clear ha hb hc
    refine Ev.blk (is := [.jsr_w (-1)]) (pc2 := 14) (L2 := [(2, v0), (0, v1)]) (S2 := [(1, (-1))]) (h2 := h) (by decide +kernel) rfl trivial ?_
    cases hx
    exact Ev.ret (i := .lreturn) (len := 1) (by decide +kernel) rfl (finOf (t := some .long) rfl (trivial))
  · have hx := hb hc
    clear ha hb hc
    obtain ⟨u3, hg, he, hx⟩ := bgd hx
    refine Ev.blk (is := [.aload_n 0, .getfield 8200]) (pc2 := 19) (L2 := [(2, v0), (0, v1)]) (S2 := [(2, u3)]) (h2 := h) (by decide +kernel) (by subst he; rfl) (by exact hg) ?_
    clear hg he
    refine Ev.blk (is := [.iload_n 1]) (pc2 := 20) (L2 := [(2, v0), (0, v1)]) (S2 := [(0, v1), (2, u3)]) (h2 := h) (by decide +kernel) rfl trivial ?_
    obtain ⟨_, hg, -, hx⟩ := bgd hx
    obtain ⟨u4, hc, hx⟩ := bca hx
    refine Ev.call (args := [(2, u3), (0, v1)]) (S2 := []) (r1 := (some (0, u4))) (h1 := h) (i := .invokevirtual 12) (by decide +kernel) rfl rfl (Nat.le_of_ble_eq_true rfl) (Or.inr (Or.inl ⟨rfl, hg, by decide +kernel⟩)) (x_Ledger_isRight (by omega) hc) ?_
    obtain ⟨ha, hb⟩ := bite hx
    clear hx
    refine Ev.br (i := .ifCond .eq 15) (len := 3) (a := 38) (b := 26) (by decide +kernel) rfl Iff.rfl (fun hc => ?_) (fun hc => ?_)
    · have hx := ha hc
      clear ha hb hc
      refine Ev.blk (is := [.jsr_w (-2)]) (pc2 := 41) (L2 := [(2, v0), (0, v1)]) (S2 := [(1, (-2))]) (h2 := h) (by decide +kernel) rfl trivial ?_
      cases hx
      exact Ev.ret (i := .lreturn) (len := 1) (by decide +kernel) rfl (finOf (t := some .long) rfl (trivial))
    · have hx := hb hc
      clear ha hb hc
      obtain ⟨u5, hg, he, hx⟩ := bgd hx
      refine Ev.blk (is := [.aload_n 0, .getfield 8200]) (pc2 := 30) (L2 := [(2, v0), (0, v1)]) (S2 := [(2, u5)]) (h2 := h) (by decide +kernel) (by subst he; rfl) (by exact hg) ?_
      clear hg he
      obtain ⟨u6, hg, he, hx⟩ := bgd hx
      refine Ev.blk (is := [.getfield 2202]) (pc2 := 33) (L2 := [(2, v0), (0, v1)]) (S2 := [(2, u6)]) (h2 := h) (by decide +kernel) (by subst he; rfl) (by exact hg) ?_
      clear hg he
      obtain ⟨u7, hg, he, hx⟩ := bgd hx
      refine Ev.blk (is := [.iload_n 1, .laload]) (pc2 := 35) (L2 := [(2, v0), (0, v1)]) (S2 := [(1, u7)]) (h2 := h) (by decide +kernel) (by subst he; rfl) (by exact hg) ?_
      clear hg he
      refine Ev.jp (i := .goto 6) (len := 3) (pc2 := 41) (by decide +kernel) rfl ?_
      cases hx
      exact Ev.ret (i := .lreturn) (len := 1) (by decide +kernel) rfl (finOf (t := some .long) rfl (trivial))
