/-! the methods run as their shallow functions say -/
theorem x_Math_min {sc : AS} {d : Nat} (hd : 1 ≤ d) {v0 : Int} {v1 : Int} {h : AH} {r : Int} (hx : Math_min v0 v1 = some r) : Runs sc d 61 [(0, v0), (0, v1)] h (some (0, r)) h := by
  obtain ⟨d, rfl⟩ : ∃ e, d = e + 1 := ⟨d - 1, by omega⟩
  have hd : 0 ≤ d := by omega
  unfold Math_min at hx
  refine ⟨⟨aM_61, rfl, Nat.le_of_ble_eq_true rfl⟩, ?_⟩
  show Ev sc d 61 0 [(0, v0), (0, v1)] [] h (some (0, r)) h
  refine Ev.blk (is := [.iload_n 0, .iload_n 1]) (pc2 := 2) (L2 := [(0, v0), (0, v1)]) (S2 := [(0, v1), (0, v0)]) (h2 := h) (by decide +kernel) rfl trivial ?_
  obtain ⟨ha, hb⟩ := bite hx
  clear hx
  refine Ev.br (i := .if_icmp .gt 7) (len := 3) (a := 9) (b := 5) (by decide +kernel) rfl Iff.rfl (fun hc => ?_) (fun hc => ?_)
  · have hx := ha hc
    clear ha hb hc
    refine Ev.blk (is := [.iload_n 1]) (pc2 := 10) (L2 := [(0, v0), (0, v1)]) (S2 := [(0, v1)]) (h2 := h) (by decide +kernel) rfl trivial ?_
    cases hx
    exact Ev.ret (i := .ireturn) (len := 1) (by decide +kernel) rfl (finOf (t := some .int) rfl (trivial))
  · have hx := hb hc
    clear ha hb hc
    refine Ev.blk (is := [.iload_n 0]) (pc2 := 6) (L2 := [(0, v0), (0, v1)]) (S2 := [(0, v0)]) (h2 := h) (by decide +kernel) rfl trivial ?_
    refine Ev.jp (i := .goto 4) (len := 3) (pc2 := 10) (by decide +kernel) rfl ?_
    cases hx
    exact Ev.ret (i := .ireturn) (len := 1) (by decide +kernel) rfl (finOf (t := some .int) rfl (trivial))
theorem x_Ledger_shorten {sc : AS} {d : Nat} (hd : 2 ≤ d) {v0 : Int} {v1 : Int} {h : AH} {r : AH} (hx : Ledger_shorten v0 v1 h = some r) : Runs sc d 60 [(2, v0), (0, v1)] h none r := by
  obtain ⟨d, rfl⟩ : ∃ e, d = e + 1 := ⟨d - 1, by omega⟩
  have hd : 1 ≤ d := by omega
  unfold Ledger_shorten at hx
  refine ⟨⟨aM_60, rfl, Nat.le_of_ble_eq_true rfl⟩, ?_⟩
  show Ev sc d 60 0 [(2, v0), (0, v1)] [] h none r
  obtain ⟨u1, hg, he, hx⟩ := bgd hx
  refine Ev.blk (is := [.aload_n 0, .iconst 0, .aload_n 0, .getfield 2005]) (pc2 := 6) (L2 := [(2, v0), (0, v1)]) (S2 := [(0, u1), (0, 0), (2, v0)]) (h2 := h) (by decide +kernel) (by subst he; rfl) (by exact hg) ?_
  clear hg he
  refine Ev.blk (is := [.iload_n 1]) (pc2 := 7) (L2 := [(2, v0), (0, v1)]) (S2 := [(0, v1), (0, u1), (0, 0), (2, v0)]) (h2 := h) (by decide +kernel) rfl trivial ?_
  obtain ⟨u2, hc, hx⟩ := bca hx
  refine Ev.call (args := [(0, u1), (0, v1)]) (S2 := [(0, 0), (2, v0)]) (r1 := (some (0, u2))) (h1 := h) (i := .invokestatic 61) (by decide +kernel) rfl rfl (Nat.le_of_ble_eq_true rfl) (Or.inl rfl) (x_Math_min (by omega) hc) ?_
  obtain ⟨u3, hc, hx⟩ := bca hx
  refine Ev.call (args := [(0, 0), (0, u2)]) (S2 := [(2, v0)]) (r1 := (some (0, u3))) (h1 := h) (i := .invokestatic 42) (by decide +kernel) rfl rfl (Nat.le_of_ble_eq_true rfl) (Or.inl rfl) (x_Math_max (by omega) hc) ?_
  obtain ⟨h4, hg, he, hx⟩ := bgd hx
  refine Ev.blk (is := [.putfield 2005]) (pc2 := 16) (L2 := [(2, v0), (0, v1)]) (S2 := []) (h2 := h4) (by decide +kernel) (by subst he; rfl) (by exact hg) ?_
  clear hg he
  obtain ⟨u5, hg, he, hx⟩ := bgd hx
  refine Ev.blk (is := [.aload_n 0, .dup, .getfield 2104]) (pc2 := 21) (L2 := [(2, v0), (0, v1)]) (S2 := [(1, u5), (2, v0)]) (h2 := h4) (by decide +kernel) (by subst he; rfl) (by exact hg) ?_
  clear hg he
  obtain ⟨u6, hg, he, hx⟩ := bgd hx
  refine Ev.blk (is := [.lconst 1, .aload_n 0, .getfield 2005]) (pc2 := 26) (L2 := [(2, v0), (0, v1)]) (S2 := [(0, u6), (1, 1), (1, u5), (2, v0)]) (h2 := h4) (by decide +kernel) (by subst he; rfl) (by exact hg) ?_
  clear hg he
  obtain ⟨h7, hg, he, hx⟩ := bgd hx
  refine Ev.blk (is := [.lshl, .lconst 1, .lsub, .land, .putfield 2104]) (pc2 := 33) (L2 := [(2, v0), (0, v1)]) (S2 := []) (h2 := h7) (by decide +kernel) (by subst he; rfl) (by exact hg) ?_
  clear hg he
  cases hx
  exact Ev.ret (i := .return_) (len := 1) (by decide +kernel) rfl (finOf (t := none) rfl (trivial))
theorem x_Finder_bring {sc : AS} {d : Nat} (hd : 52 ≤ d) {v0 : Int} {v1 : Int} {v2 : Int} {h : AH} {r : (Int × AH)} (hx : Finder_bring v0 v1 v2 h = some r) : Runs sc d 15 [(2, v0), (0, v1), (0, v2)] h (some (0, r.1)) r.2 := by
  obtain ⟨d, rfl⟩ : ∃ e, d = e + 1 := ⟨d - 1, by omega⟩
  have hd : 51 ≤ d := by omega
  unfold Finder_bring at hx
  refine ⟨⟨aM_15, rfl, Nat.le_of_ble_eq_true rfl⟩, ?_⟩
  show Ev sc d 15 0 [(2, v0), (0, v1), (0, v2), (9, 0), (9, 0)] [] h (some (0, r.1)) r.2
  obtain ⟨u1, hg, he, hx⟩ := bgd hx
  refine Ev.blk (is := [.aload_n 0, .getfield 1200]) (pc2 := 4) (L2 := [(2, v0), (0, v1), (0, v2), (9, 0), (9, 0)]) (S2 := [(2, u1)]) (h2 := h) (by decide +kernel) (by subst he; rfl) (by exact hg) ?_
  clear hg he
  obtain ⟨u2, hg, he, hx⟩ := bgd hx
  refine Ev.blk (is := [.getfield 2005]) (pc2 := 7) (L2 := [(2, v0), (0, v1), (0, v2), (9, 0), (9, 0)]) (S2 := [(0, u2)]) (h2 := h) (by decide +kernel) (by subst he; rfl) (by exact hg) ?_
  clear hg he
  refine Ev.blk (is := [.istore_n 3, .aload_n 0, .iload_n 1, .iload_n 2, .iconst 0]) (pc2 := 12) (L2 := [(2, v0), (0, v1), (0, v2), (0, u2), (9, 0)]) (S2 := [(0, 0), (0, v2), (0, v1), (2, v0)]) (h2 := h) (by decide +kernel) rfl trivial ?_
  obtain ⟨_, hg, -, hx⟩ := bgd hx
  obtain ⟨u3, hc, hx⟩ := bca hx
  refine Ev.call (args := [(2, v0), (0, v1), (0, v2), (0, 0)]) (S2 := []) (r1 := (some (0, u3.1))) (h1 := u3.2) (i := .invokevirtual 16) (by decide +kernel) rfl rfl (Nat.le_of_ble_eq_true rfl) (Or.inr (Or.inl ⟨rfl, hg, by decide +kernel⟩)) (x_Finder_bringAt 45 d (by omega) v0 v1 v2 0 h _ hc) ?_
  refine Ev.blk (is := [.istore 4, .iload 4]) (pc2 := 19) (L2 := [(2, v0), (0, v1), (0, v2), (0, u2), (0, u3.1)]) (S2 := [(0, u3.1)]) (h2 := u3.2) (by decide +kernel) rfl trivial ?_
  obtain ⟨ha, hb⟩ := bite hx
  clear hx
  refine Ev.br (i := .ifCond .ge 11) (len := 3) (a := 22) (b := 30) (by decide +kernel) rfl Iff.rfl (fun hc => ?_) (fun hc => ?_)
  · have hx := ha hc
    clear ha hb hc
    obtain ⟨u4, hg, he, hx⟩ := bgd hx
    refine Ev.blk (is := [.aload_n 0, .getfield 1200]) (pc2 := 26) (L2 := [(2, v0), (0, v1), (0, v2), (0, u2), (0, u3.1)]) (S2 := [(2, u4)]) (h2 := u3.2) (by decide +kernel) (by subst he; rfl) (by exact hg) ?_
    clear hg he
    refine Ev.blk (is := [.iload_n 3]) (pc2 := 27) (L2 := [(2, v0), (0, v1), (0, v2), (0, u2), (0, u3.1)]) (S2 := [(0, u2), (2, u4)]) (h2 := u3.2) (by decide +kernel) rfl trivial ?_
    obtain ⟨_, hg, -, hx⟩ := bgd hx
    obtain ⟨h6, hc, hx⟩ := bca hx
    refine Ev.call (args := [(2, u4), (0, u2)]) (S2 := []) (r1 := none) (h1 := h6) (i := .invokevirtual 60) (by decide +kernel) rfl rfl (Nat.le_of_ble_eq_true rfl) (Or.inr (Or.inl ⟨rfl, hg, by decide +kernel⟩)) (x_Ledger_shorten (by omega) hc) ?_
    refine Ev.blk (is := [.iload 4]) (pc2 := 32) (L2 := [(2, v0), (0, v1), (0, v2), (0, u2), (0, u3.1)]) (S2 := [(0, u3.1)]) (h2 := h6) (by decide +kernel) rfl trivial ?_
    cases hx
    exact Ev.ret (i := .ireturn) (len := 1) (by decide +kernel) rfl (finOf (t := some .int) rfl (trivial))
  · have hx := hb hc
    clear ha hb hc
    refine Ev.blk (is := [.iload 4]) (pc2 := 32) (L2 := [(2, v0), (0, v1), (0, v2), (0, u2), (0, u3.1)]) (S2 := [(0, u3.1)]) (h2 := u3.2) (by decide +kernel) rfl trivial ?_
    cases hx
    exact Ev.ret (i := .ireturn) (len := 1) (by decide +kernel) rfl (finOf (t := some .int) rfl (trivial))
theorem x_X_find {sc : AS} {d : Nat} (hd : 53 ≤ d) {v0 : Int} {v1 : Int} {v2 : Int} {h : AH} {r : (Int × AH)} (hx : X_find v0 v1 v2 h = some r) : Runs sc d 9 [(2, v0), (0, v1), (0, v2)] h (some (0, r.1)) r.2 := by
  obtain ⟨d, rfl⟩ : ∃ e, d = e + 1 := ⟨d - 1, by omega⟩
  have hd : 52 ≤ d := by omega
  unfold X_find at hx
  refine ⟨⟨aM_9, rfl, Nat.le_of_ble_eq_true rfl⟩, ?_⟩
  show Ev sc d 9 0 [(2, v0), (0, v1), (0, v2), (9, 0)] [] h (some (0, r.1)) r.2
  refine Ev.blk (is := [.iload_n 1]) (pc2 := 1) (L2 := [(2, v0), (0, v1), (0, v2), (9, 0)]) (S2 := [(0, v1)]) (h2 := h) (by decide +kernel) rfl trivial ?_
  obtain ⟨u1, hc, hx⟩ := bca hx
  refine Ev.call (args := [(0, v1)]) (S2 := []) (r1 := (some (0, u1))) (h1 := h) (i := .invokestatic 10) (by decide +kernel) rfl rfl (Nat.le_of_ble_eq_true rfl) (Or.inl rfl) (x_Arithmetic_isNumber (by omega) hc) ?_
  obtain ⟨ha, hb⟩ := bite hx
  clear hx
  refine Ev.br (i := .ifCond .eq 12) (len := 3) (a := 16) (b := 7) (by decide +kernel) rfl Iff.rfl (fun hc => ?_) (fun hc => ?_)
  · have hx := ha hc
    clear ha hb hc
    refine Ev.blk (is := [.iconst (-1)]) (pc2 := 17) (L2 := [(2, v0), (0, v1), (0, v2), (9, 0)]) (S2 := [(0, (-1))]) (h2 := h) (by decide +kernel) rfl trivial ?_
    cases hx
    exact Ev.ret (i := .ireturn) (len := 1) (by decide +kernel) rfl (finOf (t := some .int) rfl (trivial))
  · have hx := hb hc
    clear ha hb hc
    refine Ev.blk (is := [.iload_n 2]) (pc2 := 8) (L2 := [(2, v0), (0, v1), (0, v2), (9, 0)]) (S2 := [(0, v2)]) (h2 := h) (by decide +kernel) rfl trivial ?_
    obtain ⟨ha, hb⟩ := bite hx
    clear hx
    refine Ev.br (i := .ifCond .lt 8) (len := 3) (a := 16) (b := 11) (by decide +kernel) rfl Iff.rfl (fun hc => ?_) (fun hc => ?_)
    · have hx := ha hc
      clear ha hb hc
      refine Ev.blk (is := [.iconst (-1)]) (pc2 := 17) (L2 := [(2, v0), (0, v1), (0, v2), (9, 0)]) (S2 := [(0, (-1))]) (h2 := h) (by decide +kernel) rfl trivial ?_
      cases hx
      exact Ev.ret (i := .ireturn) (len := 1) (by decide +kernel) rfl (finOf (t := some .int) rfl (trivial))
    · have hx := hb hc
      clear ha hb hc
      refine Ev.blk (is := [.iload_n 2, .iconst 4]) (pc2 := 13) (L2 := [(2, v0), (0, v1), (0, v2), (9, 0)]) (S2 := [(0, 4), (0, v2)]) (h2 := h) (by decide +kernel) rfl trivial ?_
      obtain ⟨ha, hb⟩ := bite hx
      clear hx
      refine Ev.br (i := .if_icmp .le 5) (len := 3) (a := 16) (b := 18) (by decide +kernel) rfl Iff.rfl (fun hc => ?_) (fun hc => ?_)
      · have hx := ha hc
        clear ha hb hc
        refine Ev.blk (is := [.iconst (-1)]) (pc2 := 17) (L2 := [(2, v0), (0, v1), (0, v2), (9, 0)]) (S2 := [(0, (-1))]) (h2 := h) (by decide +kernel) rfl trivial ?_
        cases hx
        exact Ev.ret (i := .ireturn) (len := 1) (by decide +kernel) rfl (finOf (t := some .int) rfl (trivial))
      · have hx := hb hc
        clear ha hb hc
        obtain ⟨u2, hg, he, hx⟩ := bgd hx
        refine Ev.blk (is := [.aload_n 0, .getfield 8200]) (pc2 := 22) (L2 := [(2, v0), (0, v1), (0, v2), (9, 0)]) (S2 := [(2, u2)]) (h2 := h) (by decide +kernel) (by subst he; rfl) (by exact hg) ?_
        clear hg he
        refine Ev.blk (is := [.iload_n 1, .iload_n 2]) (pc2 := 24) (L2 := [(2, v0), (0, v1), (0, v2), (9, 0)]) (S2 := [(0, v2), (0, v1), (2, u2)]) (h2 := h) (by decide +kernel) rfl trivial ?_
        obtain ⟨_, hg, -, hx⟩ := bgd hx
        obtain ⟨u3, hc, hx⟩ := bca hx
        refine Ev.call (args := [(2, u2), (0, v1), (0, v2)]) (S2 := []) (r1 := (some (0, u3))) (h1 := h) (i := .invokevirtual 11) (by decide +kernel) rfl rfl (Nat.le_of_ble_eq_true rfl) (Or.inr (Or.inl ⟨rfl, hg, by decide +kernel⟩)) (x_Ledger_leastOfSort (by omega) hc) ?_
        refine Ev.blk (is := [.istore_n 3, .iload_n 3]) (pc2 := 29) (L2 := [(2, v0), (0, v1), (0, v2), (0, u3)]) (S2 := [(0, u3)]) (h2 := h) (by decide +kernel) rfl trivial ?_
        obtain ⟨ha, hb⟩ := bite hx
        clear hx
        refine Ev.br (i := .ifCond .lt 7) (len := 3) (a := 36) (b := 32) (by decide +kernel) rfl Iff.rfl (fun hc => ?_) (fun hc => ?_)
        · have hx := ha hc
          clear ha hb hc
          obtain ⟨u4, hg, he, hx⟩ := bgd hx
          refine Ev.blk (is := [.aload_n 0, .getfield 8201]) (pc2 := 40) (L2 := [(2, v0), (0, v1), (0, v2), (0, u3)]) (S2 := [(2, u4)]) (h2 := h) (by decide +kernel) (by subst he; rfl) (by exact hg) ?_
          clear hg he
          refine Ev.blk (is := [.iload_n 1, .iload_n 2]) (pc2 := 42) (L2 := [(2, v0), (0, v1), (0, v2), (0, u3)]) (S2 := [(0, v2), (0, v1), (2, u4)]) (h2 := h) (by decide +kernel) rfl trivial ?_
          obtain ⟨_, hg, -, hx⟩ := bgd hx
          obtain ⟨u5, hc, hx⟩ := bca hx
          refine Ev.call (args := [(2, u4), (0, v1), (0, v2)]) (S2 := []) (r1 := (some (0, u5.1))) (h1 := u5.2) (i := .invokevirtual 15) (by decide +kernel) rfl rfl (Nat.le_of_ble_eq_true rfl) (Or.inr (Or.inl ⟨rfl, hg, by decide +kernel⟩)) (x_Finder_bring (by omega) hc) ?_
          cases hx
          exact Ev.ret (i := .ireturn) (len := 1) (by decide +kernel) rfl (finOf (t := some .int) rfl (trivial))
        · have hx := hb hc
          clear ha hb hc
          refine Ev.blk (is := [.iload_n 3]) (pc2 := 33) (L2 := [(2, v0), (0, v1), (0, v2), (0, u3)]) (S2 := [(0, u3)]) (h2 := h) (by decide +kernel) rfl trivial ?_
          refine Ev.jp (i := .goto 12) (len := 3) (pc2 := 45) (by decide +kernel) rfl ?_
          cases hx
          exact Ev.ret (i := .ireturn) (len := 1) (by decide +kernel) rfl (finOf (t := some .int) rfl (trivial))
theorem x_Tape_hasRoomFor {sc : AS} {d : Nat} (hd : 1 ≤ d) {v0 : Int} {v1 : Int} {h : AH} {r : Int} (hx : Tape_hasRoomFor v0 v1 h = some r) : Runs sc d 63 [(2, v0), (0, v1)] h (some (0, r)) h := by
  obtain ⟨d, rfl⟩ : ∃ e, d = e + 1 := ⟨d - 1, by omega⟩
  have hd : 0 ≤ d := by omega
  unfold Tape_hasRoomFor at hx
  refine ⟨⟨aM_63, rfl, Nat.le_of_ble_eq_true rfl⟩, ?_⟩
  show Ev sc d 63 0 [(2, v0), (0, v1)] [] h (some (0, r)) h
  obtain ⟨u1, hg, he, hx⟩ := bgd hx
  refine Ev.blk (is := [.aload_n 0, .getfield 7001]) (pc2 := 4) (L2 := [(2, v0), (0, v1)]) (S2 := [(0, u1)]) (h2 := h) (by decide +kernel) (by subst he; rfl) (by exact hg) ?_
  clear hg he
  refine Ev.blk (is := [.iload_n 1, .iadd, .sipush 400]) (pc2 := 9) (L2 := [(2, v0), (0, v1)]) (S2 := [(0, 400), (0, w32 (u1 + v1))]) (h2 := h) (by decide +kernel) rfl trivial ?_
  obtain ⟨ha, hb⟩ := bite hx
  clear hx
  refine Ev.br (i := .if_icmp .gt 7) (len := 3) (a := 16) (b := 12) (by decide +kernel) rfl Iff.rfl (fun hc => ?_) (fun hc => ?_)
  · have hx := ha hc
    clear ha hb hc
    refine Ev.blk (is := [.iconst 0]) (pc2 := 17) (L2 := [(2, v0), (0, v1)]) (S2 := [(0, 0)]) (h2 := h) (by decide +kernel) rfl trivial ?_
    cases hx
    exact Ev.ret (i := .ireturn) (len := 1) (by decide +kernel) rfl (finOf (t := some .boolean) rfl (bz0))
  · have hx := hb hc
    clear ha hb hc
    refine Ev.blk (is := [.iconst 1]) (pc2 := 13) (L2 := [(2, v0), (0, v1)]) (S2 := [(0, 1)]) (h2 := h) (by decide +kernel) rfl trivial ?_
    refine Ev.jp (i := .goto 4) (len := 3) (pc2 := 17) (by decide +kernel) rfl ?_
    cases hx
    exact Ev.ret (i := .ireturn) (len := 1) (by decide +kernel) rfl (finOf (t := some .boolean) rfl (bz1))
theorem y_Tape_append_3 {sc : AS} {d : Nat} (hd : 0 ≤ d) : ∀ (fu : Nat) (v0 : Int) (v1 : Int) (v2 : Int) (h : AH) (r : AH), Tape_append_3 fu v0 v1 v2 h = some r → Ev sc d 64 3 [(2, v0), (0, v1), (0, v2)] [] h none r := by
  intro fu
  induction fu with
  | zero => intro v0 v1 v2 h r hx; unfold Tape_append_3 at hx; cases hx
  | succ fu ih =>
    intro v0 v1 v2 h r hx
    unfold Tape_append_3 at hx
    refine Ev.blk (is := [.iload_n 2]) (pc2 := 4) (L2 := [(2, v0), (0, v1), (0, v2)]) (S2 := [(0, v2)]) (h2 := h) (by decide +kernel) rfl trivial ?_
    obtain ⟨ha, hb⟩ := bite hx
    clear hx
    refine Ev.br (i := .ifCond .lt 46) (len := 3) (a := 50) (b := 7) (by decide +kernel) rfl Iff.rfl (fun hc => ?_) (fun hc => ?_)
    · have hx := ha hc
      clear ha hb hc
      cases hx
      exact Ev.ret (i := .return_) (len := 1) (by decide +kernel) rfl (finOf (t := none) rfl (trivial))
    · have hx := hb hc
      clear ha hb hc
      obtain ⟨u1, hg, he, hx⟩ := bgd hx
      refine Ev.blk (is := [.aload_n 0, .getfield 7001]) (pc2 := 11) (L2 := [(2, v0), (0, v1), (0, v2)]) (S2 := [(0, u1)]) (h2 := h) (by decide +kernel) (by subst he; rfl) (by exact hg) ?_
      clear hg he
      refine Ev.blk (is := [.sipush 400]) (pc2 := 14) (L2 := [(2, v0), (0, v1), (0, v2)]) (S2 := [(0, 400), (0, u1)]) (h2 := h) (by decide +kernel) rfl trivial ?_
      obtain ⟨ha, hb⟩ := bite hx
      clear hx
      refine Ev.br (i := .if_icmp .ge 36) (len := 3) (a := 17) (b := 50) (by decide +kernel) rfl Iff.rfl (fun hc => ?_) (fun hc => ?_)
      · have hx := ha hc
        clear ha hb hc
        obtain ⟨u2, hg, he, hx⟩ := bgd hx
        refine Ev.blk (is := [.aload_n 0, .getfield 7200]) (pc2 := 21) (L2 := [(2, v0), (0, v1), (0, v2)]) (S2 := [(2, u2)]) (h2 := h) (by decide +kernel) (by subst he; rfl) (by exact hg) ?_
        clear hg he
        obtain ⟨u3, hg, he, hx⟩ := bgd hx
        refine Ev.blk (is := [.aload_n 0, .getfield 7001]) (pc2 := 25) (L2 := [(2, v0), (0, v1), (0, v2)]) (S2 := [(0, u3), (2, u2)]) (h2 := h) (by decide +kernel) (by subst he; rfl) (by exact hg) ?_
        clear hg he
        obtain ⟨h4, hg, he, hx⟩ := bgd hx
        refine Ev.blk (is := [.iload_n 1, .iload_n 2, .iushr, .sipush 255, .iand, .i2c, .castore]) (pc2 := 34) (L2 := [(2, v0), (0, v1), (0, v2)]) (S2 := []) (h2 := h4) (by decide +kernel) (by subst he; rfl) (by exact hg) ?_
        clear hg he
        obtain ⟨u5, hg, he, hx⟩ := bgd hx
        refine Ev.blk (is := [.aload_n 0, .dup, .getfield 7001]) (pc2 := 39) (L2 := [(2, v0), (0, v1), (0, v2)]) (S2 := [(0, u5), (2, v0)]) (h2 := h4) (by decide +kernel) (by subst he; rfl) (by exact hg) ?_
        clear hg he
        obtain ⟨h6, hg, he, hx⟩ := bgd hx
        refine Ev.blk (is := [.iconst 1, .iadd, .putfield 7001]) (pc2 := 44) (L2 := [(2, v0), (0, v1), (0, v2)]) (S2 := []) (h2 := h6) (by decide +kernel) (by subst he; rfl) (by exact hg) ?_
        clear hg he
        refine Ev.blk (is := [.iinc 2 (-8)]) (pc2 := 47) (L2 := [(2, v0), (0, v1), (0, w32 (v2 + (-8)))]) (S2 := []) (h2 := h6) (by decide +kernel) rfl trivial ?_
        refine Ev.jp (i := .goto (-44)) (len := 3) (pc2 := 3) (by decide +kernel) rfl ?_
        exact ih v0 v1 (w32 (v2 + (-8))) h6 _ hx
      · have hx := hb hc
        clear ha hb hc
        cases hx
        exact Ev.ret (i := .return_) (len := 1) (by decide +kernel) rfl (finOf (t := none) rfl (trivial))
theorem x_Tape_append {sc : AS} {d : Nat} (hd : 1 ≤ d) {v0 : Int} {v1 : Int} {h : AH} {r : AH} (hx : Tape_append v0 v1 h = some r) : Runs sc d 64 [(2, v0), (0, v1)] h none r := by
  obtain ⟨d, rfl⟩ : ∃ e, d = e + 1 := ⟨d - 1, by omega⟩
  have hd : 0 ≤ d := by omega
  unfold Tape_append at hx
  refine ⟨⟨aM_64, rfl, Nat.le_of_ble_eq_true rfl⟩, ?_⟩
  show Ev sc d 64 0 [(2, v0), (0, v1), (9, 0)] [] h none r
  refine Ev.blk (is := [.sipush 24, .istore_n 2]) (pc2 := 3) (L2 := [(2, v0), (0, v1), (0, 24)]) (S2 := []) (h2 := h) (by decide +kernel) rfl trivial ?_
  exact y_Tape_append_3 hd FU v0 v1 24 h _ hx
theorem x_X_feed {sc : AS} {d : Nat} (hd : 2 ≤ d) {v0 : Int} {v1 : Int} {v2 : Int} {v3 : Int} {v4 : Int} {v5 : Int} {h : AH} {r : (Int × AH)} (hx : X_feed v0 v1 v2 v3 v4 v5 h = some r) : Runs sc d 62 [(2, v0), (0, v1), (0, v2), (0, v3), (0, v4), (0, v5)] h (some (0, r.1)) r.2 := by
  obtain ⟨d, rfl⟩ : ∃ e, d = e + 1 := ⟨d - 1, by omega⟩
  have hd : 1 ≤ d := by omega
  unfold X_feed at hx
  refine ⟨⟨aM_62, rfl, Nat.le_of_ble_eq_true rfl⟩, ?_⟩
  show Ev sc d 62 0 [(2, v0), (0, v1), (0, v2), (0, v3), (0, v4), (0, v5)] [] h (some (0, r.1)) r.2
  obtain ⟨u1, hg, he, hx⟩ := bgd hx
  refine Ev.blk (is := [.aload_n 0, .getfield 8202]) (pc2 := 4) (L2 := [(2, v0), (0, v1), (0, v2), (0, v3), (0, v4), (0, v5)]) (S2 := [(2, u1)]) (h2 := h) (by decide +kernel) (by subst he; rfl) (by exact hg) ?_
  clear hg he
  refine Ev.blk (is := [.sipush 20]) (pc2 := 6) (L2 := [(2, v0), (0, v1), (0, v2), (0, v3), (0, v4), (0, v5)]) (S2 := [(0, 20), (2, u1)]) (h2 := h) (by decide +kernel) rfl trivial ?_
  obtain ⟨_, hg, -, hx⟩ := bgd hx
  obtain ⟨u2, hc, hx⟩ := bca hx
  refine Ev.call (args := [(2, u1), (0, 20)]) (S2 := []) (r1 := (some (0, u2))) (h1 := h) (i := .invokevirtual 63) (by decide +kernel) rfl rfl (Nat.le_of_ble_eq_true rfl) (Or.inr (Or.inl ⟨rfl, hg, by decide +kernel⟩)) (x_Tape_hasRoomFor (by omega) hc) ?_
  obtain ⟨ha, hb⟩ := bite hx
  clear hx
  refine Ev.br (i := .ifCond .ne 5) (len := 3) (a := 12) (b := 14) (by decide +kernel) rfl Iff.rfl (fun hc => ?_) (fun hc => ?_)
  · have hx := ha hc
    clear ha hb hc
    refine Ev.blk (is := [.iconst (-1)]) (pc2 := 13) (L2 := [(2, v0), (0, v1), (0, v2), (0, v3), (0, v4), (0, v5)]) (S2 := [(0, (-1))]) (h2 := h) (by decide +kernel) rfl trivial ?_
    cases hx
    exact Ev.ret (i := .ireturn) (len := 1) (by decide +kernel) rfl (finOf (t := some .int) rfl (trivial))
  · have hx := hb hc
    clear ha hb hc
    obtain ⟨u3, hg, he, hx⟩ := bgd hx
    refine Ev.blk (is := [.aload_n 0, .getfield 8202]) (pc2 := 18) (L2 := [(2, v0), (0, v1), (0, v2), (0, v3), (0, v4), (0, v5)]) (S2 := [(2, u3)]) (h2 := h) (by decide +kernel) (by subst he; rfl) (by exact hg) ?_
    clear hg he
    refine Ev.blk (is := [.iload_n 1]) (pc2 := 19) (L2 := [(2, v0), (0, v1), (0, v2), (0, v3), (0, v4), (0, v5)]) (S2 := [(0, v1), (2, u3)]) (h2 := h) (by decide +kernel) rfl trivial ?_
    obtain ⟨_, hg, -, hx⟩ := bgd hx
    obtain ⟨h5, hc, hx⟩ := bca hx
    refine Ev.call (args := [(2, u3), (0, v1)]) (S2 := []) (r1 := none) (h1 := h5) (i := .invokevirtual 64) (by decide +kernel) rfl rfl (Nat.le_of_ble_eq_true rfl) (Or.inr (Or.inl ⟨rfl, hg, by decide +kernel⟩)) (x_Tape_append (by omega) hc) ?_
    obtain ⟨u6, hg, he, hx⟩ := bgd hx
    refine Ev.blk (is := [.aload_n 0, .getfield 8202]) (pc2 := 26) (L2 := [(2, v0), (0, v1), (0, v2), (0, v3), (0, v4), (0, v5)]) (S2 := [(2, u6)]) (h2 := h5) (by decide +kernel) (by subst he; rfl) (by exact hg) ?_
    clear hg he
    refine Ev.blk (is := [.iload_n 2]) (pc2 := 27) (L2 := [(2, v0), (0, v1), (0, v2), (0, v3), (0, v4), (0, v5)]) (S2 := [(0, v2), (2, u6)]) (h2 := h5) (by decide +kernel) rfl trivial ?_
    obtain ⟨_, hg, -, hx⟩ := bgd hx
    obtain ⟨h8, hc, hx⟩ := bca hx
    refine Ev.call (args := [(2, u6), (0, v2)]) (S2 := []) (r1 := none) (h1 := h8) (i := .invokevirtual 64) (by decide +kernel) rfl rfl (Nat.le_of_ble_eq_true rfl) (Or.inr (Or.inl ⟨rfl, hg, by decide +kernel⟩)) (x_Tape_append (by omega) hc) ?_
    obtain ⟨u9, hg, he, hx⟩ := bgd hx
    refine Ev.blk (is := [.aload_n 0, .getfield 8202]) (pc2 := 34) (L2 := [(2, v0), (0, v1), (0, v2), (0, v3), (0, v4), (0, v5)]) (S2 := [(2, u9)]) (h2 := h8) (by decide +kernel) (by subst he; rfl) (by exact hg) ?_
    clear hg he
    refine Ev.blk (is := [.iload_n 3]) (pc2 := 35) (L2 := [(2, v0), (0, v1), (0, v2), (0, v3), (0, v4), (0, v5)]) (S2 := [(0, v3), (2, u9)]) (h2 := h8) (by decide +kernel) rfl trivial ?_
    obtain ⟨_, hg, -, hx⟩ := bgd hx
    obtain ⟨h11, hc, hx⟩ := bca hx
    refine Ev.call (args := [(2, u9), (0, v3)]) (S2 := []) (r1 := none) (h1 := h11) (i := .invokevirtual 64) (by decide +kernel) rfl rfl (Nat.le_of_ble_eq_true rfl) (Or.inr (Or.inl ⟨rfl, hg, by decide +kernel⟩)) (x_Tape_append (by omega) hc) ?_
    obtain ⟨u12, hg, he, hx⟩ := bgd hx
    refine Ev.blk (is := [.aload_n 0, .getfield 8202]) (pc2 := 42) (L2 := [(2, v0), (0, v1), (0, v2), (0, v3), (0, v4), (0, v5)]) (S2 := [(2, u12)]) (h2 := h11) (by decide +kernel) (by subst he; rfl) (by exact hg) ?_
    clear hg he
    refine Ev.blk (is := [.iload 4]) (pc2 := 44) (L2 := [(2, v0), (0, v1), (0, v2), (0, v3), (0, v4), (0, v5)]) (S2 := [(0, v4), (2, u12)]) (h2 := h11) (by decide +kernel) rfl trivial ?_
    obtain ⟨_, hg, -, hx⟩ := bgd hx
    obtain ⟨h14, hc, hx⟩ := bca hx
    refine Ev.call (args := [(2, u12), (0, v4)]) (S2 := []) (r1 := none) (h1 := h14) (i := .invokevirtual 64) (by decide +kernel) rfl rfl (Nat.le_of_ble_eq_true rfl) (Or.inr (Or.inl ⟨rfl, hg, by decide +kernel⟩)) (x_Tape_append (by omega) hc) ?_
    obtain ⟨u15, hg, he, hx⟩ := bgd hx
    refine Ev.blk (is := [.aload_n 0, .getfield 8202]) (pc2 := 51) (L2 := [(2, v0), (0, v1), (0, v2), (0, v3), (0, v4), (0, v5)]) (S2 := [(2, u15)]) (h2 := h14) (by decide +kernel) (by subst he; rfl) (by exact hg) ?_
    clear hg he
    refine Ev.blk (is := [.iload 5]) (pc2 := 53) (L2 := [(2, v0), (0, v1), (0, v2), (0, v3), (0, v4), (0, v5)]) (S2 := [(0, v5), (2, u15)]) (h2 := h14) (by decide +kernel) rfl trivial ?_
    obtain ⟨_, hg, -, hx⟩ := bgd hx
    obtain ⟨h17, hc, hx⟩ := bca hx
    refine Ev.call (args := [(2, u15), (0, v5)]) (S2 := []) (r1 := none) (h1 := h17) (i := .invokevirtual 64) (by decide +kernel) rfl rfl (Nat.le_of_ble_eq_true rfl) (Or.inr (Or.inl ⟨rfl, hg, by decide +kernel⟩)) (x_Tape_append (by omega) hc) ?_
    obtain ⟨u18, hg, he, hx⟩ := bgd hx
    refine Ev.blk (is := [.aload_n 0, .getfield 8202]) (pc2 := 60) (L2 := [(2, v0), (0, v1), (0, v2), (0, v3), (0, v4), (0, v5)]) (S2 := [(2, u18)]) (h2 := h17) (by decide +kernel) (by subst he; rfl) (by exact hg) ?_
    clear hg he
    obtain ⟨u19, hg, he, hx⟩ := bgd hx
    refine Ev.blk (is := [.getfield 7001]) (pc2 := 63) (L2 := [(2, v0), (0, v1), (0, v2), (0, v3), (0, v4), (0, v5)]) (S2 := [(0, u19)]) (h2 := h17) (by decide +kernel) (by subst he; rfl) (by exact hg) ?_
    clear hg he
    cases hx
    exact Ev.ret (i := .ireturn) (len := 1) (by decide +kernel) rfl (finOf (t := some .int) rfl (trivial))
theorem x_X_back {sc : AS} {d : Nat} (hd : 1 ≤ d) {v0 : Int} {v1 : Int} {h : AH} {r : (Int × AH)} (hx : X_back v0 v1 h = some r) : Runs sc d 65 [(2, v0), (0, v1)] h (some (0, r.1)) r.2 := by
  obtain ⟨d, rfl⟩ : ∃ e, d = e + 1 := ⟨d - 1, by omega⟩
  have hd : 0 ≤ d := by omega
  unfold X_back at hx
  refine ⟨⟨aM_65, rfl, Nat.le_of_ble_eq_true rfl⟩, ?_⟩
  show Ev sc d 65 0 [(2, v0), (0, v1)] [] h (some (0, r.1)) r.2
  refine Ev.blk (is := [.iload_n 1]) (pc2 := 1) (L2 := [(2, v0), (0, v1)]) (S2 := [(0, v1)]) (h2 := h) (by decide +kernel) rfl trivial ?_
  obtain ⟨ha, hb⟩ := bite hx
  clear hx
  refine Ev.br (i := .ifCond .lt 14) (len := 3) (a := 15) (b := 4) (by decide +kernel) rfl Iff.rfl (fun hc => ?_) (fun hc => ?_)
  · have hx := ha hc
    clear ha hb hc
    refine Ev.blk (is := [.iconst (-1)]) (pc2 := 16) (L2 := [(2, v0), (0, v1)]) (S2 := [(0, (-1))]) (h2 := h) (by decide +kernel) rfl trivial ?_
    cases hx
    exact Ev.ret (i := .ireturn) (len := 1) (by decide +kernel) rfl (finOf (t := some .int) rfl (trivial))
  · have hx := hb hc
    clear ha hb hc
    obtain ⟨u1, hg, he, hx⟩ := bgd hx
    refine Ev.blk (is := [.iload_n 1, .aload_n 0, .getfield 8202]) (pc2 := 9) (L2 := [(2, v0), (0, v1)]) (S2 := [(2, u1), (0, v1)]) (h2 := h) (by decide +kernel) (by subst he; rfl) (by exact hg) ?_
    clear hg he
    obtain ⟨u2, hg, he, hx⟩ := bgd hx
    refine Ev.blk (is := [.getfield 7001]) (pc2 := 12) (L2 := [(2, v0), (0, v1)]) (S2 := [(0, u2), (0, v1)]) (h2 := h) (by decide +kernel) (by subst he; rfl) (by exact hg) ?_
    clear hg he
    obtain ⟨ha, hb⟩ := bite hx
    clear hx
    refine Ev.br (i := .if_icmp .le 5) (len := 3) (a := 15) (b := 17) (by decide +kernel) rfl Iff.rfl (fun hc => ?_) (fun hc => ?_)
    · have hx := ha hc
      clear ha hb hc
      refine Ev.blk (is := [.iconst (-1)]) (pc2 := 16) (L2 := [(2, v0), (0, v1)]) (S2 := [(0, (-1))]) (h2 := h) (by decide +kernel) rfl trivial ?_
      cases hx
      exact Ev.ret (i := .ireturn) (len := 1) (by decide +kernel) rfl (finOf (t := some .int) rfl (trivial))
    · have hx := hb hc
      clear ha hb hc
      obtain ⟨u3, hg, he, hx⟩ := bgd hx
      refine Ev.blk (is := [.aload_n 0, .getfield 8202]) (pc2 := 21) (L2 := [(2, v0), (0, v1)]) (S2 := [(2, u3)]) (h2 := h) (by decide +kernel) (by subst he; rfl) (by exact hg) ?_
      clear hg he
      obtain ⟨u4, hg, he, hx⟩ := bgd hx
      refine Ev.blk (is := [.dup, .getfield 7001]) (pc2 := 25) (L2 := [(2, v0), (0, v1)]) (S2 := [(0, u4), (2, u3)]) (h2 := h) (by decide +kernel) (by subst he; rfl) (by exact hg) ?_
      clear hg he
      obtain ⟨h5, hg, he, hx⟩ := bgd hx
      refine Ev.blk (is := [.iload_n 1, .isub, .putfield 7001]) (pc2 := 30) (L2 := [(2, v0), (0, v1)]) (S2 := []) (h2 := h5) (by decide +kernel) (by subst he; rfl) (by exact hg) ?_
      clear hg he
      obtain ⟨u6, hg, he, hx⟩ := bgd hx
      refine Ev.blk (is := [.aload_n 0, .getfield 8202]) (pc2 := 34) (L2 := [(2, v0), (0, v1)]) (S2 := [(2, u6)]) (h2 := h5) (by decide +kernel) (by subst he; rfl) (by exact hg) ?_
      clear hg he
      obtain ⟨u7, hg, he, hx⟩ := bgd hx
      refine Ev.blk (is := [.getfield 7001]) (pc2 := 37) (L2 := [(2, v0), (0, v1)]) (S2 := [(0, u7)]) (h2 := h5) (by decide +kernel) (by subst he; rfl) (by exact hg) ?_
      clear hg he
      cases hx
      exact Ev.ret (i := .ireturn) (len := 1) (by decide +kernel) rfl (finOf (t := some .int) rfl (trivial))
theorem x_Reader_kindOf {sc : AS} {d : Nat} (hd : 1 ≤ d) {v0 : Int} {h : AH} {r : Int} (hx : Reader_kindOf v0 = some r) : Runs sc d 69 [(0, v0)] h (some (0, r)) h := by
  obtain ⟨d, rfl⟩ : ∃ e, d = e + 1 := ⟨d - 1, by omega⟩
  have hd : 0 ≤ d := by omega
  unfold Reader_kindOf at hx
  refine ⟨⟨aM_69, rfl, Nat.le_of_ble_eq_true rfl⟩, ?_⟩
  show Ev sc d 69 0 [(0, v0)] [] h (some (0, r)) h
  refine Ev.blk (is := [.iload_n 0, .sipush 97]) (pc2 := 3) (L2 := [(0, v0)]) (S2 := [(0, 97), (0, v0)]) (h2 := h) (by decide +kernel) rfl trivial ?_
  obtain ⟨ha, hb⟩ := bite hx
  clear hx
  refine Ev.br (i := .if_icmp .lt 11) (len := 3) (a := 14) (b := 6) (by decide +kernel) rfl Iff.rfl (fun hc => ?_) (fun hc => ?_)
  · have hx := ha hc
    clear ha hb hc
    refine Ev.blk (is := [.iload_n 0, .sipush 48]) (pc2 := 17) (L2 := [(0, v0)]) (S2 := [(0, 48), (0, v0)]) (h2 := h) (by decide +kernel) rfl trivial ?_
    obtain ⟨ha, hb⟩ := bite hx
    clear hx
    refine Ev.br (i := .if_icmp .lt 13) (len := 3) (a := 30) (b := 20) (by decide +kernel) rfl Iff.rfl (fun hc => ?_) (fun hc => ?_)
    · have hx := ha hc
      clear ha hb hc
      refine Ev.blk (is := [.iconst 3]) (pc2 := 31) (L2 := [(0, v0)]) (S2 := [(0, 3)]) (h2 := h) (by decide +kernel) rfl trivial ?_
      cases hx
      exact Ev.ret (i := .ireturn) (len := 1) (by decide +kernel) rfl (finOf (t := some .int) rfl (trivial))
    · have hx := hb hc
      clear ha hb hc
      refine Ev.blk (is := [.iload_n 0, .sipush 57]) (pc2 := 23) (L2 := [(0, v0)]) (S2 := [(0, 57), (0, v0)]) (h2 := h) (by decide +kernel) rfl trivial ?_
      obtain ⟨ha, hb⟩ := bite hx
      clear hx
      refine Ev.br (i := .if_icmp .gt 7) (len := 3) (a := 30) (b := 26) (by decide +kernel) rfl Iff.rfl (fun hc => ?_) (fun hc => ?_)
      · have hx := ha hc
        clear ha hb hc
        refine Ev.blk (is := [.iconst 3]) (pc2 := 31) (L2 := [(0, v0)]) (S2 := [(0, 3)]) (h2 := h) (by decide +kernel) rfl trivial ?_
        cases hx
        exact Ev.ret (i := .ireturn) (len := 1) (by decide +kernel) rfl (finOf (t := some .int) rfl (trivial))
      · have hx := hb hc
        clear ha hb hc
        refine Ev.blk (is := [.iconst 2]) (pc2 := 27) (L2 := [(0, v0)]) (S2 := [(0, 2)]) (h2 := h) (by decide +kernel) rfl trivial ?_
        refine Ev.jp (i := .goto 4) (len := 3) (pc2 := 31) (by decide +kernel) rfl ?_
        cases hx
        exact Ev.ret (i := .ireturn) (len := 1) (by decide +kernel) rfl (finOf (t := some .int) rfl (trivial))
  · have hx := hb hc
    clear ha hb hc
    refine Ev.blk (is := [.iload_n 0, .sipush 122]) (pc2 := 9) (L2 := [(0, v0)]) (S2 := [(0, 122), (0, v0)]) (h2 := h) (by decide +kernel) rfl trivial ?_
    obtain ⟨ha, hb⟩ := bite hx
    clear hx
    refine Ev.br (i := .if_icmp .gt 5) (len := 3) (a := 14) (b := 12) (by decide +kernel) rfl Iff.rfl (fun hc => ?_) (fun hc => ?_)
    · have hx := ha hc
      clear ha hb hc
      refine Ev.blk (is := [.iload_n 0, .sipush 48]) (pc2 := 17) (L2 := [(0, v0)]) (S2 := [(0, 48), (0, v0)]) (h2 := h) (by decide +kernel) rfl trivial ?_
      obtain ⟨ha, hb⟩ := bite hx
      clear hx
      refine Ev.br (i := .if_icmp .lt 13) (len := 3) (a := 30) (b := 20) (by decide +kernel) rfl Iff.rfl (fun hc => ?_) (fun hc => ?_)
      · have hx := ha hc
        clear ha hb hc
        refine Ev.blk (is := [.iconst 3]) (pc2 := 31) (L2 := [(0, v0)]) (S2 := [(0, 3)]) (h2 := h) (by decide +kernel) rfl trivial ?_
        cases hx
        exact Ev.ret (i := .ireturn) (len := 1) (by decide +kernel) rfl (finOf (t := some .int) rfl (trivial))
      · have hx := hb hc
        clear ha hb hc
        refine Ev.blk (is := [.iload_n 0, .sipush 57]) (pc2 := 23) (L2 := [(0, v0)]) (S2 := [(0, 57), (0, v0)]) (h2 := h) (by decide +kernel) rfl trivial ?_
        obtain ⟨ha, hb⟩ := bite hx
        clear hx
        refine Ev.br (i := .if_icmp .gt 7) (len := 3) (a := 30) (b := 26) (by decide +kernel) rfl Iff.rfl (fun hc => ?_) (fun hc => ?_)
        · have hx := ha hc
          clear ha hb hc
          refine Ev.blk (is := [.iconst 3]) (pc2 := 31) (L2 := [(0, v0)]) (S2 := [(0, 3)]) (h2 := h) (by decide +kernel) rfl trivial ?_
          cases hx
          exact Ev.ret (i := .ireturn) (len := 1) (by decide +kernel) rfl (finOf (t := some .int) rfl (trivial))
        · have hx := hb hc
          clear ha hb hc
          refine Ev.blk (is := [.iconst 2]) (pc2 := 27) (L2 := [(0, v0)]) (S2 := [(0, 2)]) (h2 := h) (by decide +kernel) rfl trivial ?_
          refine Ev.jp (i := .goto 4) (len := 3) (pc2 := 31) (by decide +kernel) rfl ?_
          cases hx
          exact Ev.ret (i := .ireturn) (len := 1) (by decide +kernel) rfl (finOf (t := some .int) rfl (trivial))
    · have hx := hb hc
      clear ha hb hc
      refine Ev.blk (is := [.iconst 1]) (pc2 := 13) (L2 := [(0, v0)]) (S2 := [(0, 1)]) (h2 := h) (by decide +kernel) rfl trivial ?_
      cases hx
      exact Ev.ret (i := .ireturn) (len := 1) (by decide +kernel) rfl (finOf (t := some .int) rfl (trivial))
theorem y_Reader_advance_137 {sc : AS} {d : Nat} (hd : 1 ≤ d) : ∀ (fu : Nat) (v0 : Int) (v1 : Int) (v2 : Int) (h : AH) (r : AH), Reader_advance_137 fu v0 v1 v2 h = some r → Ev sc d 68 137 [(2, v0), (0, v1), (0, v2)] [] h none r := by
  intro fu
  induction fu with
  | zero => intro v0 v1 v2 h r hx; unfold Reader_advance_137 at hx; cases hx
  | succ fu ih =>
    intro v0 v1 v2 h r hx
    unfold Reader_advance_137 at hx
    obtain ⟨u1, hg, he, hx⟩ := bgd hx
    refine Ev.blk (is := [.aload_n 0, .getfield 4003]) (pc2 := 141) (L2 := [(2, v0), (0, v1), (0, v2)]) (S2 := [(0, u1)]) (h2 := h) (by decide +kernel) (by subst he; rfl) (by exact hg) ?_
    clear hg he
    refine Ev.blk (is := [.iconst 3]) (pc2 := 142) (L2 := [(2, v0), (0, v1), (0, v2)]) (S2 := [(0, 3), (0, u1)]) (h2 := h) (by decide +kernel) rfl trivial ?_
    obtain ⟨ha, hb⟩ := bite hx
    clear hx
    refine Ev.br (i := .if_icmp .eq 46) (len := 3) (a := 188) (b := 145) (by decide +kernel) rfl Iff.rfl (fun hc => ?_) (fun hc => ?_)
    · have hx := ha hc
      clear ha hb hc
      refine Ev.blk (is := [.iload_n 1]) (pc2 := 189) (L2 := [(2, v0), (0, v1), (0, v2)]) (S2 := [(0, v1)]) (h2 := h) (by decide +kernel) rfl trivial ?_
      obtain ⟨ha, hb⟩ := bite hx
      clear hx
      refine Ev.br (i := .ifCond .eq 8) (len := 3) (a := 197) (b := 192) (by decide +kernel) rfl Iff.rfl (fun hc => ?_) (fun hc => ?_)
      · have hx := ha hc
        clear ha hb hc
        cases hx
        exact Ev.ret (i := .return_) (len := 1) (by decide +kernel) rfl (finOf (t := none) rfl (trivial))
      · have hx := hb hc
        clear ha hb hc
        obtain ⟨h2, hg, he, hx⟩ := bgd hx
        refine Ev.blk (is := [.aload_n 0, .iconst 3, .putfield 4003]) (pc2 := 197) (L2 := [(2, v0), (0, v1), (0, v2)]) (S2 := []) (h2 := h2) (by decide +kernel) (by subst he; rfl) (by exact hg) ?_
        clear hg he
        cases hx
        exact Ev.ret (i := .return_) (len := 1) (by decide +kernel) rfl (finOf (t := none) rfl (trivial))
    · have hx := hb hc
      clear ha hb hc
      obtain ⟨u3, hg, he, hx⟩ := bgd hx
      refine Ev.blk (is := [.iload_n 2, .aload_n 0, .getfield 4200]) (pc2 := 150) (L2 := [(2, v0), (0, v1), (0, v2)]) (S2 := [(2, u3), (0, v2)]) (h2 := h) (by decide +kernel) (by subst he; rfl) (by exact hg) ?_
      clear hg he
      obtain ⟨u4, hg, he, hx⟩ := bgd hx
      refine Ev.blk (is := [.getfield 7001]) (pc2 := 153) (L2 := [(2, v0), (0, v1), (0, v2)]) (S2 := [(0, u4), (0, v2)]) (h2 := h) (by decide +kernel) (by subst he; rfl) (by exact hg) ?_
      clear hg he
      obtain ⟨ha, hb⟩ := bite hx
      clear hx
      refine Ev.br (i := .if_icmp .ge 35) (len := 3) (a := 156) (b := 188) (by decide +kernel) rfl Iff.rfl (fun hc => ?_) (fun hc => ?_)
      · have hx := ha hc
        clear ha hb hc
        obtain ⟨u5, hg, he, hx⟩ := bgd hx
        refine Ev.blk (is := [.aload_n 0, .getfield 4200]) (pc2 := 160) (L2 := [(2, v0), (0, v1), (0, v2)]) (S2 := [(2, u5)]) (h2 := h) (by decide +kernel) (by subst he; rfl) (by exact hg) ?_
        clear hg he
        obtain ⟨u6, hg, he, hx⟩ := bgd hx
        refine Ev.blk (is := [.getfield 7200]) (pc2 := 163) (L2 := [(2, v0), (0, v1), (0, v2)]) (S2 := [(2, u6)]) (h2 := h) (by decide +kernel) (by subst he; rfl) (by exact hg) ?_
        clear hg he
        obtain ⟨u7, hg, he, hx⟩ := bgd hx
        refine Ev.blk (is := [.iload_n 2, .caload]) (pc2 := 165) (L2 := [(2, v0), (0, v1), (0, v2)]) (S2 := [(0, u7)]) (h2 := h) (by decide +kernel) (by subst he; rfl) (by exact hg) ?_
        clear hg he
        obtain ⟨u8, hc, hx⟩ := bca hx
        refine Ev.call (args := [(0, u7)]) (S2 := []) (r1 := (some (0, u8))) (h1 := h) (i := .invokestatic 69) (by decide +kernel) rfl rfl (Nat.le_of_ble_eq_true rfl) (Or.inl rfl) (x_Reader_kindOf (by omega) hc) ?_
        obtain ⟨u9, hg, he, hx⟩ := bgd hx
        refine Ev.blk (is := [.aload_n 0, .getfield 4003]) (pc2 := 172) (L2 := [(2, v0), (0, v1), (0, v2)]) (S2 := [(0, u9), (0, u8)]) (h2 := h) (by decide +kernel) (by subst he; rfl) (by exact hg) ?_
        clear hg he
        obtain ⟨ha, hb⟩ := bite hx
        clear hx
        refine Ev.br (i := .if_icmp .ne 16) (len := 3) (a := 175) (b := 188) (by decide +kernel) rfl Iff.rfl (fun hc => ?_) (fun hc => ?_)
        · have hx := ha hc
          clear ha hb hc
          obtain ⟨h10, hg, he, hx⟩ := bgd hx
          refine Ev.blk (is := [.aload_n 0, .iload_n 2, .iconst 1, .iadd, .putfield 4005]) (pc2 := 182) (L2 := [(2, v0), (0, v1), (0, v2)]) (S2 := []) (h2 := h10) (by decide +kernel) (by subst he; rfl) (by exact hg) ?_
          clear hg he
          refine Ev.blk (is := [.iinc 2 1]) (pc2 := 185) (L2 := [(2, v0), (0, v1), (0, w32 (v2 + 1))]) (S2 := []) (h2 := h10) (by decide +kernel) rfl trivial ?_
          refine Ev.jp (i := .goto (-48)) (len := 3) (pc2 := 137) (by decide +kernel) rfl ?_
          exact ih v0 v1 (w32 (v2 + 1)) h10 _ hx
        · have hx := hb hc
          clear ha hb hc
          refine Ev.blk (is := [.iload_n 1]) (pc2 := 189) (L2 := [(2, v0), (0, v1), (0, v2)]) (S2 := [(0, v1)]) (h2 := h) (by decide +kernel) rfl trivial ?_
          obtain ⟨ha, hb⟩ := bite hx
          clear hx
          refine Ev.br (i := .ifCond .eq 8) (len := 3) (a := 197) (b := 192) (by decide +kernel) rfl Iff.rfl (fun hc => ?_) (fun hc => ?_)
          · have hx := ha hc
            clear ha hb hc
            cases hx
            exact Ev.ret (i := .return_) (len := 1) (by decide +kernel) rfl (finOf (t := none) rfl (trivial))
          · have hx := hb hc
            clear ha hb hc
            obtain ⟨h11, hg, he, hx⟩ := bgd hx
            refine Ev.blk (is := [.aload_n 0, .iconst 3, .putfield 4003]) (pc2 := 197) (L2 := [(2, v0), (0, v1), (0, v2)]) (S2 := []) (h2 := h11) (by decide +kernel) (by subst he; rfl) (by exact hg) ?_
            clear hg he
            cases hx
            exact Ev.ret (i := .return_) (len := 1) (by decide +kernel) rfl (finOf (t := none) rfl (trivial))
      · have hx := hb hc
        clear ha hb hc
        refine Ev.blk (is := [.iload_n 1]) (pc2 := 189) (L2 := [(2, v0), (0, v1), (0, v2)]) (S2 := [(0, v1)]) (h2 := h) (by decide +kernel) rfl trivial ?_
        obtain ⟨ha, hb⟩ := bite hx
        clear hx
        refine Ev.br (i := .ifCond .eq 8) (len := 3) (a := 197) (b := 192) (by decide +kernel) rfl Iff.rfl (fun hc => ?_) (fun hc => ?_)
        · have hx := ha hc
          clear ha hb hc
          cases hx
          exact Ev.ret (i := .return_) (len := 1) (by decide +kernel) rfl (finOf (t := none) rfl (trivial))
        · have hx := hb hc
          clear ha hb hc
          obtain ⟨h12, hg, he, hx⟩ := bgd hx
          refine Ev.blk (is := [.aload_n 0, .iconst 3, .putfield 4003]) (pc2 := 197) (L2 := [(2, v0), (0, v1), (0, v2)]) (S2 := []) (h2 := h12) (by decide +kernel) (by subst he; rfl) (by exact hg) ?_
          clear hg he
          cases hx
          exact Ev.ret (i := .return_) (len := 1) (by decide +kernel) rfl (finOf (t := none) rfl (trivial))
theorem y_Reader_advance_75 {sc : AS} {d : Nat} (hd : 1 ≤ d) : ∀ (v0 : Int) (v1 : Int) (h : AH) (r : AH), Reader_advance_75 v0 v1 h = some r → Ev sc d 68 75 [(2, v0), (0, v1), (9, 0)] [] h none r := by
  intro v0 v1 h r hx
  unfold Reader_advance_75 at hx
  obtain ⟨u1, hg, he, hx⟩ := bgd hx
  refine Ev.blk (is := [.aload_n 0, .aload_n 0, .getfield 4004]) (pc2 := 80) (L2 := [(2, v0), (0, v1), (9, 0)]) (S2 := [(0, u1), (2, v0)]) (h2 := h) (by decide +kernel) (by subst he; rfl) (by exact hg) ?_
  clear hg he
  obtain ⟨h2, hg, he, hx⟩ := bgd hx
  refine Ev.blk (is := [.putfield 4005]) (pc2 := 83) (L2 := [(2, v0), (0, v1), (9, 0)]) (S2 := []) (h2 := h2) (by decide +kernel) (by subst he; rfl) (by exact hg) ?_
  clear hg he
  obtain ⟨u3, hg, he, hx⟩ := bgd hx
  refine Ev.blk (is := [.aload_n 0, .getfield 4004]) (pc2 := 87) (L2 := [(2, v0), (0, v1), (9, 0)]) (S2 := [(0, u3)]) (h2 := h2) (by decide +kernel) (by subst he; rfl) (by exact hg) ?_
  clear hg he
  obtain ⟨u4, hg, he, hx⟩ := bgd hx
  refine Ev.blk (is := [.aload_n 0, .getfield 4200]) (pc2 := 91) (L2 := [(2, v0), (0, v1), (9, 0)]) (S2 := [(2, u4), (0, u3)]) (h2 := h2) (by decide +kernel) (by subst he; rfl) (by exact hg) ?_
  clear hg he
  obtain ⟨u5, hg, he, hx⟩ := bgd hx
  refine Ev.blk (is := [.getfield 7001]) (pc2 := 94) (L2 := [(2, v0), (0, v1), (9, 0)]) (S2 := [(0, u5), (0, u3)]) (h2 := h2) (by decide +kernel) (by subst he; rfl) (by exact hg) ?_
  clear hg he
  obtain ⟨ha, hb⟩ := bite hx
  clear hx
  refine Ev.br (i := .if_icmp .lt 9) (len := 3) (a := 103) (b := 97) (by decide +kernel) rfl Iff.rfl (fun hc => ?_) (fun hc => ?_)
  · have hx := ha hc
    clear ha hb hc
    obtain ⟨u6, hg, he, hx⟩ := bgd hx
    refine Ev.blk (is := [.aload_n 0, .aload_n 0, .getfield 4200]) (pc2 := 108) (L2 := [(2, v0), (0, v1), (9, 0)]) (S2 := [(2, u6), (2, v0)]) (h2 := h2) (by decide +kernel) (by subst he; rfl) (by exact hg) ?_
    clear hg he
    obtain ⟨u7, hg, he, hx⟩ := bgd hx
    refine Ev.blk (is := [.getfield 7200]) (pc2 := 111) (L2 := [(2, v0), (0, v1), (9, 0)]) (S2 := [(2, u7), (2, v0)]) (h2 := h2) (by decide +kernel) (by subst he; rfl) (by exact hg) ?_
    clear hg he
    obtain ⟨u8, hg, he, hx⟩ := bgd hx
    refine Ev.blk (is := [.aload_n 0, .getfield 4004]) (pc2 := 115) (L2 := [(2, v0), (0, v1), (9, 0)]) (S2 := [(0, u8), (2, u7), (2, v0)]) (h2 := h2) (by decide +kernel) (by subst he; rfl) (by exact hg) ?_
    clear hg he
    obtain ⟨u9, hg, he, hx⟩ := bgd hx
    refine Ev.blk (is := [.caload]) (pc2 := 116) (L2 := [(2, v0), (0, v1), (9, 0)]) (S2 := [(0, u9), (2, v0)]) (h2 := h2) (by decide +kernel) (by subst he; rfl) (by exact hg) ?_
    clear hg he
    obtain ⟨u10, hc, hx⟩ := bca hx
    refine Ev.call (args := [(0, u9)]) (S2 := [(2, v0)]) (r1 := (some (0, u10))) (h1 := h2) (i := .invokestatic 69) (by decide +kernel) rfl rfl (Nat.le_of_ble_eq_true rfl) (Or.inl rfl) (x_Reader_kindOf (by omega) hc) ?_
    obtain ⟨h11, hg, he, hx⟩ := bgd hx
    refine Ev.blk (is := [.putfield 4003]) (pc2 := 122) (L2 := [(2, v0), (0, v1), (9, 0)]) (S2 := []) (h2 := h11) (by decide +kernel) (by subst he; rfl) (by exact hg) ?_
    clear hg he
    obtain ⟨u12, hg, he, hx⟩ := bgd hx
    refine Ev.blk (is := [.aload_n 0, .aload_n 0, .getfield 4004]) (pc2 := 127) (L2 := [(2, v0), (0, v1), (9, 0)]) (S2 := [(0, u12), (2, v0)]) (h2 := h11) (by decide +kernel) (by subst he; rfl) (by exact hg) ?_
    clear hg he
    obtain ⟨h13, hg, he, hx⟩ := bgd hx
    refine Ev.blk (is := [.iconst 1, .iadd, .putfield 4005]) (pc2 := 132) (L2 := [(2, v0), (0, v1), (9, 0)]) (S2 := []) (h2 := h13) (by decide +kernel) (by subst he; rfl) (by exact hg) ?_
    clear hg he
    obtain ⟨u14, hg, he, hx⟩ := bgd hx
    refine Ev.blk (is := [.aload_n 0, .getfield 4005]) (pc2 := 136) (L2 := [(2, v0), (0, v1), (9, 0)]) (S2 := [(0, u14)]) (h2 := h13) (by decide +kernel) (by subst he; rfl) (by exact hg) ?_
    clear hg he
    refine Ev.blk (is := [.istore_n 2]) (pc2 := 137) (L2 := [(2, v0), (0, v1), (0, u14)]) (S2 := []) (h2 := h13) (by decide +kernel) rfl trivial ?_
    exact y_Reader_advance_137 hd FU v0 v1 u14 h13 _ hx
  · have hx := hb hc
    clear ha hb hc
    obtain ⟨h15, hg, he, hx⟩ := bgd hx
    refine Ev.blk (is := [.aload_n 0, .iconst 0, .putfield 4003]) (pc2 := 102) (L2 := [(2, v0), (0, v1), (9, 0)]) (S2 := []) (h2 := h15) (by decide +kernel) (by subst he; rfl) (by exact hg) ?_
    clear hg he
    cases hx
    exact Ev.ret (i := .return_) (len := 1) (by decide +kernel) rfl (finOf (t := none) rfl (trivial))
theorem y_Reader_advance_35 {sc : AS} {d : Nat} (hd : 1 ≤ d) : ∀ (fu : Nat) (v0 : Int) (v1 : Int) (v2 : Int) (h : AH) (r : AH), Reader_advance_35 fu v0 v1 v2 h = some r → Ev sc d 68 35 [(2, v0), (0, v1), (0, v2)] [] h none r := by
  intro fu
  induction fu with
  | zero => intro v0 v1 v2 h r hx; unfold Reader_advance_35 at hx; cases hx
  | succ fu ih =>
    intro v0 v1 v2 h r hx
    unfold Reader_advance_35 at hx
    obtain ⟨u1, hg, he, hx⟩ := bgd hx
    refine Ev.blk (is := [.iload_n 2, .aload_n 0, .getfield 4200]) (pc2 := 40) (L2 := [(2, v0), (0, v1), (0, v2)]) (S2 := [(2, u1), (0, v2)]) (h2 := h) (by decide +kernel) (by subst he; rfl) (by exact hg) ?_
    clear hg he
    obtain ⟨u2, hg, he, hx⟩ := bgd hx
    refine Ev.blk (is := [.getfield 7001]) (pc2 := 43) (L2 := [(2, v0), (0, v1), (0, v2)]) (S2 := [(0, u2), (0, v2)]) (h2 := h) (by decide +kernel) (by subst he; rfl) (by exact hg) ?_
    clear hg he
    obtain ⟨ha, hb⟩ := bite hx
    clear hx
    refine Ev.br (i := .if_icmp .ge 32) (len := 3) (a := 46) (b := 75) (by decide +kernel) rfl Iff.rfl (fun hc => ?_) (fun hc => ?_)
    · have hx := ha hc
      clear ha hb hc
      obtain ⟨u3, hg, he, hx⟩ := bgd hx
      refine Ev.blk (is := [.aload_n 0, .getfield 4200]) (pc2 := 50) (L2 := [(2, v0), (0, v1), (0, v2)]) (S2 := [(2, u3)]) (h2 := h) (by decide +kernel) (by subst he; rfl) (by exact hg) ?_
      clear hg he
      obtain ⟨u4, hg, he, hx⟩ := bgd hx
      refine Ev.blk (is := [.getfield 7200]) (pc2 := 53) (L2 := [(2, v0), (0, v1), (0, v2)]) (S2 := [(2, u4)]) (h2 := h) (by decide +kernel) (by subst he; rfl) (by exact hg) ?_
      clear hg he
      obtain ⟨u5, hg, he, hx⟩ := bgd hx
      refine Ev.blk (is := [.iload_n 2, .caload]) (pc2 := 55) (L2 := [(2, v0), (0, v1), (0, v2)]) (S2 := [(0, u5)]) (h2 := h) (by decide +kernel) (by subst he; rfl) (by exact hg) ?_
      clear hg he
      refine Ev.blk (is := [.sipush 32]) (pc2 := 57) (L2 := [(2, v0), (0, v1), (0, v2)]) (S2 := [(0, 32), (0, u5)]) (h2 := h) (by decide +kernel) rfl trivial ?_
      obtain ⟨ha, hb⟩ := bite hx
      clear hx
      refine Ev.br (i := .if_icmp .ne 18) (len := 3) (a := 60) (b := 75) (by decide +kernel) rfl Iff.rfl (fun hc => ?_) (fun hc => ?_)
      · have hx := ha hc
        clear ha hb hc
        obtain ⟨h6, hg, he, hx⟩ := bgd hx
        refine Ev.blk (is := [.aload_n 0, .iload_n 2, .iconst 1, .iadd, .putfield 4004]) (pc2 := 67) (L2 := [(2, v0), (0, v1), (0, v2)]) (S2 := []) (h2 := h6) (by decide +kernel) (by subst he; rfl) (by exact hg) ?_
        clear hg he
        refine Ev.blk (is := [.iconst 0, .istore_n 1, .iinc 2 1]) (pc2 := 72) (L2 := [(2, v0), (0, 0), (0, w32 (v2 + 1))]) (S2 := []) (h2 := h6) (by decide +kernel) rfl trivial ?_
        refine Ev.jp (i := .goto (-37)) (len := 3) (pc2 := 35) (by decide +kernel) rfl ?_
        exact ih v0 0 (w32 (v2 + 1)) h6 _ hx
      · have hx := hb hc
        clear ha hb hc
        refine Ev.wk (L2 := [(2, v0), (0, v1), (9, 0)]) (wkL_of ⟨Or.inl rfl, ⟨Or.inl rfl, ⟨Or.inr rfl, trivial⟩⟩⟩) ?_
        exact y_Reader_advance_75 hd v0 v1 h _ hx
    · have hx := hb hc
      clear ha hb hc
      refine Ev.wk (L2 := [(2, v0), (0, v1), (9, 0)]) (wkL_of ⟨Or.inl rfl, ⟨Or.inl rfl, ⟨Or.inr rfl, trivial⟩⟩⟩) ?_
      exact y_Reader_advance_75 hd v0 v1 h _ hx
theorem x_Reader_advance {sc : AS} {d : Nat} (hd : 2 ≤ d) {v0 : Int} {h : AH} {r : AH} (hx : Reader_advance v0 h = some r) : Runs sc d 68 [(2, v0)] h none r := by
  obtain ⟨d, rfl⟩ : ∃ e, d = e + 1 := ⟨d - 1, by omega⟩
  have hd : 1 ≤ d := by omega
  unfold Reader_advance at hx
  refine ⟨⟨aM_68, rfl, Nat.le_of_ble_eq_true rfl⟩, ?_⟩
  show Ev sc d 68 0 [(2, v0), (9, 0), (9, 0)] [] h none r
  obtain ⟨u1, hg, he, hx⟩ := bgd hx
  refine Ev.blk (is := [.aload_n 0, .getfield 4003]) (pc2 := 4) (L2 := [(2, v0), (9, 0), (9, 0)]) (S2 := [(0, u1)]) (h2 := h) (by decide +kernel) (by subst he; rfl) (by exact hg) ?_
  clear hg he
  refine Ev.blk (is := [.iconst 1]) (pc2 := 5) (L2 := [(2, v0), (9, 0), (9, 0)]) (S2 := [(0, 1), (0, u1)]) (h2 := h) (by decide +kernel) rfl trivial ?_
  obtain ⟨ha, hb⟩ := bite hx
  clear hx
  refine Ev.br (i := .if_icmp .eq 11) (len := 3) (a := 16) (b := 8) (by decide +kernel) rfl Iff.rfl (fun hc => ?_) (fun hc => ?_)
  · have hx := ha hc
    clear ha hb hc
    refine Ev.blk (is := [.iconst 1]) (pc2 := 17) (L2 := [(2, v0), (9, 0), (9, 0)]) (S2 := [(0, 1)]) (h2 := h) (by decide +kernel) rfl trivial ?_
    refine Ev.jp (i := .goto 4) (len := 3) (pc2 := 21) (by decide +kernel) rfl ?_
    obtain ⟨u2, hg, he, hx⟩ := bgd hx
    refine Ev.blk (is := [.istore_n 1, .aload_n 0, .aload_n 0, .getfield 4005]) (pc2 := 27) (L2 := [(2, v0), (0, 1), (9, 0)]) (S2 := [(0, u2), (2, v0)]) (h2 := h) (by decide +kernel) (by subst he; rfl) (by exact hg) ?_
    clear hg he
    obtain ⟨h3, hg, he, hx⟩ := bgd hx
    refine Ev.blk (is := [.putfield 4004]) (pc2 := 30) (L2 := [(2, v0), (0, 1), (9, 0)]) (S2 := []) (h2 := h3) (by decide +kernel) (by subst he; rfl) (by exact hg) ?_
    clear hg he
    obtain ⟨u4, hg, he, hx⟩ := bgd hx
    refine Ev.blk (is := [.aload_n 0, .getfield 4005]) (pc2 := 34) (L2 := [(2, v0), (0, 1), (9, 0)]) (S2 := [(0, u4)]) (h2 := h3) (by decide +kernel) (by subst he; rfl) (by exact hg) ?_
    clear hg he
    refine Ev.blk (is := [.istore_n 2]) (pc2 := 35) (L2 := [(2, v0), (0, 1), (0, u4)]) (S2 := []) (h2 := h3) (by decide +kernel) rfl trivial ?_
    exact y_Reader_advance_35 hd FU v0 1 u4 h3 _ hx
  · have hx := hb hc
    clear ha hb hc
    obtain ⟨u5, hg, he, hx⟩ := bgd hx
    refine Ev.blk (is := [.aload_n 0, .getfield 4003]) (pc2 := 12) (L2 := [(2, v0), (9, 0), (9, 0)]) (S2 := [(0, u5)]) (h2 := h) (by decide +kernel) (by subst he; rfl) (by exact hg) ?_
    clear hg he
    refine Ev.blk (is := [.iconst 2]) (pc2 := 13) (L2 := [(2, v0), (9, 0), (9, 0)]) (S2 := [(0, 2), (0, u5)]) (h2 := h) (by decide +kernel) rfl trivial ?_
    obtain ⟨ha, hb⟩ := bite hx
    clear hx
    refine Ev.br (i := .if_icmp .ne 7) (len := 3) (a := 16) (b := 20) (by decide +kernel) rfl Iff.rfl (fun hc => ?_) (fun hc => ?_)
    · have hx := ha hc
      clear ha hb hc
      refine Ev.blk (is := [.iconst 1]) (pc2 := 17) (L2 := [(2, v0), (9, 0), (9, 0)]) (S2 := [(0, 1)]) (h2 := h) (by decide +kernel) rfl trivial ?_
      refine Ev.jp (i := .goto 4) (len := 3) (pc2 := 21) (by decide +kernel) rfl ?_
      obtain ⟨u6, hg, he, hx⟩ := bgd hx
      refine Ev.blk (is := [.istore_n 1, .aload_n 0, .aload_n 0, .getfield 4005]) (pc2 := 27) (L2 := [(2, v0), (0, 1), (9, 0)]) (S2 := [(0, u6), (2, v0)]) (h2 := h) (by decide +kernel) (by subst he; rfl) (by exact hg) ?_
      clear hg he
      obtain ⟨h7, hg, he, hx⟩ := bgd hx
      refine Ev.blk (is := [.putfield 4004]) (pc2 := 30) (L2 := [(2, v0), (0, 1), (9, 0)]) (S2 := []) (h2 := h7) (by decide +kernel) (by subst he; rfl) (by exact hg) ?_
      clear hg he
      obtain ⟨u8, hg, he, hx⟩ := bgd hx
      refine Ev.blk (is := [.aload_n 0, .getfield 4005]) (pc2 := 34) (L2 := [(2, v0), (0, 1), (9, 0)]) (S2 := [(0, u8)]) (h2 := h7) (by decide +kernel) (by subst he; rfl) (by exact hg) ?_
      clear hg he
      refine Ev.blk (is := [.istore_n 2]) (pc2 := 35) (L2 := [(2, v0), (0, 1), (0, u8)]) (S2 := []) (h2 := h7) (by decide +kernel) rfl trivial ?_
      exact y_Reader_advance_35 hd FU v0 1 u8 h7 _ hx
    · have hx := hb hc
      clear ha hb hc
      obtain ⟨u9, hg, he, hx⟩ := bgd hx
      refine Ev.blk (is := [.iconst 0, .istore_n 1, .aload_n 0, .aload_n 0, .getfield 4005]) (pc2 := 27) (L2 := [(2, v0), (0, 0), (9, 0)]) (S2 := [(0, u9), (2, v0)]) (h2 := h) (by decide +kernel) (by subst he; rfl) (by exact hg) ?_
      clear hg he
      obtain ⟨h10, hg, he, hx⟩ := bgd hx
      refine Ev.blk (is := [.putfield 4004]) (pc2 := 30) (L2 := [(2, v0), (0, 0), (9, 0)]) (S2 := []) (h2 := h10) (by decide +kernel) (by subst he; rfl) (by exact hg) ?_
      clear hg he
      obtain ⟨u11, hg, he, hx⟩ := bgd hx
      refine Ev.blk (is := [.aload_n 0, .getfield 4005]) (pc2 := 34) (L2 := [(2, v0), (0, 0), (9, 0)]) (S2 := [(0, u11)]) (h2 := h10) (by decide +kernel) (by subst he; rfl) (by exact hg) ?_
      clear hg he
      refine Ev.blk (is := [.istore_n 2]) (pc2 := 35) (L2 := [(2, v0), (0, 0), (0, u11)]) (S2 := []) (h2 := h10) (by decide +kernel) rfl trivial ?_
      exact y_Reader_advance_35 hd FU v0 0 u11 h10 _ hx
theorem x_Speller_nameOf {sc : AS} {d : Nat} (hd : 1 ≤ d) {v0 : Int} {h : AH} {r : Int} (hx : Speller_nameOf v0 = some r) : Runs sc d 72 [(0, v0)] h (some (3, r)) h := by
  obtain ⟨d, rfl⟩ : ∃ e, d = e + 1 := ⟨d - 1, by omega⟩
  have hd : 0 ≤ d := by omega
  unfold Speller_nameOf at hx
  refine ⟨⟨aM_72, rfl, Nat.le_of_ble_eq_true rfl⟩, ?_⟩
  show Ev sc d 72 0 [(0, v0)] [] h (some (3, r)) h
  refine Ev.blk (is := [.iload_n 0]) (pc2 := 1) (L2 := [(0, v0)]) (S2 := [(0, v0)]) (h2 := h) (by decide +kernel) rfl trivial ?_
  obtain ⟨ha, hb⟩ := bite hx
  clear hx
  by_cases hc0 : v0 = 1
  · have hx := ha hc0
    clear ha hb
    refine Ev.jp (i := .tableswitch 43 1 4 #[31, 34, 37, 40]) (len := 31) (pc2 := 32) (by decide +kernel) (by rw [hc0]; rfl) ?_
    clear hc0
    refine Ev.blk (is := [.ldc 0]) (pc2 := 34) (L2 := [(0, v0)]) (S2 := [(3, 0)]) (h2 := h) (by decide +kernel) rfl trivial ?_
    cases hx
    exact Ev.ret (i := .areturn) (len := 1) (by decide +kernel) rfl (finOf (t := some (.object "java/lang/String")) rfl (trivial))
  have hx := hb hc0
  clear ha hb
  obtain ⟨ha, hb⟩ := bite hx
  clear hx
  by_cases hc1 : v0 = 2
  · have hx := ha hc1
    clear ha hb
    refine Ev.jp (i := .tableswitch 43 1 4 #[31, 34, 37, 40]) (len := 31) (pc2 := 35) (by decide +kernel) (by rw [hc1]; rfl) ?_
    clear hc1
    refine Ev.blk (is := [.ldc 1]) (pc2 := 37) (L2 := [(0, v0)]) (S2 := [(3, 1)]) (h2 := h) (by decide +kernel) rfl trivial ?_
    cases hx
    exact Ev.ret (i := .areturn) (len := 1) (by decide +kernel) rfl (finOf (t := some (.object "java/lang/String")) rfl (trivial))
  have hx := hb hc1
  clear ha hb
  obtain ⟨ha, hb⟩ := bite hx
  clear hx
  by_cases hc2 : v0 = 3
  · have hx := ha hc2
    clear ha hb
    refine Ev.jp (i := .tableswitch 43 1 4 #[31, 34, 37, 40]) (len := 31) (pc2 := 38) (by decide +kernel) (by rw [hc2]; rfl) ?_
    clear hc2
    refine Ev.blk (is := [.ldc 2]) (pc2 := 40) (L2 := [(0, v0)]) (S2 := [(3, 2)]) (h2 := h) (by decide +kernel) rfl trivial ?_
    cases hx
    exact Ev.ret (i := .areturn) (len := 1) (by decide +kernel) rfl (finOf (t := some (.object "java/lang/String")) rfl (trivial))
  have hx := hb hc2
  clear ha hb
  obtain ⟨ha, hb⟩ := bite hx
  clear hx
  by_cases hc3 : v0 = 4
  · have hx := ha hc3
    clear ha hb
    refine Ev.jp (i := .tableswitch 43 1 4 #[31, 34, 37, 40]) (len := 31) (pc2 := 41) (by decide +kernel) (by rw [hc3]; rfl) ?_
    clear hc3
    refine Ev.blk (is := [.ldc 3]) (pc2 := 43) (L2 := [(0, v0)]) (S2 := [(3, 3)]) (h2 := h) (by decide +kernel) rfl trivial ?_
    cases hx
    exact Ev.ret (i := .areturn) (len := 1) (by decide +kernel) rfl (finOf (t := some (.object "java/lang/String")) rfl (trivial))
  have hx := hb hc3
  clear ha hb
  refine Ev.jp (i := .tableswitch 43 1 4 #[31, 34, 37, 40]) (len := 31) (pc2 := 44) (by decide +kernel) (jsw (by omega)) ?_
  clear hc0 hc1 hc2 hc3
  refine Ev.blk (is := [.ldc 4]) (pc2 := 46) (L2 := [(0, v0)]) (S2 := [(3, 4)]) (h2 := h) (by decide +kernel) rfl trivial ?_
  cases hx
  exact Ev.ret (i := .areturn) (len := 1) (by decide +kernel) rfl (finOf (t := some (.object "java/lang/String")) rfl (trivial))
theorem x_Str_coder {sc : AS} {d : Nat} (hd : 1 ≤ d) {v0 : Int} {h : AH} {r : Int} (hx : Str_coder v0 = some r) : Runs sc d 75 [(3, v0)] h (some (0, r)) h := by
  obtain ⟨d, rfl⟩ : ∃ e, d = e + 1 := ⟨d - 1, by omega⟩
  have hd : 0 ≤ d := by omega
  unfold Str_coder at hx
  refine ⟨⟨aM_75, rfl, Nat.le_of_ble_eq_true rfl⟩, ?_⟩
  show Ev sc d 75 0 [(3, v0)] [] h (some (0, r)) h
  refine Ev.blk (is := [.getstatic 1]) (pc2 := 3) (L2 := [(3, v0)]) (S2 := [(0, 1)]) (h2 := h) (by decide +kernel) rfl trivial ?_
  obtain ⟨ha, hb⟩ := bite hx
  clear hx
  refine Ev.br (i := .ifCond .eq 10) (len := 3) (a := 13) (b := 6) (by decide +kernel) rfl Iff.rfl (fun hc => ?_) (fun hc => ?_)
  · have hx := ha hc
    clear ha hb hc
    obtain ⟨_, hg, -, hx⟩ := bgd hx
    refine Ev.blk (is := [.iconst 1]) (pc2 := 14) (L2 := [(3, v0)]) (S2 := [(0, 1)]) (h2 := h) (by decide +kernel) rfl trivial ?_
    cases hx
    exact Ev.ret (i := .ireturn) (len := 1) (by decide +kernel) rfl (finOf (t := some .byte) rfl (hg))
  · have hx := hb hc
    clear ha hb hc
    refine Ev.blk (is := [.aload_n 0, .instanceof 0]) (pc2 := 10) (L2 := [(3, v0)]) (S2 := [(0, 0)]) (h2 := h) (by decide +kernel) rfl trivial ?_
    refine Ev.jp (i := .goto 4) (len := 3) (pc2 := 14) (by decide +kernel) rfl ?_
    obtain ⟨_, hg, -, hx⟩ := bgd hx
    cases hx
    exact Ev.ret (i := .ireturn) (len := 1) (by decide +kernel) rfl (finOf (t := some .byte) rfl (hg))
theorem x_Str_length {sc : AS} {d : Nat} (hd : 2 ≤ d) {v0 : Int} {h : AH} {r : Int} (hx : Str_length v0 = some r) : Runs sc d 74 [(3, v0)] h (some (0, r)) h := by
  obtain ⟨d, rfl⟩ : ∃ e, d = e + 1 := ⟨d - 1, by omega⟩
  have hd : 1 ≤ d := by omega
  unfold Str_length at hx
  refine ⟨⟨aM_74, rfl, Nat.le_of_ble_eq_true rfl⟩, ?_⟩
  show Ev sc d 74 0 [(3, v0)] [] h (some (0, r)) h
  refine Ev.blk (is := [.aload_n 0, .checkcast 0, .arraylength, .aload_n 0]) (pc2 := 6) (L2 := [(3, v0)]) (S2 := [(3, v0), (0, stLn v0)]) (h2 := h) (by decide +kernel) rfl trivial ?_
  obtain ⟨_, hg, -, hx⟩ := bgd hx
  obtain ⟨u1, hc, hx⟩ := bca hx
  refine Ev.call (args := [(3, v0)]) (S2 := [(0, stLn v0)]) (r1 := (some (0, u1))) (h1 := h) (i := .invokevirtual 75) (by decide +kernel) rfl rfl (Nat.le_of_ble_eq_true rfl) (Or.inr (Or.inl ⟨rfl, hg.1, hg.2, by decide +kernel⟩)) (x_Str_coder (by omega) hc) ?_
  refine Ev.blk (is := [.ishr]) (pc2 := 10) (L2 := [(3, v0)]) (S2 := [(0, shrI (stLn v0) u1)]) (h2 := h) (by decide +kernel) rfl trivial ?_
  cases hx
  exact Ev.ret (i := .ireturn) (len := 1) (by decide +kernel) rfl (finOf (t := some .int) rfl (trivial))
theorem x_Str_isLatin1 {sc : AS} {d : Nat} (hd : 1 ≤ d) {v0 : Int} {h : AH} {r : Int} (hx : Str_isLatin1 v0 = some r) : Runs sc d 77 [(3, v0)] h (some (0, r)) h := by
  obtain ⟨d, rfl⟩ : ∃ e, d = e + 1 := ⟨d - 1, by omega⟩
  have hd : 0 ≤ d := by omega
  unfold Str_isLatin1 at hx
  refine ⟨⟨aM_77, rfl, Nat.le_of_ble_eq_true rfl⟩, ?_⟩
  show Ev sc d 77 0 [(3, v0)] [] h (some (0, r)) h
  refine Ev.blk (is := [.getstatic 1]) (pc2 := 3) (L2 := [(3, v0)]) (S2 := [(0, 1)]) (h2 := h) (by decide +kernel) rfl trivial ?_
  obtain ⟨ha, hb⟩ := bite hx
  clear hx
  refine Ev.br (i := .ifCond .eq 14) (len := 3) (a := 17) (b := 6) (by decide +kernel) rfl Iff.rfl (fun hc => ?_) (fun hc => ?_)
  · have hx := ha hc
    clear ha hb hc
    refine Ev.blk (is := [.iconst 0]) (pc2 := 18) (L2 := [(3, v0)]) (S2 := [(0, 0)]) (h2 := h) (by decide +kernel) rfl trivial ?_
    cases hx
    exact Ev.ret (i := .ireturn) (len := 1) (by decide +kernel) rfl (finOf (t := some .boolean) rfl (bz0))
  · have hx := hb hc
    clear ha hb hc
    refine Ev.blk (is := [.aload_n 0, .instanceof 0]) (pc2 := 10) (L2 := [(3, v0)]) (S2 := [(0, 0)]) (h2 := h) (by decide +kernel) rfl trivial ?_
    obtain ⟨ha, hb⟩ := bite hx
    clear hx
    refine Ev.br (i := .ifCond .ne 7) (len := 3) (a := 13) (b := 17) (by decide +kernel) rfl Iff.rfl (fun hc => ?_) (fun hc => ?_)
    · have hx := ha hc
      clear ha hb hc
      refine Ev.blk (is := [.iconst 1]) (pc2 := 14) (L2 := [(3, v0)]) (S2 := [(0, 1)]) (h2 := h) (by decide +kernel) rfl trivial ?_
      refine Ev.jp (i := .goto 4) (len := 3) (pc2 := 18) (by decide +kernel) rfl ?_
      cases hx
      exact Ev.ret (i := .ireturn) (len := 1) (by decide +kernel) rfl (finOf (t := some .boolean) rfl (bz1))
    · have hx := hb hc
      clear ha hb hc
      refine Ev.blk (is := [.iconst 0]) (pc2 := 18) (L2 := [(3, v0)]) (S2 := [(0, 0)]) (h2 := h) (by decide +kernel) rfl trivial ?_
      cases hx
      exact Ev.ret (i := .ireturn) (len := 1) (by decide +kernel) rfl (finOf (t := some .boolean) rfl (bz0))
theorem y_Precond_checkIndex_9 {sc : AS} {d : Nat} (hd : 0 ≤ d) : ∀ (v0 : Int) (v1 : Int) (h : AH) (r : Int), Precond_checkIndex_9 v0 v1 = some r → Ev sc d 80 9 [(0, v0), (0, v1), (6, 0)] [] h (some (0, r)) h := by
  intro v0 v1 h r hx
  unfold Precond_checkIndex_9 at hx
  cases hx
theorem x_Precond_checkIndex {sc : AS} {d : Nat} (hd : 1 ≤ d) {v0 : Int} {v1 : Int} {h : AH} {r : Int} (hx : Precond_checkIndex v0 v1 = some r) : Runs sc d 80 [(0, v0), (0, v1), (6, 0)] h (some (0, r)) h := by
  obtain ⟨d, rfl⟩ : ∃ e, d = e + 1 := ⟨d - 1, by omega⟩
  have hd : 0 ≤ d := by omega
  unfold Precond_checkIndex at hx
  refine ⟨⟨aM_80, rfl, Nat.le_of_ble_eq_true rfl⟩, ?_⟩
  show Ev sc d 80 0 [(0, v0), (0, v1), (6, 0)] [] h (some (0, r)) h
  refine Ev.blk (is := [.iload_n 0]) (pc2 := 1) (L2 := [(0, v0), (0, v1), (6, 0)]) (S2 := [(0, v0)]) (h2 := h) (by decide +kernel) rfl trivial ?_
  obtain ⟨ha, hb⟩ := bite hx
  clear hx
  refine Ev.br (i := .ifCond .lt 8) (len := 3) (a := 9) (b := 4) (by decide +kernel) rfl Iff.rfl (fun hc => ?_) (fun hc => ?_)
  · have hx := ha hc
    clear ha hb hc
    exact y_Precond_checkIndex_9 hd v0 v1 h _ hx
  · have hx := hb hc
    clear ha hb hc
    refine Ev.blk (is := [.iload_n 0, .iload_n 1]) (pc2 := 6) (L2 := [(0, v0), (0, v1), (6, 0)]) (S2 := [(0, v1), (0, v0)]) (h2 := h) (by decide +kernel) rfl trivial ?_
    obtain ⟨ha, hb⟩ := bite hx
    clear hx
    refine Ev.br (i := .if_icmp .lt 10) (len := 3) (a := 16) (b := 9) (by decide +kernel) rfl Iff.rfl (fun hc => ?_) (fun hc => ?_)
    · have hx := ha hc
      clear ha hb hc
      refine Ev.blk (is := [.iload_n 0]) (pc2 := 17) (L2 := [(0, v0), (0, v1), (6, 0)]) (S2 := [(0, v0)]) (h2 := h) (by decide +kernel) rfl trivial ?_
      cases hx
      exact Ev.ret (i := .ireturn) (len := 1) (by decide +kernel) rfl (finOf (t := some .int) rfl (trivial))
    · have hx := hb hc
      clear ha hb hc
      exact y_Precond_checkIndex_9 hd v0 v1 h _ hx
theorem x_Str_checkIndex {sc : AS} {d : Nat} (hd : 2 ≤ d) {v0 : Int} {v1 : Int} {h : AH} {r : Int} (hx : Str_checkIndex v0 v1 = some r) : Runs sc d 79 [(0, v0), (0, v1)] h none h := by
  obtain ⟨d, rfl⟩ : ∃ e, d = e + 1 := ⟨d - 1, by omega⟩
  have hd : 1 ≤ d := by omega
  unfold Str_checkIndex at hx
  refine ⟨⟨aM_79, rfl, Nat.le_of_ble_eq_true rfl⟩, ?_⟩
  show Ev sc d 79 0 [(0, v0), (0, v1)] [] h none h
  refine Ev.blk (is := [.iload_n 0, .iload_n 1, .getstatic 2]) (pc2 := 5) (L2 := [(0, v0), (0, v1)]) (S2 := [(6, 0), (0, v1), (0, v0)]) (h2 := h) (by decide +kernel) rfl trivial ?_
  obtain ⟨u1, hc, hx⟩ := bca hx
  refine Ev.call (args := [(0, v0), (0, v1), (6, 0)]) (S2 := []) (r1 := (some (0, u1))) (h1 := h) (i := .invokestatic 80) (by decide +kernel) rfl rfl (Nat.le_of_ble_eq_true rfl) (Or.inl rfl) (x_Precond_checkIndex (by omega) hc) ?_
  refine Ev.blk (is := [.pop]) (pc2 := 9) (L2 := [(0, v0), (0, v1)]) (S2 := []) (h2 := h) (by decide +kernel) rfl trivial ?_
  cases hx
  exact Ev.ret (i := .return_) (len := 1) (by decide +kernel) rfl (finOf (t := none) rfl (trivial))
theorem x_Latin_charAt {sc : AS} {d : Nat} (hd : 3 ≤ d) {v0 : Int} {v1 : Int} {h : AH} {r : Int} (hx : Latin_charAt v0 v1 = some r) : Runs sc d 78 [(5, v0), (0, v1)] h (some (0, r)) h := by
  obtain ⟨d, rfl⟩ : ∃ e, d = e + 1 := ⟨d - 1, by omega⟩
  have hd : 2 ≤ d := by omega
  unfold Latin_charAt at hx
  refine ⟨⟨aM_78, rfl, Nat.le_of_ble_eq_true rfl⟩, ?_⟩
  show Ev sc d 78 0 [(5, v0), (0, v1)] [] h (some (0, r)) h
  refine Ev.blk (is := [.iload_n 1, .aload_n 0, .arraylength]) (pc2 := 3) (L2 := [(5, v0), (0, v1)]) (S2 := [(0, stLn v0), (0, v1)]) (h2 := h) (by decide +kernel) rfl trivial ?_
  obtain ⟨u1, hc, hx⟩ := bca hx
  refine Ev.call (args := [(0, v1), (0, stLn v0)]) (S2 := []) (r1 := none) (h1 := h) (i := .invokestatic 79) (by decide +kernel) rfl rfl (Nat.le_of_ble_eq_true rfl) (Or.inl rfl) (x_Str_checkIndex (by omega) hc) ?_
  obtain ⟨u2, hg, he, hx⟩ := bgd hx
  refine Ev.blk (is := [.aload_n 0, .iload_n 1, .baload]) (pc2 := 9) (L2 := [(5, v0), (0, v1)]) (S2 := [(0, u2)]) (h2 := h) (by decide +kernel) (by subst he; rfl) (by exact hg) ?_
  clear hg he
  obtain ⟨_, hg, -, hx⟩ := bgd hx
  refine Ev.blk (is := [.sipush 255, .iand, .i2c]) (pc2 := 14) (L2 := [(5, v0), (0, v1)]) (S2 := [(0, (andI u2 255) % 65536)]) (h2 := h) (by decide +kernel) rfl trivial ?_
  cases hx
  exact Ev.ret (i := .ireturn) (len := 1) (by decide +kernel) rfl (finOf (t := some .char) rfl (hg))
theorem x_Str_charAt {sc : AS} {d : Nat} (hd : 4 ≤ d) {v0 : Int} {v1 : Int} {h : AH} {r : Int} (hx : Str_charAt v0 v1 = some r) : Runs sc d 76 [(3, v0), (0, v1)] h (some (0, r)) h := by
  obtain ⟨d, rfl⟩ : ∃ e, d = e + 1 := ⟨d - 1, by omega⟩
  have hd : 3 ≤ d := by omega
  unfold Str_charAt at hx
  refine ⟨⟨aM_76, rfl, Nat.le_of_ble_eq_true rfl⟩, ?_⟩
  show Ev sc d 76 0 [(3, v0), (0, v1)] [] h (some (0, r)) h
  refine Ev.blk (is := [.aload_n 0]) (pc2 := 1) (L2 := [(3, v0), (0, v1)]) (S2 := [(3, v0)]) (h2 := h) (by decide +kernel) rfl trivial ?_
  obtain ⟨_, hg, -, hx⟩ := bgd hx
  obtain ⟨u1, hc, hx⟩ := bca hx
  refine Ev.call (args := [(3, v0)]) (S2 := []) (r1 := (some (0, u1))) (h1 := h) (i := .invokevirtual 77) (by decide +kernel) rfl rfl (Nat.le_of_ble_eq_true rfl) (Or.inr (Or.inl ⟨rfl, hg.1, hg.2, by decide +kernel⟩)) (x_Str_isLatin1 (by omega) hc) ?_
  obtain ⟨ha, hb⟩ := bite hx
  clear hx
  refine Ev.br (i := .ifCond .eq 12) (len := 3) (a := 16) (b := 7) (by decide +kernel) rfl Iff.rfl (fun hc => ?_) (fun hc => ?_)
  · have hx := ha hc
    clear ha hb hc
    cases hx
  · have hx := hb hc
    clear ha hb hc
    refine Ev.blk (is := [.aload_n 0, .checkcast 0, .iload_n 1]) (pc2 := 12) (L2 := [(3, v0), (0, v1)]) (S2 := [(0, v1), (5, v0)]) (h2 := h) (by decide +kernel) rfl trivial ?_
    obtain ⟨u2, hc, hx⟩ := bca hx
    refine Ev.call (args := [(5, v0), (0, v1)]) (S2 := []) (r1 := (some (0, u2))) (h1 := h) (i := .invokestatic 78) (by decide +kernel) rfl rfl (Nat.le_of_ble_eq_true rfl) (Or.inl rfl) (x_Latin_charAt (by omega) hc) ?_
    obtain ⟨_, hg, -, hx⟩ := bgd hx
    cases hx
    exact Ev.ret (i := .ireturn) (len := 1) (by decide +kernel) rfl (finOf (t := some .char) rfl (hg))
theorem y_Reader_isWord_28 {sc : AS} {d : Nat} (hd : 4 ≤ d) : ∀ (fu : Nat) (v0 : Int) (v1 : Int) (v2 : Int) (h : AH) (r : Int), Reader_isWord_28 fu v0 v1 v2 h = some r → Ev sc d 73 28 [(2, v0), (3, v1), (0, v2)] [] h (some (0, r)) h := by
  intro fu
  induction fu with
  | zero => intro v0 v1 v2 h r hx; unfold Reader_isWord_28 at hx; cases hx
  | succ fu ih =>
    intro v0 v1 v2 h r hx
    unfold Reader_isWord_28 at hx
    refine Ev.blk (is := [.iload_n 2, .aload_n 1]) (pc2 := 30) (L2 := [(2, v0), (3, v1), (0, v2)]) (S2 := [(3, v1), (0, v2)]) (h2 := h) (by decide +kernel) rfl trivial ?_
    obtain ⟨_, hg, -, hx⟩ := bgd hx
    obtain ⟨u1, hc, hx⟩ := bca hx
    refine Ev.call (args := [(3, v1)]) (S2 := [(0, v2)]) (r1 := (some (0, u1))) (h1 := h) (i := .invokevirtual 74) (by decide +kernel) rfl rfl (Nat.le_of_ble_eq_true rfl) (Or.inr (Or.inl ⟨rfl, hg.1, hg.2, by decide +kernel⟩)) (x_Str_length (by omega) hc) ?_
    obtain ⟨ha, hb⟩ := bite hx
    clear hx
    refine Ev.br (i := .if_icmp .ge 49) (len := 3) (a := 36) (b := 82) (by decide +kernel) rfl Iff.rfl (fun hc => ?_) (fun hc => ?_)
    · have hx := ha hc
      clear ha hb hc
      obtain ⟨u2, hg, he, hx⟩ := bgd hx
      refine Ev.blk (is := [.aload_n 0, .getfield 4004]) (pc2 := 40) (L2 := [(2, v0), (3, v1), (0, v2)]) (S2 := [(0, u2)]) (h2 := h) (by decide +kernel) (by subst he; rfl) (by exact hg) ?_
      clear hg he
      obtain ⟨u3, hg, he, hx⟩ := bgd hx
      refine Ev.blk (is := [.iload_n 2, .iadd, .aload_n 0, .getfield 4200]) (pc2 := 46) (L2 := [(2, v0), (3, v1), (0, v2)]) (S2 := [(2, u3), (0, w32 (u2 + v2))]) (h2 := h) (by decide +kernel) (by subst he; rfl) (by exact hg) ?_
      clear hg he
      obtain ⟨u4, hg, he, hx⟩ := bgd hx
      refine Ev.blk (is := [.getfield 7001]) (pc2 := 49) (L2 := [(2, v0), (3, v1), (0, v2)]) (S2 := [(0, u4), (0, w32 (u2 + v2))]) (h2 := h) (by decide +kernel) (by subst he; rfl) (by exact hg) ?_
      clear hg he
      obtain ⟨ha, hb⟩ := bite hx
      clear hx
      refine Ev.br (i := .if_icmp .ge 25) (len := 3) (a := 52) (b := 74) (by decide +kernel) rfl Iff.rfl (fun hc => ?_) (fun hc => ?_)
      · have hx := ha hc
        clear ha hb hc
        obtain ⟨u5, hg, he, hx⟩ := bgd hx
        refine Ev.blk (is := [.aload_n 0, .getfield 4200]) (pc2 := 56) (L2 := [(2, v0), (3, v1), (0, v2)]) (S2 := [(2, u5)]) (h2 := h) (by decide +kernel) (by subst he; rfl) (by exact hg) ?_
        clear hg he
        obtain ⟨u6, hg, he, hx⟩ := bgd hx
        refine Ev.blk (is := [.getfield 7200]) (pc2 := 59) (L2 := [(2, v0), (3, v1), (0, v2)]) (S2 := [(2, u6)]) (h2 := h) (by decide +kernel) (by subst he; rfl) (by exact hg) ?_
        clear hg he
        obtain ⟨u7, hg, he, hx⟩ := bgd hx
        refine Ev.blk (is := [.aload_n 0, .getfield 4004]) (pc2 := 63) (L2 := [(2, v0), (3, v1), (0, v2)]) (S2 := [(0, u7), (2, u6)]) (h2 := h) (by decide +kernel) (by subst he; rfl) (by exact hg) ?_
        clear hg he
        obtain ⟨u8, hg, he, hx⟩ := bgd hx
        refine Ev.blk (is := [.iload_n 2, .iadd, .caload]) (pc2 := 66) (L2 := [(2, v0), (3, v1), (0, v2)]) (S2 := [(0, u8)]) (h2 := h) (by decide +kernel) (by subst he; rfl) (by exact hg) ?_
        clear hg he
        refine Ev.blk (is := [.aload_n 1, .iload_n 2]) (pc2 := 68) (L2 := [(2, v0), (3, v1), (0, v2)]) (S2 := [(0, v2), (3, v1), (0, u8)]) (h2 := h) (by decide +kernel) rfl trivial ?_
        obtain ⟨_, hg, -, hx⟩ := bgd hx
        obtain ⟨u9, hc, hx⟩ := bca hx
        refine Ev.call (args := [(3, v1), (0, v2)]) (S2 := [(0, u8)]) (r1 := (some (0, u9))) (h1 := h) (i := .invokevirtual 76) (by decide +kernel) rfl rfl (Nat.le_of_ble_eq_true rfl) (Or.inr (Or.inl ⟨rfl, hg.1, hg.2, by decide +kernel⟩)) (x_Str_charAt (by omega) hc) ?_
        obtain ⟨ha, hb⟩ := bite hx
        clear hx
        refine Ev.br (i := .if_icmp .eq 5) (len := 3) (a := 76) (b := 74) (by decide +kernel) rfl Iff.rfl (fun hc => ?_) (fun hc => ?_)
        · have hx := ha hc
          clear ha hb hc
          refine Ev.blk (is := [.iinc 2 1]) (pc2 := 79) (L2 := [(2, v0), (3, v1), (0, w32 (v2 + 1))]) (S2 := []) (h2 := h) (by decide +kernel) rfl trivial ?_
          refine Ev.jp (i := .goto (-51)) (len := 3) (pc2 := 28) (by decide +kernel) rfl ?_
          exact ih v0 v1 (w32 (v2 + 1)) h _ hx
        · have hx := hb hc
          clear ha hb hc
          refine Ev.blk (is := [.iconst 0]) (pc2 := 75) (L2 := [(2, v0), (3, v1), (0, v2)]) (S2 := [(0, 0)]) (h2 := h) (by decide +kernel) rfl trivial ?_
          cases hx
          exact Ev.ret (i := .ireturn) (len := 1) (by decide +kernel) rfl (finOf (t := some .boolean) rfl (bz0))
      · have hx := hb hc
        clear ha hb hc
        refine Ev.blk (is := [.iconst 0]) (pc2 := 75) (L2 := [(2, v0), (3, v1), (0, v2)]) (S2 := [(0, 0)]) (h2 := h) (by decide +kernel) rfl trivial ?_
        cases hx
        exact Ev.ret (i := .ireturn) (len := 1) (by decide +kernel) rfl (finOf (t := some .boolean) rfl (bz0))
    · have hx := hb hc
      clear ha hb hc
      refine Ev.blk (is := [.iconst 1]) (pc2 := 83) (L2 := [(2, v0), (3, v1), (0, v2)]) (S2 := [(0, 1)]) (h2 := h) (by decide +kernel) rfl trivial ?_
      cases hx
      exact Ev.ret (i := .ireturn) (len := 1) (by decide +kernel) rfl (finOf (t := some .boolean) rfl (bz1))
theorem x_Reader_isWord {sc : AS} {d : Nat} (hd : 5 ≤ d) {v0 : Int} {v1 : Int} {h : AH} {r : Int} (hx : Reader_isWord v0 v1 h = some r) : Runs sc d 73 [(2, v0), (3, v1)] h (some (0, r)) h := by
  obtain ⟨d, rfl⟩ : ∃ e, d = e + 1 := ⟨d - 1, by omega⟩
  have hd : 4 ≤ d := by omega
  unfold Reader_isWord at hx
  refine ⟨⟨aM_73, rfl, Nat.le_of_ble_eq_true rfl⟩, ?_⟩
  show Ev sc d 73 0 [(2, v0), (3, v1), (9, 0)] [] h (some (0, r)) h
  obtain ⟨u1, hg, he, hx⟩ := bgd hx
  refine Ev.blk (is := [.aload_n 0, .getfield 4003]) (pc2 := 4) (L2 := [(2, v0), (3, v1), (9, 0)]) (S2 := [(0, u1)]) (h2 := h) (by decide +kernel) (by subst he; rfl) (by exact hg) ?_
  clear hg he
  refine Ev.blk (is := [.iconst 1]) (pc2 := 5) (L2 := [(2, v0), (3, v1), (9, 0)]) (S2 := [(0, 1), (0, u1)]) (h2 := h) (by decide +kernel) rfl trivial ?_
  obtain ⟨ha, hb⟩ := bite hx
  clear hx
  refine Ev.br (i := .if_icmp .ne 19) (len := 3) (a := 8) (b := 24) (by decide +kernel) rfl Iff.rfl (fun hc => ?_) (fun hc => ?_)
  · have hx := ha hc
    clear ha hb hc
    obtain ⟨u2, hg, he, hx⟩ := bgd hx
    refine Ev.blk (is := [.aload_n 0, .getfield 4005]) (pc2 := 12) (L2 := [(2, v0), (3, v1), (9, 0)]) (S2 := [(0, u2)]) (h2 := h) (by decide +kernel) (by subst he; rfl) (by exact hg) ?_
    clear hg he
    obtain ⟨u3, hg, he, hx⟩ := bgd hx
    refine Ev.blk (is := [.aload_n 0, .getfield 4004]) (pc2 := 16) (L2 := [(2, v0), (3, v1), (9, 0)]) (S2 := [(0, u3), (0, u2)]) (h2 := h) (by decide +kernel) (by subst he; rfl) (by exact hg) ?_
    clear hg he
    refine Ev.blk (is := [.isub, .aload_n 1]) (pc2 := 18) (L2 := [(2, v0), (3, v1), (9, 0)]) (S2 := [(3, v1), (0, w32 (u2 - u3))]) (h2 := h) (by decide +kernel) rfl trivial ?_
    obtain ⟨_, hg, -, hx⟩ := bgd hx
    obtain ⟨u4, hc, hx⟩ := bca hx
    refine Ev.call (args := [(3, v1)]) (S2 := [(0, w32 (u2 - u3))]) (r1 := (some (0, u4))) (h1 := h) (i := .invokevirtual 74) (by decide +kernel) rfl rfl (Nat.le_of_ble_eq_true rfl) (Or.inr (Or.inl ⟨rfl, hg.1, hg.2, by decide +kernel⟩)) (x_Str_length (by omega) hc) ?_
    obtain ⟨ha, hb⟩ := bite hx
    clear hx
    refine Ev.br (i := .if_icmp .eq 5) (len := 3) (a := 26) (b := 24) (by decide +kernel) rfl Iff.rfl (fun hc => ?_) (fun hc => ?_)
    · have hx := ha hc
      clear ha hb hc
      refine Ev.blk (is := [.iconst 0, .istore_n 2]) (pc2 := 28) (L2 := [(2, v0), (3, v1), (0, 0)]) (S2 := []) (h2 := h) (by decide +kernel) rfl trivial ?_
      exact y_Reader_isWord_28 hd FU v0 v1 0 h _ hx
    · have hx := hb hc
      clear ha hb hc
      refine Ev.blk (is := [.iconst 0]) (pc2 := 25) (L2 := [(2, v0), (3, v1), (9, 0)]) (S2 := [(0, 0)]) (h2 := h) (by decide +kernel) rfl trivial ?_
      cases hx
      exact Ev.ret (i := .ireturn) (len := 1) (by decide +kernel) rfl (finOf (t := some .boolean) rfl (bz0))
  · have hx := hb hc
    clear ha hb hc
    refine Ev.blk (is := [.iconst 0]) (pc2 := 25) (L2 := [(2, v0), (3, v1), (9, 0)]) (S2 := [(0, 0)]) (h2 := h) (by decide +kernel) rfl trivial ?_
    cases hx
    exact Ev.ret (i := .ireturn) (len := 1) (by decide +kernel) rfl (finOf (t := some .boolean) rfl (bz0))
theorem y_Reader_sortTold_2 {sc : AS} {d : Nat} (hd : 5 ≤ d) : ∀ (fu : Nat) (v0 : Int) (v1 : Int) (h : AH) (r : Int), Reader_sortTold_2 fu v0 v1 h = some r → Ev sc d 71 2 [(2, v0), (0, v1)] [] h (some (0, r)) h := by
  intro fu
  induction fu with
  | zero => intro v0 v1 h r hx; unfold Reader_sortTold_2 at hx; cases hx
  | succ fu ih =>
    intro v0 v1 h r hx
    unfold Reader_sortTold_2 at hx
    refine Ev.blk (is := [.iload_n 1, .iconst 4]) (pc2 := 4) (L2 := [(2, v0), (0, v1)]) (S2 := [(0, 4), (0, v1)]) (h2 := h) (by decide +kernel) rfl trivial ?_
    obtain ⟨ha, hb⟩ := bite hx
    clear hx
    refine Ev.br (i := .if_icmp .gt 22) (len := 3) (a := 26) (b := 7) (by decide +kernel) rfl Iff.rfl (fun hc => ?_) (fun hc => ?_)
    · have hx := ha hc
      clear ha hb hc
      refine Ev.blk (is := [.iconst (-1)]) (pc2 := 27) (L2 := [(2, v0), (0, v1)]) (S2 := [(0, (-1))]) (h2 := h) (by decide +kernel) rfl trivial ?_
      cases hx
      exact Ev.ret (i := .ireturn) (len := 1) (by decide +kernel) rfl (finOf (t := some .int) rfl (trivial))
    · have hx := hb hc
      clear ha hb hc
      refine Ev.blk (is := [.aload_n 0, .iload_n 1]) (pc2 := 9) (L2 := [(2, v0), (0, v1)]) (S2 := [(0, v1), (2, v0)]) (h2 := h) (by decide +kernel) rfl trivial ?_
      obtain ⟨u1, hc, hx⟩ := bca hx
      refine Ev.call (args := [(0, v1)]) (S2 := [(2, v0)]) (r1 := (some (3, u1))) (h1 := h) (i := .invokestatic 72) (by decide +kernel) rfl rfl (Nat.le_of_ble_eq_true rfl) (Or.inl rfl) (x_Speller_nameOf (by omega) hc) ?_
      obtain ⟨_, hg, -, hx⟩ := bgd hx
      obtain ⟨u2, hc, hx⟩ := bca hx
      refine Ev.call (args := [(2, v0), (3, u1)]) (S2 := []) (r1 := (some (0, u2))) (h1 := h) (i := .invokevirtual 73) (by decide +kernel) rfl rfl (Nat.le_of_ble_eq_true rfl) (Or.inr (Or.inl ⟨rfl, hg, by decide +kernel⟩)) (x_Reader_isWord (by omega) hc) ?_
      obtain ⟨ha, hb⟩ := bite hx
      clear hx
      refine Ev.br (i := .ifCond .eq 5) (len := 3) (a := 20) (b := 18) (by decide +kernel) rfl Iff.rfl (fun hc => ?_) (fun hc => ?_)
      · have hx := ha hc
        clear ha hb hc
        refine Ev.blk (is := [.iinc 1 1]) (pc2 := 23) (L2 := [(2, v0), (0, w32 (v1 + 1))]) (S2 := []) (h2 := h) (by decide +kernel) rfl trivial ?_
        refine Ev.jp (i := .goto (-21)) (len := 3) (pc2 := 2) (by decide +kernel) rfl ?_
        exact ih v0 (w32 (v1 + 1)) h _ hx
      · have hx := hb hc
        clear ha hb hc
        refine Ev.blk (is := [.iload_n 1]) (pc2 := 19) (L2 := [(2, v0), (0, v1)]) (S2 := [(0, v1)]) (h2 := h) (by decide +kernel) rfl trivial ?_
        cases hx
        exact Ev.ret (i := .ireturn) (len := 1) (by decide +kernel) rfl (finOf (t := some .int) rfl (trivial))
theorem x_Reader_sortTold {sc : AS} {d : Nat} (hd : 6 ≤ d) {v0 : Int} {h : AH} {r : Int} (hx : Reader_sortTold v0 h = some r) : Runs sc d 71 [(2, v0)] h (some (0, r)) h := by
  obtain ⟨d, rfl⟩ : ∃ e, d = e + 1 := ⟨d - 1, by omega⟩
  have hd : 5 ≤ d := by omega
  unfold Reader_sortTold at hx
  refine ⟨⟨aM_71, rfl, Nat.le_of_ble_eq_true rfl⟩, ?_⟩
  show Ev sc d 71 0 [(2, v0), (9, 0)] [] h (some (0, r)) h
  refine Ev.blk (is := [.iconst 0, .istore_n 1]) (pc2 := 2) (L2 := [(2, v0), (0, 0)]) (S2 := []) (h2 := h) (by decide +kernel) rfl trivial ?_
  exact y_Reader_sortTold_2 hd FU v0 0 h _ hx
theorem y_Reader_tellInt_80 {sc : AS} {d : Nat} (hd : 2 ≤ d) : ∀ (v0 : Int) (v1 : Int) (v2 : Int) (v3 : Int) (h : AH) (r : (Int × AH)), Reader_tellInt_80 v0 v1 v2 v3 h = some r → Ev sc d 81 80 [(2, v0), (0, v1), (0, v2), (1, v3), (8, 0), (9, 0)] [] h (some (0, r.1)) r.2 := by
  intro v0 v1 v2 v3 h r hx
  unfold Reader_tellInt_80 at hx
  refine Ev.blk (is := [.lload_n 3, .iload_n 1, .i2l, .lcmp]) (pc2 := 84) (L2 := [(2, v0), (0, v1), (0, v2), (1, v3), (8, 0), (9, 0)]) (S2 := [(0, cmpL v3 v1)]) (h2 := h) (by decide +kernel) rfl trivial ?_
  obtain ⟨ha, hb⟩ := bite hx
  clear hx
  refine Ev.br (i := .ifCond .lt 10) (len := 3) (a := 94) (b := 87) (by decide +kernel) rfl cmpL_lt (fun hc => ?_) (fun hc => ?_)
  · have hx := ha hc
    clear ha hb hc
    refine Ev.blk (is := [.iconst (-1)]) (pc2 := 95) (L2 := [(2, v0), (0, v1), (0, v2), (1, v3), (8, 0), (9, 0)]) (S2 := [(0, (-1))]) (h2 := h) (by decide +kernel) rfl trivial ?_
    cases hx
    exact Ev.ret (i := .ireturn) (len := 1) (by decide +kernel) rfl (finOf (t := some .int) rfl (trivial))
  · have hx := hb hc
    clear ha hb hc
    refine Ev.blk (is := [.lload_n 3, .iload_n 2, .i2l, .lcmp]) (pc2 := 91) (L2 := [(2, v0), (0, v1), (0, v2), (1, v3), (8, 0), (9, 0)]) (S2 := [(0, cmpL v3 v2)]) (h2 := h) (by decide +kernel) rfl trivial ?_
    obtain ⟨ha, hb⟩ := bite hx
    clear hx
    refine Ev.br (i := .ifCond .le 5) (len := 3) (a := 94) (b := 96) (by decide +kernel) rfl cmpL_gt (fun hc => ?_) (fun hc => ?_)
    · have hx := ha hc
      clear ha hb hc
      refine Ev.blk (is := [.iconst (-1)]) (pc2 := 95) (L2 := [(2, v0), (0, v1), (0, v2), (1, v3), (8, 0), (9, 0)]) (S2 := [(0, (-1))]) (h2 := h) (by decide +kernel) rfl trivial ?_
      cases hx
      exact Ev.ret (i := .ireturn) (len := 1) (by decide +kernel) rfl (finOf (t := some .int) rfl (trivial))
    · have hx := hb hc
      clear ha hb hc
      refine Ev.blk (is := [.aload_n 0]) (pc2 := 97) (L2 := [(2, v0), (0, v1), (0, v2), (1, v3), (8, 0), (9, 0)]) (S2 := [(2, v0)]) (h2 := h) (by decide +kernel) rfl trivial ?_
      obtain ⟨_, hg, -, hx⟩ := bgd hx
      obtain ⟨h2, hc, hx⟩ := bca hx
      refine Ev.call (args := [(2, v0)]) (S2 := []) (r1 := none) (h1 := h2) (i := .invokevirtual 68) (by decide +kernel) rfl rfl (Nat.le_of_ble_eq_true rfl) (Or.inr (Or.inl ⟨rfl, hg, by decide +kernel⟩)) (x_Reader_advance (by omega) hc) ?_
      refine Ev.blk (is := [.lload_n 3, .l2i]) (pc2 := 102) (L2 := [(2, v0), (0, v1), (0, v2), (1, v3), (8, 0), (9, 0)]) (S2 := [(0, w32 v3)]) (h2 := h2) (by decide +kernel) rfl trivial ?_
      cases hx
      exact Ev.ret (i := .ireturn) (len := 1) (by decide +kernel) rfl (finOf (t := some .int) rfl (trivial))
theorem y_Reader_tellInt_32 {sc : AS} {d : Nat} (hd : 2 ≤ d) : ∀ (fu : Nat) (v0 : Int) (v1 : Int) (v2 : Int) (v3 : Int) (v5 : Int) (h : AH) (r : (Int × AH)), Reader_tellInt_32 fu v0 v1 v2 v3 v5 h = some r → Ev sc d 81 32 [(2, v0), (0, v1), (0, v2), (1, v3), (8, 0), (0, v5)] [] h (some (0, r.1)) r.2 := by
  intro fu
  induction fu with
  | zero => intro v0 v1 v2 v3 v5 h r hx; unfold Reader_tellInt_32 at hx; cases hx
  | succ fu ih =>
    intro v0 v1 v2 v3 v5 h r hx
    unfold Reader_tellInt_32 at hx
    obtain ⟨u1, hg, he, hx⟩ := bgd hx
    refine Ev.blk (is := [.iload 5, .aload_n 0, .getfield 4005]) (pc2 := 38) (L2 := [(2, v0), (0, v1), (0, v2), (1, v3), (8, 0), (0, v5)]) (S2 := [(0, u1), (0, v5)]) (h2 := h) (by decide +kernel) (by subst he; rfl) (by exact hg) ?_
    clear hg he
    obtain ⟨ha, hb⟩ := bite hx
    clear hx
    refine Ev.br (i := .if_icmp .ge 42) (len := 3) (a := 41) (b := 80) (by decide +kernel) rfl Iff.rfl (fun hc => ?_) (fun hc => ?_)
    · have hx := ha hc
      clear ha hb hc
      obtain ⟨u2, hg, he, hx⟩ := bgd hx
      refine Ev.blk (is := [.iload 5, .aload_n 0, .getfield 4200]) (pc2 := 47) (L2 := [(2, v0), (0, v1), (0, v2), (1, v3), (8, 0), (0, v5)]) (S2 := [(2, u2), (0, v5)]) (h2 := h) (by decide +kernel) (by subst he; rfl) (by exact hg) ?_
      clear hg he
      obtain ⟨u3, hg, he, hx⟩ := bgd hx
      refine Ev.blk (is := [.getfield 7001]) (pc2 := 50) (L2 := [(2, v0), (0, v1), (0, v2), (1, v3), (8, 0), (0, v5)]) (S2 := [(0, u3), (0, v5)]) (h2 := h) (by decide +kernel) (by subst he; rfl) (by exact hg) ?_
      clear hg he
      obtain ⟨ha, hb⟩ := bite hx
      clear hx
      refine Ev.br (i := .if_icmp .ge 30) (len := 3) (a := 53) (b := 80) (by decide +kernel) rfl Iff.rfl (fun hc => ?_) (fun hc => ?_)
      · have hx := ha hc
        clear ha hb hc
        obtain ⟨u4, hg, he, hx⟩ := bgd hx
        refine Ev.blk (is := [.jsr_w 10, .lload_n 3, .lmul, .aload_n 0, .getfield 4200]) (pc2 := 62) (L2 := [(2, v0), (0, v1), (0, v2), (1, v3), (8, 0), (0, v5)]) (S2 := [(2, u4), (1, w64 (10 * v3))]) (h2 := h) (by decide +kernel) (by subst he; rfl) (by exact hg) ?_
        clear hg he
        obtain ⟨u5, hg, he, hx⟩ := bgd hx
        refine Ev.blk (is := [.getfield 7200]) (pc2 := 65) (L2 := [(2, v0), (0, v1), (0, v2), (1, v3), (8, 0), (0, v5)]) (S2 := [(2, u5), (1, w64 (10 * v3))]) (h2 := h) (by decide +kernel) (by subst he; rfl) (by exact hg) ?_
        clear hg he
        obtain ⟨u6, hg, he, hx⟩ := bgd hx
        refine Ev.blk (is := [.iload 5, .caload]) (pc2 := 68) (L2 := [(2, v0), (0, v1), (0, v2), (1, v3), (8, 0), (0, v5)]) (S2 := [(0, u6), (1, w64 (10 * v3))]) (h2 := h) (by decide +kernel) (by subst he; rfl) (by exact hg) ?_
        clear hg he
        refine Ev.blk (is := [.sipush 48, .isub, .i2l, .ladd, .lstore_n 3, .iinc 5 1]) (pc2 := 77) (L2 := [(2, v0), (0, v1), (0, v2), (1, w64 ((w64 (10 * v3)) + (w32 (u6 - 48)))), (8, 0), (0, w32 (v5 + 1))]) (S2 := []) (h2 := h) (by decide +kernel) rfl trivial ?_
        refine Ev.jp (i := .goto (-45)) (len := 3) (pc2 := 32) (by decide +kernel) rfl ?_
        exact ih v0 v1 v2 (w64 ((w64 (10 * v3)) + (w32 (u6 - 48)))) (w32 (v5 + 1)) h _ hx
      · have hx := hb hc
        clear ha hb hc
        refine Ev.wk (L2 := [(2, v0), (0, v1), (0, v2), (1, v3), (8, 0), (9, 0)]) (wkL_of ⟨Or.inl rfl, ⟨Or.inl rfl, ⟨Or.inl rfl, ⟨Or.inl rfl, ⟨Or.inl rfl, ⟨Or.inr rfl, trivial⟩⟩⟩⟩⟩⟩) ?_
        exact y_Reader_tellInt_80 hd v0 v1 v2 v3 h _ hx
    · have hx := hb hc
      clear ha hb hc
      refine Ev.wk (L2 := [(2, v0), (0, v1), (0, v2), (1, v3), (8, 0), (9, 0)]) (wkL_of ⟨Or.inl rfl, ⟨Or.inl rfl, ⟨Or.inl rfl, ⟨Or.inl rfl, ⟨Or.inl rfl, ⟨Or.inr rfl, trivial⟩⟩⟩⟩⟩⟩) ?_
      exact y_Reader_tellInt_80 hd v0 v1 v2 v3 h _ hx
theorem x_Reader_tellInt {sc : AS} {d : Nat} (hd : 3 ≤ d) {v0 : Int} {v1 : Int} {v2 : Int} {h : AH} {r : (Int × AH)} (hx : Reader_tellInt v0 v1 v2 h = some r) : Runs sc d 81 [(2, v0), (0, v1), (0, v2)] h (some (0, r.1)) r.2 := by
  obtain ⟨d, rfl⟩ : ∃ e, d = e + 1 := ⟨d - 1, by omega⟩
  have hd : 2 ≤ d := by omega
  unfold Reader_tellInt at hx
  refine ⟨⟨aM_81, rfl, Nat.le_of_ble_eq_true rfl⟩, ?_⟩
  show Ev sc d 81 0 [(2, v0), (0, v1), (0, v2), (9, 0), (9, 0), (9, 0)] [] h (some (0, r.1)) r.2
  obtain ⟨u1, hg, he, hx⟩ := bgd hx
  refine Ev.blk (is := [.aload_n 0, .getfield 4003]) (pc2 := 4) (L2 := [(2, v0), (0, v1), (0, v2), (9, 0), (9, 0), (9, 0)]) (S2 := [(0, u1)]) (h2 := h) (by decide +kernel) (by subst he; rfl) (by exact hg) ?_
  clear hg he
  refine Ev.blk (is := [.iconst 2]) (pc2 := 5) (L2 := [(2, v0), (0, v1), (0, v2), (9, 0), (9, 0), (9, 0)]) (S2 := [(0, 2), (0, u1)]) (h2 := h) (by decide +kernel) rfl trivial ?_
  obtain ⟨ha, hb⟩ := bite hx
  clear hx
  refine Ev.br (i := .if_icmp .ne 17) (len := 3) (a := 8) (b := 22) (by decide +kernel) rfl Iff.rfl (fun hc => ?_) (fun hc => ?_)
  · have hx := ha hc
    clear ha hb hc
    obtain ⟨u2, hg, he, hx⟩ := bgd hx
    refine Ev.blk (is := [.aload_n 0, .getfield 4005]) (pc2 := 12) (L2 := [(2, v0), (0, v1), (0, v2), (9, 0), (9, 0), (9, 0)]) (S2 := [(0, u2)]) (h2 := h) (by decide +kernel) (by subst he; rfl) (by exact hg) ?_
    clear hg he
    obtain ⟨u3, hg, he, hx⟩ := bgd hx
    refine Ev.blk (is := [.aload_n 0, .getfield 4004]) (pc2 := 16) (L2 := [(2, v0), (0, v1), (0, v2), (9, 0), (9, 0), (9, 0)]) (S2 := [(0, u3), (0, u2)]) (h2 := h) (by decide +kernel) (by subst he; rfl) (by exact hg) ?_
    clear hg he
    refine Ev.blk (is := [.isub, .sipush 10]) (pc2 := 19) (L2 := [(2, v0), (0, v1), (0, v2), (9, 0), (9, 0), (9, 0)]) (S2 := [(0, 10), (0, w32 (u2 - u3))]) (h2 := h) (by decide +kernel) rfl trivial ?_
    obtain ⟨ha, hb⟩ := bite hx
    clear hx
    refine Ev.br (i := .if_icmp .le 5) (len := 3) (a := 22) (b := 24) (by decide +kernel) rfl Iff.rfl (fun hc => ?_) (fun hc => ?_)
    · have hx := ha hc
      clear ha hb hc
      refine Ev.blk (is := [.iconst (-1)]) (pc2 := 23) (L2 := [(2, v0), (0, v1), (0, v2), (9, 0), (9, 0), (9, 0)]) (S2 := [(0, (-1))]) (h2 := h) (by decide +kernel) rfl trivial ?_
      cases hx
      exact Ev.ret (i := .ireturn) (len := 1) (by decide +kernel) rfl (finOf (t := some .int) rfl (trivial))
    · have hx := hb hc
      clear ha hb hc
      obtain ⟨u4, hg, he, hx⟩ := bgd hx
      refine Ev.blk (is := [.lconst 0, .lstore_n 3, .aload_n 0, .getfield 4004]) (pc2 := 30) (L2 := [(2, v0), (0, v1), (0, v2), (1, 0), (8, 0), (9, 0)]) (S2 := [(0, u4)]) (h2 := h) (by decide +kernel) (by subst he; rfl) (by exact hg) ?_
      clear hg he
      refine Ev.blk (is := [.istore 5]) (pc2 := 32) (L2 := [(2, v0), (0, v1), (0, v2), (1, 0), (8, 0), (0, u4)]) (S2 := []) (h2 := h) (by decide +kernel) rfl trivial ?_
      exact y_Reader_tellInt_32 hd FU v0 v1 v2 0 u4 h _ hx
  · have hx := hb hc
    clear ha hb hc
    refine Ev.blk (is := [.iconst (-1)]) (pc2 := 23) (L2 := [(2, v0), (0, v1), (0, v2), (9, 0), (9, 0), (9, 0)]) (S2 := [(0, (-1))]) (h2 := h) (by decide +kernel) rfl trivial ?_
    cases hx
    exact Ev.ret (i := .ireturn) (len := 1) (by decide +kernel) rfl (finOf (t := some .int) rfl (trivial))
theorem x_Reader_tellWord {sc : AS} {d : Nat} (hd : 6 ≤ d) {v0 : Int} {v1 : Int} {h : AH} {r : (Int × AH)} (hx : Reader_tellWord v0 v1 h = some r) : Runs sc d 83 [(2, v0), (3, v1)] h (some (0, r.1)) r.2 := by
  obtain ⟨d, rfl⟩ : ∃ e, d = e + 1 := ⟨d - 1, by omega⟩
  have hd : 5 ≤ d := by omega
  unfold Reader_tellWord at hx
  refine ⟨⟨aM_83, rfl, Nat.le_of_ble_eq_true rfl⟩, ?_⟩
  show Ev sc d 83 0 [(2, v0), (3, v1)] [] h (some (0, r.1)) r.2
  refine Ev.blk (is := [.aload_n 0, .aload_n 1]) (pc2 := 2) (L2 := [(2, v0), (3, v1)]) (S2 := [(3, v1), (2, v0)]) (h2 := h) (by decide +kernel) rfl trivial ?_
  obtain ⟨_, hg, -, hx⟩ := bgd hx
  obtain ⟨u1, hc, hx⟩ := bca hx
  refine Ev.call (args := [(2, v0), (3, v1)]) (S2 := []) (r1 := (some (0, u1))) (h1 := h) (i := .invokevirtual 73) (by decide +kernel) rfl rfl (Nat.le_of_ble_eq_true rfl) (Or.inr (Or.inl ⟨rfl, hg, by decide +kernel⟩)) (x_Reader_isWord (by omega) hc) ?_
  obtain ⟨ha, hb⟩ := bite hx
  clear hx
  refine Ev.br (i := .ifCond .ne 5) (len := 3) (a := 8) (b := 10) (by decide +kernel) rfl Iff.rfl (fun hc => ?_) (fun hc => ?_)
  · have hx := ha hc
    clear ha hb hc
    refine Ev.blk (is := [.iconst 0]) (pc2 := 9) (L2 := [(2, v0), (3, v1)]) (S2 := [(0, 0)]) (h2 := h) (by decide +kernel) rfl trivial ?_
    cases hx
    exact Ev.ret (i := .ireturn) (len := 1) (by decide +kernel) rfl (finOf (t := some .boolean) rfl (bz0))
  · have hx := hb hc
    clear ha hb hc
    refine Ev.blk (is := [.aload_n 0]) (pc2 := 11) (L2 := [(2, v0), (3, v1)]) (S2 := [(2, v0)]) (h2 := h) (by decide +kernel) rfl trivial ?_
    obtain ⟨_, hg, -, hx⟩ := bgd hx
    obtain ⟨h3, hc, hx⟩ := bca hx
    refine Ev.call (args := [(2, v0)]) (S2 := []) (r1 := none) (h1 := h3) (i := .invokevirtual 68) (by decide +kernel) rfl rfl (Nat.le_of_ble_eq_true rfl) (Or.inr (Or.inl ⟨rfl, hg, by decide +kernel⟩)) (x_Reader_advance (by omega) hc) ?_
    refine Ev.blk (is := [.iconst 1]) (pc2 := 15) (L2 := [(2, v0), (3, v1)]) (S2 := [(0, 1)]) (h2 := h3) (by decide +kernel) rfl trivial ?_
    cases hx
    exact Ev.ret (i := .ireturn) (len := 1) (by decide +kernel) rfl (finOf (t := some .boolean) rfl (bz1))
theorem y_Reader_tellRows_67 {sc : AS} {d : Nat} (hd : 3 ≤ d) {k2 : Int → Int → Int → Int → AH → Option (Int × AH)} (hk2 : ∀ (v0 : Int) (v1 : Int) (v2 : Int) (v3 : Int) (h : AH) (r : (Int × AH)), k2 v0 v1 v2 v3 h = some r → Ev sc d 84 2 [(2, v0), (2, v1), (0, v2), (0, v3), (9, 0), (9, 0), (9, 0)] [] h (some (0, r.1)) r.2) : ∀ (v0 : Int) (v1 : Int) (v2 : Int) (v3 : Int) (v4 : Int) (v5 : Int) (s0 : Int) (h : AH) (r : (Int × AH)), Reader_tellRows_67 k2 v0 v1 v2 v3 v4 v5 s0 h = some r → Ev sc d 84 67 [(2, v0), (2, v1), (0, v2), (0, v3), (0, v4), (0, v5), (9, 0)] [(0, s0)] h (some (0, r.1)) r.2 := by
  intro v0 v1 v2 v3 v4 v5 s0 h r hx
  unfold Reader_tellRows_67 at hx
  refine Ev.blk (is := [.istore 6, .iload 6, .iconst (-1)]) (pc2 := 72) (L2 := [(2, v0), (2, v1), (0, v2), (0, v3), (0, v4), (0, v5), (0, s0)]) (S2 := [(0, (-1)), (0, s0)]) (h2 := h) (by decide +kernel) rfl trivial ?_
  obtain ⟨ha, hb⟩ := bite hx
  clear hx
  refine Ev.br (i := .if_icmp .ne 5) (len := 3) (a := 75) (b := 77) (by decide +kernel) rfl Iff.rfl (fun hc => ?_) (fun hc => ?_)
  · have hx := ha hc
    clear ha hb hc
    refine Ev.blk (is := [.iconst 0]) (pc2 := 76) (L2 := [(2, v0), (2, v1), (0, v2), (0, v3), (0, v4), (0, v5), (0, s0)]) (S2 := [(0, 0)]) (h2 := h) (by decide +kernel) rfl trivial ?_
    cases hx
    exact Ev.ret (i := .ireturn) (len := 1) (by decide +kernel) rfl (finOf (t := some .boolean) rfl (bz0))
  · have hx := hb hc
    clear ha hb hc
    refine Ev.blk (is := [.aload_n 1, .iload 4, .iload 5, .iload 6]) (pc2 := 84) (L2 := [(2, v0), (2, v1), (0, v2), (0, v3), (0, v4), (0, v5), (0, s0)]) (S2 := [(0, s0), (0, v5), (0, v4), (2, v1)]) (h2 := h) (by decide +kernel) rfl trivial ?_
    obtain ⟨_, hg, -, hx⟩ := bgd hx
    obtain ⟨h2, hc, hx⟩ := bca hx
    refine Ev.call (args := [(2, v1), (0, v4), (0, v5), (0, s0)]) (S2 := []) (r1 := none) (h1 := h2) (i := .invokevirtual 29) (by decide +kernel) rfl rfl (Nat.le_of_ble_eq_true rfl) (Or.inr (Or.inl ⟨rfl, hg, by decide +kernel⟩)) (x_Side_append (by omega) hc) ?_
    refine Ev.blk (is := [.iinc 3 1]) (pc2 := 90) (L2 := [(2, v0), (2, v1), (0, v2), (0, w32 (v3 + 1)), (0, v4), (0, v5), (0, s0)]) (S2 := []) (h2 := h2) (by decide +kernel) rfl trivial ?_
    refine Ev.jp (i := .goto (-88)) (len := 3) (pc2 := 2) (by decide +kernel) rfl ?_
    refine Ev.wk (L2 := [(2, v0), (2, v1), (0, v2), (0, w32 (v3 + 1)), (9, 0), (9, 0), (9, 0)]) (wkL_of ⟨Or.inl rfl, ⟨Or.inl rfl, ⟨Or.inl rfl, ⟨Or.inl rfl, ⟨Or.inr rfl, ⟨Or.inr rfl, ⟨Or.inr rfl, trivial⟩⟩⟩⟩⟩⟩⟩) ?_
    exact hk2 v0 v1 v2 (w32 (v3 + 1)) h2 _ hx
theorem y_Reader_tellRows_2 {sc : AS} {d : Nat} (hd : 3 ≤ d) : ∀ (fu : Nat) (v0 : Int) (v1 : Int) (v2 : Int) (v3 : Int) (h : AH) (r : (Int × AH)), Reader_tellRows_2 fu v0 v1 v2 v3 h = some r → Ev sc d 84 2 [(2, v0), (2, v1), (0, v2), (0, v3), (9, 0), (9, 0), (9, 0)] [] h (some (0, r.1)) r.2 := by
  intro fu
  induction fu with
  | zero => intro v0 v1 v2 v3 h r hx; unfold Reader_tellRows_2 at hx; cases hx
  | succ fu ih =>
    intro v0 v1 v2 v3 h r hx
    unfold Reader_tellRows_2 at hx
    refine Ev.blk (is := [.iload_n 3, .sipush 9]) (pc2 := 5) (L2 := [(2, v0), (2, v1), (0, v2), (0, v3), (9, 0), (9, 0), (9, 0)]) (S2 := [(0, 9), (0, v3)]) (h2 := h) (by decide +kernel) rfl trivial ?_
    obtain ⟨ha, hb⟩ := bite hx
    clear hx
    refine Ev.br (i := .if_icmp .ge 88) (len := 3) (a := 8) (b := 93) (by decide +kernel) rfl Iff.rfl (fun hc => ?_) (fun hc => ?_)
    · have hx := ha hc
      clear ha hb hc
      obtain ⟨u1, hg, he, hx⟩ := bgd hx
      refine Ev.blk (is := [.aload_n 0, .getfield 4003]) (pc2 := 12) (L2 := [(2, v0), (2, v1), (0, v2), (0, v3), (9, 0), (9, 0), (9, 0)]) (S2 := [(0, u1)]) (h2 := h) (by decide +kernel) (by subst he; rfl) (by exact hg) ?_
      clear hg he
      refine Ev.blk (is := [.iconst 2]) (pc2 := 13) (L2 := [(2, v0), (2, v1), (0, v2), (0, v3), (9, 0), (9, 0), (9, 0)]) (S2 := [(0, 2), (0, u1)]) (h2 := h) (by decide +kernel) rfl trivial ?_
      obtain ⟨ha, hb⟩ := bite hx
      clear hx
      refine Ev.br (i := .if_icmp .ne 80) (len := 3) (a := 16) (b := 93) (by decide +kernel) rfl Iff.rfl (fun hc => ?_) (fun hc => ?_)
      · have hx := ha hc
        clear ha hb hc
        refine Ev.blk (is := [.aload_n 0, .iconst 2, .sipush 1000000000]) (pc2 := 20) (L2 := [(2, v0), (2, v1), (0, v2), (0, v3), (9, 0), (9, 0), (9, 0)]) (S2 := [(0, 1000000000), (0, 2), (2, v0)]) (h2 := h) (by decide +kernel) rfl trivial ?_
        obtain ⟨_, hg, -, hx⟩ := bgd hx
        obtain ⟨u2, hc, hx⟩ := bca hx
        refine Ev.call (args := [(2, v0), (0, 2), (0, 1000000000)]) (S2 := []) (r1 := (some (0, u2.1))) (h1 := u2.2) (i := .invokevirtual 81) (by decide +kernel) rfl rfl (Nat.le_of_ble_eq_true rfl) (Or.inr (Or.inl ⟨rfl, hg, by decide +kernel⟩)) (x_Reader_tellInt (by omega) hc) ?_
        refine Ev.blk (is := [.istore 4, .iload 4, .iconst (-1)]) (pc2 := 28) (L2 := [(2, v0), (2, v1), (0, v2), (0, v3), (0, u2.1), (9, 0), (9, 0)]) (S2 := [(0, (-1)), (0, u2.1)]) (h2 := u2.2) (by decide +kernel) rfl trivial ?_
        obtain ⟨ha, hb⟩ := bite hx
        clear hx
        refine Ev.br (i := .if_icmp .ne 5) (len := 3) (a := 31) (b := 33) (by decide +kernel) rfl Iff.rfl (fun hc => ?_) (fun hc => ?_)
        · have hx := ha hc
          clear ha hb hc
          refine Ev.blk (is := [.iconst 0]) (pc2 := 32) (L2 := [(2, v0), (2, v1), (0, v2), (0, v3), (0, u2.1), (9, 0), (9, 0)]) (S2 := [(0, 0)]) (h2 := u2.2) (by decide +kernel) rfl trivial ?_
          cases hx
          exact Ev.ret (i := .ireturn) (len := 1) (by decide +kernel) rfl (finOf (t := some .boolean) rfl (bz0))
        · have hx := hb hc
          clear ha hb hc
          refine Ev.blk (is := [.aload_n 0, .iconst 1, .sipush 30]) (pc2 := 37) (L2 := [(2, v0), (2, v1), (0, v2), (0, v3), (0, u2.1), (9, 0), (9, 0)]) (S2 := [(0, 30), (0, 1), (2, v0)]) (h2 := u2.2) (by decide +kernel) rfl trivial ?_
          obtain ⟨_, hg, -, hx⟩ := bgd hx
          obtain ⟨u3, hc, hx⟩ := bca hx
          refine Ev.call (args := [(2, v0), (0, 1), (0, 30)]) (S2 := []) (r1 := (some (0, u3.1))) (h1 := u3.2) (i := .invokevirtual 81) (by decide +kernel) rfl rfl (Nat.le_of_ble_eq_true rfl) (Or.inr (Or.inl ⟨rfl, hg, by decide +kernel⟩)) (x_Reader_tellInt (by omega) hc) ?_
          refine Ev.blk (is := [.istore 5, .iload 5, .iconst (-1)]) (pc2 := 45) (L2 := [(2, v0), (2, v1), (0, v2), (0, v3), (0, u2.1), (0, u3.1), (9, 0)]) (S2 := [(0, (-1)), (0, u3.1)]) (h2 := u3.2) (by decide +kernel) rfl trivial ?_
          obtain ⟨ha, hb⟩ := bite hx
          clear hx
          refine Ev.br (i := .if_icmp .ne 5) (len := 3) (a := 48) (b := 50) (by decide +kernel) rfl Iff.rfl (fun hc => ?_) (fun hc => ?_)
          · have hx := ha hc
            clear ha hb hc
            refine Ev.blk (is := [.iconst 0]) (pc2 := 49) (L2 := [(2, v0), (2, v1), (0, v2), (0, v3), (0, u2.1), (0, u3.1), (9, 0)]) (S2 := [(0, 0)]) (h2 := u3.2) (by decide +kernel) rfl trivial ?_
            cases hx
            exact Ev.ret (i := .ireturn) (len := 1) (by decide +kernel) rfl (finOf (t := some .boolean) rfl (bz0))
          · have hx := hb hc
            clear ha hb hc
            refine Ev.blk (is := [.iload_n 2, .iconst (-1)]) (pc2 := 52) (L2 := [(2, v0), (2, v1), (0, v2), (0, v3), (0, u2.1), (0, u3.1), (9, 0)]) (S2 := [(0, (-1)), (0, v2)]) (h2 := u3.2) (by decide +kernel) rfl trivial ?_
            obtain ⟨ha, hb⟩ := bite hx
            clear hx
            refine Ev.br (i := .if_icmp .ne 14) (len := 3) (a := 55) (b := 66) (by decide +kernel) rfl Iff.rfl (fun hc => ?_) (fun hc => ?_)
            · have hx := ha hc
              clear ha hb hc
              refine Ev.blk (is := [.aload_n 0, .iconst 2, .sipush 999]) (pc2 := 60) (L2 := [(2, v0), (2, v1), (0, v2), (0, v3), (0, u2.1), (0, u3.1), (9, 0)]) (S2 := [(0, 999), (0, 2), (2, v0)]) (h2 := u3.2) (by decide +kernel) rfl trivial ?_
              obtain ⟨_, hg, -, hx⟩ := bgd hx
              obtain ⟨u4, hc, hx⟩ := bca hx
              refine Ev.call (args := [(2, v0), (0, 2), (0, 999)]) (S2 := []) (r1 := (some (0, u4.1))) (h1 := u4.2) (i := .invokevirtual 81) (by decide +kernel) rfl rfl (Nat.le_of_ble_eq_true rfl) (Or.inr (Or.inl ⟨rfl, hg, by decide +kernel⟩)) (x_Reader_tellInt (by omega) hc) ?_
              refine Ev.jp (i := .goto 4) (len := 3) (pc2 := 67) (by decide +kernel) rfl ?_
              exact y_Reader_tellRows_67 hd ih v0 v1 v2 v3 u2.1 u3.1 u4.1 u4.2 _ hx
            · have hx := hb hc
              clear ha hb hc
              refine Ev.blk (is := [.iload_n 2]) (pc2 := 67) (L2 := [(2, v0), (2, v1), (0, v2), (0, v3), (0, u2.1), (0, u3.1), (9, 0)]) (S2 := [(0, v2)]) (h2 := u3.2) (by decide +kernel) rfl trivial ?_
              exact y_Reader_tellRows_67 hd ih v0 v1 v2 v3 u2.1 u3.1 v2 u3.2 _ hx
      · have hx := hb hc
        clear ha hb hc
        obtain ⟨u5, hg, he, hx⟩ := bgd hx
        refine Ev.blk (is := [.aload_n 0, .getfield 4003]) (pc2 := 97) (L2 := [(2, v0), (2, v1), (0, v2), (0, v3), (9, 0), (9, 0), (9, 0)]) (S2 := [(0, u5)]) (h2 := h) (by decide +kernel) (by subst he; rfl) (by exact hg) ?_
        clear hg he
        refine Ev.blk (is := [.iconst 2]) (pc2 := 98) (L2 := [(2, v0), (2, v1), (0, v2), (0, v3), (9, 0), (9, 0), (9, 0)]) (S2 := [(0, 2), (0, u5)]) (h2 := h) (by decide +kernel) rfl trivial ?_
        obtain ⟨ha, hb⟩ := bite hx
        clear hx
        refine Ev.br (i := .if_icmp .eq 7) (len := 3) (a := 105) (b := 101) (by decide +kernel) rfl Iff.rfl (fun hc => ?_) (fun hc => ?_)
        · have hx := ha hc
          clear ha hb hc
          refine Ev.blk (is := [.iconst 0]) (pc2 := 106) (L2 := [(2, v0), (2, v1), (0, v2), (0, v3), (9, 0), (9, 0), (9, 0)]) (S2 := [(0, 0)]) (h2 := h) (by decide +kernel) rfl trivial ?_
          cases hx
          exact Ev.ret (i := .ireturn) (len := 1) (by decide +kernel) rfl (finOf (t := some .boolean) rfl (bz0))
        · have hx := hb hc
          clear ha hb hc
          refine Ev.blk (is := [.iconst 1]) (pc2 := 102) (L2 := [(2, v0), (2, v1), (0, v2), (0, v3), (9, 0), (9, 0), (9, 0)]) (S2 := [(0, 1)]) (h2 := h) (by decide +kernel) rfl trivial ?_
          refine Ev.jp (i := .goto 4) (len := 3) (pc2 := 106) (by decide +kernel) rfl ?_
          cases hx
          exact Ev.ret (i := .ireturn) (len := 1) (by decide +kernel) rfl (finOf (t := some .boolean) rfl (bz1))
    · have hx := hb hc
      clear ha hb hc
      obtain ⟨u6, hg, he, hx⟩ := bgd hx
      refine Ev.blk (is := [.aload_n 0, .getfield 4003]) (pc2 := 97) (L2 := [(2, v0), (2, v1), (0, v2), (0, v3), (9, 0), (9, 0), (9, 0)]) (S2 := [(0, u6)]) (h2 := h) (by decide +kernel) (by subst he; rfl) (by exact hg) ?_
      clear hg he
      refine Ev.blk (is := [.iconst 2]) (pc2 := 98) (L2 := [(2, v0), (2, v1), (0, v2), (0, v3), (9, 0), (9, 0), (9, 0)]) (S2 := [(0, 2), (0, u6)]) (h2 := h) (by decide +kernel) rfl trivial ?_
      obtain ⟨ha, hb⟩ := bite hx
      clear hx
      refine Ev.br (i := .if_icmp .eq 7) (len := 3) (a := 105) (b := 101) (by decide +kernel) rfl Iff.rfl (fun hc => ?_) (fun hc => ?_)
      · have hx := ha hc
        clear ha hb hc
        refine Ev.blk (is := [.iconst 0]) (pc2 := 106) (L2 := [(2, v0), (2, v1), (0, v2), (0, v3), (9, 0), (9, 0), (9, 0)]) (S2 := [(0, 0)]) (h2 := h) (by decide +kernel) rfl trivial ?_
        cases hx
        exact Ev.ret (i := .ireturn) (len := 1) (by decide +kernel) rfl (finOf (t := some .boolean) rfl (bz0))
      · have hx := hb hc
        clear ha hb hc
        refine Ev.blk (is := [.iconst 1]) (pc2 := 102) (L2 := [(2, v0), (2, v1), (0, v2), (0, v3), (9, 0), (9, 0), (9, 0)]) (S2 := [(0, 1)]) (h2 := h) (by decide +kernel) rfl trivial ?_
        refine Ev.jp (i := .goto 4) (len := 3) (pc2 := 106) (by decide +kernel) rfl ?_
        cases hx
        exact Ev.ret (i := .ireturn) (len := 1) (by decide +kernel) rfl (finOf (t := some .boolean) rfl (bz1))
theorem x_Reader_tellRows {sc : AS} {d : Nat} (hd : 4 ≤ d) {v0 : Int} {v1 : Int} {v2 : Int} {h : AH} {r : (Int × AH)} (hx : Reader_tellRows v0 v1 v2 h = some r) : Runs sc d 84 [(2, v0), (2, v1), (0, v2)] h (some (0, r.1)) r.2 := by
  obtain ⟨d, rfl⟩ : ∃ e, d = e + 1 := ⟨d - 1, by omega⟩
  have hd : 3 ≤ d := by omega
  unfold Reader_tellRows at hx
  refine ⟨⟨aM_84, rfl, Nat.le_of_ble_eq_true rfl⟩, ?_⟩
  show Ev sc d 84 0 [(2, v0), (2, v1), (0, v2), (9, 0), (9, 0), (9, 0), (9, 0)] [] h (some (0, r.1)) r.2
  refine Ev.blk (is := [.iconst 0, .istore_n 3]) (pc2 := 2) (L2 := [(2, v0), (2, v1), (0, v2), (0, 0), (9, 0), (9, 0), (9, 0)]) (S2 := []) (h2 := h) (by decide +kernel) rfl trivial ?_
  exact y_Reader_tellRows_2 hd FU v0 v1 v2 0 h _ hx
theorem x_Reader_tellPratt {sc : AS} {d : Nat} (hd : 7 ≤ d) {v0 : Int} {h : AH} {r : (Int × AH)} (hx : Reader_tellPratt v0 h = some r) : Runs sc d 82 [(2, v0)] h (some (0, r.1)) r.2 := by
  obtain ⟨d, rfl⟩ : ∃ e, d = e + 1 := ⟨d - 1, by omega⟩
  have hd : 6 ≤ d := by omega
  unfold Reader_tellPratt at hx
  refine ⟨⟨aM_82, rfl, Nat.le_of_ble_eq_true rfl⟩, ?_⟩
  show Ev sc d 82 0 [(2, v0), (9, 0)] [] h (some (0, r.1)) r.2
  refine Ev.blk (is := [.aload_n 0, .ldc 5]) (pc2 := 3) (L2 := [(2, v0), (9, 0)]) (S2 := [(3, 5), (2, v0)]) (h2 := h) (by decide +kernel) rfl trivial ?_
  obtain ⟨_, hg, -, hx⟩ := bgd hx
  obtain ⟨u1, hc, hx⟩ := bca hx
  refine Ev.call (args := [(2, v0), (3, 5)]) (S2 := []) (r1 := (some (0, u1.1))) (h1 := u1.2) (i := .invokevirtual 83) (by decide +kernel) rfl rfl (Nat.le_of_ble_eq_true rfl) (Or.inr (Or.inl ⟨rfl, hg, by decide +kernel⟩)) (x_Reader_tellWord (by omega) hc) ?_
  obtain ⟨ha, hb⟩ := bite hx
  clear hx
  refine Ev.br (i := .ifCond .ne 5) (len := 3) (a := 9) (b := 11) (by decide +kernel) rfl Iff.rfl (fun hc => ?_) (fun hc => ?_)
  · have hx := ha hc
    clear ha hb hc
    refine Ev.blk (is := [.iconst 0]) (pc2 := 10) (L2 := [(2, v0), (9, 0)]) (S2 := [(0, 0)]) (h2 := u1.2) (by decide +kernel) rfl trivial ?_
    cases hx
    exact Ev.ret (i := .ireturn) (len := 1) (by decide +kernel) rfl (finOf (t := some .boolean) rfl (bz0))
  · have hx := hb hc
    clear ha hb hc
    refine Ev.blk (is := [.aload_n 0, .iconst 2, .sipush 999]) (pc2 := 16) (L2 := [(2, v0), (9, 0)]) (S2 := [(0, 999), (0, 2), (2, v0)]) (h2 := u1.2) (by decide +kernel) rfl trivial ?_
    obtain ⟨_, hg, -, hx⟩ := bgd hx
    obtain ⟨u2, hc, hx⟩ := bca hx
    refine Ev.call (args := [(2, v0), (0, 2), (0, 999)]) (S2 := []) (r1 := (some (0, u2.1))) (h1 := u2.2) (i := .invokevirtual 81) (by decide +kernel) rfl rfl (Nat.le_of_ble_eq_true rfl) (Or.inr (Or.inl ⟨rfl, hg, by decide +kernel⟩)) (x_Reader_tellInt (by omega) hc) ?_
    refine Ev.blk (is := [.istore_n 1, .iload_n 1, .iconst (-1)]) (pc2 := 22) (L2 := [(2, v0), (0, u2.1)]) (S2 := [(0, (-1)), (0, u2.1)]) (h2 := u2.2) (by decide +kernel) rfl trivial ?_
    obtain ⟨ha, hb⟩ := bite hx
    clear hx
    refine Ev.br (i := .if_icmp .eq 31) (len := 3) (a := 53) (b := 25) (by decide +kernel) rfl Iff.rfl (fun hc => ?_) (fun hc => ?_)
    · have hx := ha hc
      clear ha hb hc
      refine Ev.blk (is := [.iconst 0]) (pc2 := 54) (L2 := [(2, v0), (0, u2.1)]) (S2 := [(0, 0)]) (h2 := u2.2) (by decide +kernel) rfl trivial ?_
      cases hx
      exact Ev.ret (i := .ireturn) (len := 1) (by decide +kernel) rfl (finOf (t := some .boolean) rfl (bz0))
    · have hx := hb hc
      clear ha hb hc
      refine Ev.blk (is := [.aload_n 0, .ldc 6]) (pc2 := 28) (L2 := [(2, v0), (0, u2.1)]) (S2 := [(3, 6), (2, v0)]) (h2 := u2.2) (by decide +kernel) rfl trivial ?_
      obtain ⟨_, hg, -, hx⟩ := bgd hx
      obtain ⟨u3, hc, hx⟩ := bca hx
      refine Ev.call (args := [(2, v0), (3, 6)]) (S2 := []) (r1 := (some (0, u3.1))) (h1 := u3.2) (i := .invokevirtual 83) (by decide +kernel) rfl rfl (Nat.le_of_ble_eq_true rfl) (Or.inr (Or.inl ⟨rfl, hg, by decide +kernel⟩)) (x_Reader_tellWord (by omega) hc) ?_
      obtain ⟨ha, hb⟩ := bite hx
      clear hx
      refine Ev.br (i := .ifCond .eq 22) (len := 3) (a := 53) (b := 34) (by decide +kernel) rfl Iff.rfl (fun hc => ?_) (fun hc => ?_)
      · have hx := ha hc
        clear ha hb hc
        refine Ev.blk (is := [.iconst 0]) (pc2 := 54) (L2 := [(2, v0), (0, u2.1)]) (S2 := [(0, 0)]) (h2 := u3.2) (by decide +kernel) rfl trivial ?_
        cases hx
        exact Ev.ret (i := .ireturn) (len := 1) (by decide +kernel) rfl (finOf (t := some .boolean) rfl (bz0))
      · have hx := hb hc
        clear ha hb hc
        obtain ⟨u4, hg, he, hx⟩ := bgd hx
        refine Ev.blk (is := [.aload_n 0, .aload_n 0, .getfield 4202]) (pc2 := 39) (L2 := [(2, v0), (0, u2.1)]) (S2 := [(2, u4), (2, v0)]) (h2 := u3.2) (by decide +kernel) (by subst he; rfl) (by exact hg) ?_
        clear hg he
        obtain ⟨u5, hg, he, hx⟩ := bgd hx
        refine Ev.blk (is := [.getfield 3200]) (pc2 := 42) (L2 := [(2, v0), (0, u2.1)]) (S2 := [(2, u5), (2, v0)]) (h2 := u3.2) (by decide +kernel) (by subst he; rfl) (by exact hg) ?_
        clear hg he
        refine Ev.blk (is := [.iload_n 1]) (pc2 := 43) (L2 := [(2, v0), (0, u2.1)]) (S2 := [(0, u2.1), (2, u5), (2, v0)]) (h2 := u3.2) (by decide +kernel) rfl trivial ?_
        obtain ⟨_, hg, -, hx⟩ := bgd hx
        obtain ⟨u6, hc, hx⟩ := bca hx
        refine Ev.call (args := [(2, v0), (2, u5), (0, u2.1)]) (S2 := []) (r1 := (some (0, u6.1))) (h1 := u6.2) (i := .invokevirtual 84) (by decide +kernel) rfl rfl (Nat.le_of_ble_eq_true rfl) (Or.inr (Or.inl ⟨rfl, hg, by decide +kernel⟩)) (x_Reader_tellRows (by omega) hc) ?_
        obtain ⟨ha, hb⟩ := bite hx
        clear hx
        refine Ev.br (i := .ifCond .eq 7) (len := 3) (a := 53) (b := 49) (by decide +kernel) rfl Iff.rfl (fun hc => ?_) (fun hc => ?_)
        · have hx := ha hc
          clear ha hb hc
          refine Ev.blk (is := [.iconst 0]) (pc2 := 54) (L2 := [(2, v0), (0, u2.1)]) (S2 := [(0, 0)]) (h2 := u6.2) (by decide +kernel) rfl trivial ?_
          cases hx
          exact Ev.ret (i := .ireturn) (len := 1) (by decide +kernel) rfl (finOf (t := some .boolean) rfl (bz0))
        · have hx := hb hc
          clear ha hb hc
          refine Ev.blk (is := [.iconst 1]) (pc2 := 50) (L2 := [(2, v0), (0, u2.1)]) (S2 := [(0, 1)]) (h2 := u6.2) (by decide +kernel) rfl trivial ?_
          refine Ev.jp (i := .goto 4) (len := 3) (pc2 := 54) (by decide +kernel) rfl ?_
          cases hx
          exact Ev.ret (i := .ireturn) (len := 1) (by decide +kernel) rfl (finOf (t := some .boolean) rfl (bz1))
theorem x_Reader_tellEnd {sc : AS} {d : Nat} (hd : 3 ≤ d) {v0 : Int} {h : AH} {r : (Int × AH)} (hx : Reader_tellEnd v0 h = some r) : Runs sc d 85 [(2, v0)] h (some (0, r.1)) r.2 := by
  obtain ⟨d, rfl⟩ : ∃ e, d = e + 1 := ⟨d - 1, by omega⟩
  have hd : 2 ≤ d := by omega
  unfold Reader_tellEnd at hx
  refine ⟨⟨aM_85, rfl, Nat.le_of_ble_eq_true rfl⟩, ?_⟩
  show Ev sc d 85 0 [(2, v0)] [] h (some (0, r.1)) r.2
  obtain ⟨u1, hg, he, hx⟩ := bgd hx
  refine Ev.blk (is := [.aload_n 0, .getfield 4003]) (pc2 := 4) (L2 := [(2, v0)]) (S2 := [(0, u1)]) (h2 := h) (by decide +kernel) (by subst he; rfl) (by exact hg) ?_
  clear hg he
  refine Ev.blk (is := [.iconst 3]) (pc2 := 5) (L2 := [(2, v0)]) (S2 := [(0, 3), (0, u1)]) (h2 := h) (by decide +kernel) rfl trivial ?_
  obtain ⟨ha, hb⟩ := bite hx
  clear hx
  refine Ev.br (i := .if_icmp .ne 34) (len := 3) (a := 8) (b := 39) (by decide +kernel) rfl Iff.rfl (fun hc => ?_) (fun hc => ?_)
  · have hx := ha hc
    clear ha hb hc
    obtain ⟨u2, hg, he, hx⟩ := bgd hx
    refine Ev.blk (is := [.aload_n 0, .getfield 4004]) (pc2 := 12) (L2 := [(2, v0)]) (S2 := [(0, u2)]) (h2 := h) (by decide +kernel) (by subst he; rfl) (by exact hg) ?_
    clear hg he
    obtain ⟨u3, hg, he, hx⟩ := bgd hx
    refine Ev.blk (is := [.aload_n 0, .getfield 4200]) (pc2 := 16) (L2 := [(2, v0)]) (S2 := [(2, u3), (0, u2)]) (h2 := h) (by decide +kernel) (by subst he; rfl) (by exact hg) ?_
    clear hg he
    obtain ⟨u4, hg, he, hx⟩ := bgd hx
    refine Ev.blk (is := [.getfield 7001]) (pc2 := 19) (L2 := [(2, v0)]) (S2 := [(0, u4), (0, u2)]) (h2 := h) (by decide +kernel) (by subst he; rfl) (by exact hg) ?_
    clear hg he
    obtain ⟨ha, hb⟩ := bite hx
    clear hx
    refine Ev.br (i := .if_icmp .ge 20) (len := 3) (a := 22) (b := 39) (by decide +kernel) rfl Iff.rfl (fun hc => ?_) (fun hc => ?_)
    · have hx := ha hc
      clear ha hb hc
      obtain ⟨u5, hg, he, hx⟩ := bgd hx
      refine Ev.blk (is := [.aload_n 0, .getfield 4200]) (pc2 := 26) (L2 := [(2, v0)]) (S2 := [(2, u5)]) (h2 := h) (by decide +kernel) (by subst he; rfl) (by exact hg) ?_
      clear hg he
      obtain ⟨u6, hg, he, hx⟩ := bgd hx
      refine Ev.blk (is := [.getfield 7200]) (pc2 := 29) (L2 := [(2, v0)]) (S2 := [(2, u6)]) (h2 := h) (by decide +kernel) (by subst he; rfl) (by exact hg) ?_
      clear hg he
      obtain ⟨u7, hg, he, hx⟩ := bgd hx
      refine Ev.blk (is := [.aload_n 0, .getfield 4004]) (pc2 := 33) (L2 := [(2, v0)]) (S2 := [(0, u7), (2, u6)]) (h2 := h) (by decide +kernel) (by subst he; rfl) (by exact hg) ?_
      clear hg he
      obtain ⟨u8, hg, he, hx⟩ := bgd hx
      refine Ev.blk (is := [.caload]) (pc2 := 34) (L2 := [(2, v0)]) (S2 := [(0, u8)]) (h2 := h) (by decide +kernel) (by subst he; rfl) (by exact hg) ?_
      clear hg he
      refine Ev.blk (is := [.sipush 59]) (pc2 := 36) (L2 := [(2, v0)]) (S2 := [(0, 59), (0, u8)]) (h2 := h) (by decide +kernel) rfl trivial ?_
      obtain ⟨ha, hb⟩ := bite hx
      clear hx
      refine Ev.br (i := .if_icmp .eq 5) (len := 3) (a := 41) (b := 39) (by decide +kernel) rfl Iff.rfl (fun hc => ?_) (fun hc => ?_)
      · have hx := ha hc
        clear ha hb hc
        refine Ev.blk (is := [.aload_n 0]) (pc2 := 42) (L2 := [(2, v0)]) (S2 := [(2, v0)]) (h2 := h) (by decide +kernel) rfl trivial ?_
        obtain ⟨_, hg, -, hx⟩ := bgd hx
        obtain ⟨h10, hc, hx⟩ := bca hx
        refine Ev.call (args := [(2, v0)]) (S2 := []) (r1 := none) (h1 := h10) (i := .invokevirtual 68) (by decide +kernel) rfl rfl (Nat.le_of_ble_eq_true rfl) (Or.inr (Or.inl ⟨rfl, hg, by decide +kernel⟩)) (x_Reader_advance (by omega) hc) ?_
        refine Ev.blk (is := [.iconst 1]) (pc2 := 46) (L2 := [(2, v0)]) (S2 := [(0, 1)]) (h2 := h10) (by decide +kernel) rfl trivial ?_
        cases hx
        exact Ev.ret (i := .ireturn) (len := 1) (by decide +kernel) rfl (finOf (t := some .boolean) rfl (bz1))
      · have hx := hb hc
        clear ha hb hc
        refine Ev.blk (is := [.iconst 0]) (pc2 := 40) (L2 := [(2, v0)]) (S2 := [(0, 0)]) (h2 := h) (by decide +kernel) rfl trivial ?_
        cases hx
        exact Ev.ret (i := .ireturn) (len := 1) (by decide +kernel) rfl (finOf (t := some .boolean) rfl (bz0))
    · have hx := hb hc
      clear ha hb hc
      refine Ev.blk (is := [.iconst 0]) (pc2 := 40) (L2 := [(2, v0)]) (S2 := [(0, 0)]) (h2 := h) (by decide +kernel) rfl trivial ?_
      cases hx
      exact Ev.ret (i := .ireturn) (len := 1) (by decide +kernel) rfl (finOf (t := some .boolean) rfl (bz0))
  · have hx := hb hc
    clear ha hb hc
    refine Ev.blk (is := [.iconst 0]) (pc2 := 40) (L2 := [(2, v0)]) (S2 := [(0, 0)]) (h2 := h) (by decide +kernel) rfl trivial ?_
    cases hx
    exact Ev.ret (i := .ireturn) (len := 1) (by decide +kernel) rfl (finOf (t := some .boolean) rfl (bz0))
theorem x_Reader_tellPQ {sc : AS} {d : Nat} (hd : 7 ≤ d) {v0 : Int} {h : AH} {r : (Int × AH)} (hx : Reader_tellPQ v0 h = some r) : Runs sc d 86 [(2, v0)] h (some (0, r.1)) r.2 := by
  obtain ⟨d, rfl⟩ : ∃ e, d = e + 1 := ⟨d - 1, by omega⟩
  have hd : 6 ≤ d := by omega
  unfold Reader_tellPQ at hx
  refine ⟨⟨aM_86, rfl, Nat.le_of_ble_eq_true rfl⟩, ?_⟩
  show Ev sc d 86 0 [(2, v0)] [] h (some (0, r.1)) r.2
  refine Ev.blk (is := [.aload_n 0, .ldc 7]) (pc2 := 3) (L2 := [(2, v0)]) (S2 := [(3, 7), (2, v0)]) (h2 := h) (by decide +kernel) rfl trivial ?_
  obtain ⟨_, hg, -, hx⟩ := bgd hx
  obtain ⟨u1, hc, hx⟩ := bca hx
  refine Ev.call (args := [(2, v0), (3, 7)]) (S2 := []) (r1 := (some (0, u1.1))) (h1 := u1.2) (i := .invokevirtual 83) (by decide +kernel) rfl rfl (Nat.le_of_ble_eq_true rfl) (Or.inr (Or.inl ⟨rfl, hg, by decide +kernel⟩)) (x_Reader_tellWord (by omega) hc) ?_
  obtain ⟨ha, hb⟩ := bite hx
  clear hx
  refine Ev.br (i := .ifCond .ne 5) (len := 3) (a := 9) (b := 11) (by decide +kernel) rfl Iff.rfl (fun hc => ?_) (fun hc => ?_)
  · have hx := ha hc
    clear ha hb hc
    refine Ev.blk (is := [.iconst 0]) (pc2 := 10) (L2 := [(2, v0)]) (S2 := [(0, 0)]) (h2 := u1.2) (by decide +kernel) rfl trivial ?_
    cases hx
    exact Ev.ret (i := .ireturn) (len := 1) (by decide +kernel) rfl (finOf (t := some .boolean) rfl (bz0))
  · have hx := hb hc
    clear ha hb hc
    obtain ⟨u2, hg, he, hx⟩ := bgd hx
    refine Ev.blk (is := [.aload_n 0, .getfield 4202]) (pc2 := 15) (L2 := [(2, v0)]) (S2 := [(2, u2)]) (h2 := u1.2) (by decide +kernel) (by subst he; rfl) (by exact hg) ?_
    clear hg he
    refine Ev.blk (is := [.aload_n 0, .iconst 1, .sipush 99]) (pc2 := 19) (L2 := [(2, v0)]) (S2 := [(0, 99), (0, 1), (2, v0), (2, u2)]) (h2 := u1.2) (by decide +kernel) rfl trivial ?_
    obtain ⟨_, hg, -, hx⟩ := bgd hx
    obtain ⟨u3, hc, hx⟩ := bca hx
    refine Ev.call (args := [(2, v0), (0, 1), (0, 99)]) (S2 := [(2, u2)]) (r1 := (some (0, u3.1))) (h1 := u3.2) (i := .invokevirtual 81) (by decide +kernel) rfl rfl (Nat.le_of_ble_eq_true rfl) (Or.inr (Or.inl ⟨rfl, hg, by decide +kernel⟩)) (x_Reader_tellInt (by omega) hc) ?_
    obtain ⟨h4, hg, he, hx⟩ := bgd hx
    refine Ev.blk (is := [.putfield 3004]) (pc2 := 25) (L2 := [(2, v0)]) (S2 := []) (h2 := h4) (by decide +kernel) (by subst he; rfl) (by exact hg) ?_
    clear hg he
    obtain ⟨u5, hg, he, hx⟩ := bgd hx
    refine Ev.blk (is := [.aload_n 0, .getfield 4202]) (pc2 := 29) (L2 := [(2, v0)]) (S2 := [(2, u5)]) (h2 := h4) (by decide +kernel) (by subst he; rfl) (by exact hg) ?_
    clear hg he
    obtain ⟨u6, hg, he, hx⟩ := bgd hx
    refine Ev.blk (is := [.getfield 3004]) (pc2 := 32) (L2 := [(2, v0)]) (S2 := [(0, u6)]) (h2 := h4) (by decide +kernel) (by subst he; rfl) (by exact hg) ?_
    clear hg he
    refine Ev.blk (is := [.iconst (-1)]) (pc2 := 33) (L2 := [(2, v0)]) (S2 := [(0, (-1)), (0, u6)]) (h2 := h4) (by decide +kernel) rfl trivial ?_
    obtain ⟨ha, hb⟩ := bite hx
    clear hx
    refine Ev.br (i := .if_icmp .ne 5) (len := 3) (a := 36) (b := 38) (by decide +kernel) rfl Iff.rfl (fun hc => ?_) (fun hc => ?_)
    · have hx := ha hc
      clear ha hb hc
      refine Ev.blk (is := [.iconst 0]) (pc2 := 37) (L2 := [(2, v0)]) (S2 := [(0, 0)]) (h2 := h4) (by decide +kernel) rfl trivial ?_
      cases hx
      exact Ev.ret (i := .ireturn) (len := 1) (by decide +kernel) rfl (finOf (t := some .boolean) rfl (bz0))
    · have hx := hb hc
      clear ha hb hc
      obtain ⟨u7, hg, he, hx⟩ := bgd hx
      refine Ev.blk (is := [.aload_n 0, .getfield 4202]) (pc2 := 42) (L2 := [(2, v0)]) (S2 := [(2, u7)]) (h2 := h4) (by decide +kernel) (by subst he; rfl) (by exact hg) ?_
      clear hg he
      refine Ev.blk (is := [.aload_n 0, .iconst 1, .sipush 99]) (pc2 := 46) (L2 := [(2, v0)]) (S2 := [(0, 99), (0, 1), (2, v0), (2, u7)]) (h2 := h4) (by decide +kernel) rfl trivial ?_
      obtain ⟨_, hg, -, hx⟩ := bgd hx
      obtain ⟨u8, hc, hx⟩ := bca hx
      refine Ev.call (args := [(2, v0), (0, 1), (0, 99)]) (S2 := [(2, u7)]) (r1 := (some (0, u8.1))) (h1 := u8.2) (i := .invokevirtual 81) (by decide +kernel) rfl rfl (Nat.le_of_ble_eq_true rfl) (Or.inr (Or.inl ⟨rfl, hg, by decide +kernel⟩)) (x_Reader_tellInt (by omega) hc) ?_
      obtain ⟨h9, hg, he, hx⟩ := bgd hx
      refine Ev.blk (is := [.putfield 3005]) (pc2 := 52) (L2 := [(2, v0)]) (S2 := []) (h2 := h9) (by decide +kernel) (by subst he; rfl) (by exact hg) ?_
      clear hg he
      obtain ⟨u10, hg, he, hx⟩ := bgd hx
      refine Ev.blk (is := [.aload_n 0, .getfield 4202]) (pc2 := 56) (L2 := [(2, v0)]) (S2 := [(2, u10)]) (h2 := h9) (by decide +kernel) (by subst he; rfl) (by exact hg) ?_
      clear hg he
      obtain ⟨u11, hg, he, hx⟩ := bgd hx
      refine Ev.blk (is := [.getfield 3005]) (pc2 := 59) (L2 := [(2, v0)]) (S2 := [(0, u11)]) (h2 := h9) (by decide +kernel) (by subst he; rfl) (by exact hg) ?_
      clear hg he
      refine Ev.blk (is := [.iconst (-1)]) (pc2 := 60) (L2 := [(2, v0)]) (S2 := [(0, (-1)), (0, u11)]) (h2 := h9) (by decide +kernel) rfl trivial ?_
      obtain ⟨ha, hb⟩ := bite hx
      clear hx
      refine Ev.br (i := .if_icmp .eq 7) (len := 3) (a := 67) (b := 63) (by decide +kernel) rfl Iff.rfl (fun hc => ?_) (fun hc => ?_)
      · have hx := ha hc
        clear ha hb hc
        refine Ev.blk (is := [.iconst 0]) (pc2 := 68) (L2 := [(2, v0)]) (S2 := [(0, 0)]) (h2 := h9) (by decide +kernel) rfl trivial ?_
        cases hx
        exact Ev.ret (i := .ireturn) (len := 1) (by decide +kernel) rfl (finOf (t := some .boolean) rfl (bz0))
      · have hx := hb hc
        clear ha hb hc
        refine Ev.blk (is := [.iconst 1]) (pc2 := 64) (L2 := [(2, v0)]) (S2 := [(0, 1)]) (h2 := h9) (by decide +kernel) rfl trivial ?_
        refine Ev.jp (i := .goto 4) (len := 3) (pc2 := 68) (by decide +kernel) rfl ?_
        cases hx
        exact Ev.ret (i := .ireturn) (len := 1) (by decide +kernel) rfl (finOf (t := some .boolean) rfl (bz1))
theorem x_Reader_tellLine {sc : AS} {d : Nat} (hd : 8 ≤ d) {v0 : Int} {h : AH} {r : (Int × AH)} (hx : Reader_tellLine v0 h = some r) : Runs sc d 70 [(2, v0)] h (some (0, r.1)) r.2 := by
  obtain ⟨d, rfl⟩ : ∃ e, d = e + 1 := ⟨d - 1, by omega⟩
  have hd : 7 ≤ d := by omega
  unfold Reader_tellLine at hx
  refine ⟨⟨aM_70, rfl, Nat.le_of_ble_eq_true rfl⟩, ?_⟩
  show Ev sc d 70 0 [(2, v0), (9, 0), (9, 0)] [] h (some (0, r.1)) r.2
  refine Ev.blk (is := [.aload_n 0]) (pc2 := 1) (L2 := [(2, v0), (9, 0), (9, 0)]) (S2 := [(2, v0)]) (h2 := h) (by decide +kernel) rfl trivial ?_
  obtain ⟨_, hg, -, hx⟩ := bgd hx
  obtain ⟨u1, hc, hx⟩ := bca hx
  refine Ev.call (args := [(2, v0)]) (S2 := []) (r1 := (some (0, u1))) (h1 := h) (i := .invokevirtual 71) (by decide +kernel) rfl rfl (Nat.le_of_ble_eq_true rfl) (Or.inr (Or.inl ⟨rfl, hg, by decide +kernel⟩)) (x_Reader_sortTold (by omega) hc) ?_
  refine Ev.blk (is := [.istore_n 1, .iload_n 1, .iconst (-1)]) (pc2 := 7) (L2 := [(2, v0), (0, u1), (9, 0)]) (S2 := [(0, (-1)), (0, u1)]) (h2 := h) (by decide +kernel) rfl trivial ?_
  obtain ⟨ha, hb⟩ := bite hx
  clear hx
  refine Ev.br (i := .if_icmp .ne 5) (len := 3) (a := 10) (b := 12) (by decide +kernel) rfl Iff.rfl (fun hc => ?_) (fun hc => ?_)
  · have hx := ha hc
    clear ha hb hc
    refine Ev.blk (is := [.iconst 0]) (pc2 := 11) (L2 := [(2, v0), (0, u1), (9, 0)]) (S2 := [(0, 0)]) (h2 := h) (by decide +kernel) rfl trivial ?_
    cases hx
    exact Ev.ret (i := .ireturn) (len := 1) (by decide +kernel) rfl (finOf (t := some .boolean) rfl (bz0))
  · have hx := hb hc
    clear ha hb hc
    refine Ev.blk (is := [.aload_n 0]) (pc2 := 13) (L2 := [(2, v0), (0, u1), (9, 0)]) (S2 := [(2, v0)]) (h2 := h) (by decide +kernel) rfl trivial ?_
    obtain ⟨_, hg, -, hx⟩ := bgd hx
    obtain ⟨h3, hc, hx⟩ := bca hx
    refine Ev.call (args := [(2, v0)]) (S2 := []) (r1 := none) (h1 := h3) (i := .invokevirtual 68) (by decide +kernel) rfl rfl (Nat.le_of_ble_eq_true rfl) (Or.inr (Or.inl ⟨rfl, hg, by decide +kernel⟩)) (x_Reader_advance (by omega) hc) ?_
    refine Ev.blk (is := [.aload_n 0, .iconst 2, .sipush 1000000000]) (pc2 := 20) (L2 := [(2, v0), (0, u1), (9, 0)]) (S2 := [(0, 1000000000), (0, 2), (2, v0)]) (h2 := h3) (by decide +kernel) rfl trivial ?_
    obtain ⟨_, hg, -, hx⟩ := bgd hx
    obtain ⟨u4, hc, hx⟩ := bca hx
    refine Ev.call (args := [(2, v0), (0, 2), (0, 1000000000)]) (S2 := []) (r1 := (some (0, u4.1))) (h1 := u4.2) (i := .invokevirtual 81) (by decide +kernel) rfl rfl (Nat.le_of_ble_eq_true rfl) (Or.inr (Or.inl ⟨rfl, hg, by decide +kernel⟩)) (x_Reader_tellInt (by omega) hc) ?_
    refine Ev.blk (is := [.istore_n 2, .iload_n 2, .iconst (-1)]) (pc2 := 26) (L2 := [(2, v0), (0, u1), (0, u4.1)]) (S2 := [(0, (-1)), (0, u4.1)]) (h2 := u4.2) (by decide +kernel) rfl trivial ?_
    obtain ⟨ha, hb⟩ := bite hx
    clear hx
    refine Ev.br (i := .if_icmp .ne 5) (len := 3) (a := 29) (b := 31) (by decide +kernel) rfl Iff.rfl (fun hc => ?_) (fun hc => ?_)
    · have hx := ha hc
      clear ha hb hc
      refine Ev.blk (is := [.iconst 0]) (pc2 := 30) (L2 := [(2, v0), (0, u1), (0, u4.1)]) (S2 := [(0, 0)]) (h2 := u4.2) (by decide +kernel) rfl trivial ?_
      cases hx
      exact Ev.ret (i := .ireturn) (len := 1) (by decide +kernel) rfl (finOf (t := some .boolean) rfl (bz0))
    · have hx := hb hc
      clear ha hb hc
      obtain ⟨u5, hg, he, hx⟩ := bgd hx
      refine Ev.blk (is := [.aload_n 0, .getfield 4202]) (pc2 := 35) (L2 := [(2, v0), (0, u1), (0, u4.1)]) (S2 := [(2, u5)]) (h2 := u4.2) (by decide +kernel) (by subst he; rfl) (by exact hg) ?_
      clear hg he
      refine Ev.blk (is := [.iload_n 2, .iload_n 1]) (pc2 := 37) (L2 := [(2, v0), (0, u1), (0, u4.1)]) (S2 := [(0, u1), (0, u4.1), (2, u5)]) (h2 := u4.2) (by decide +kernel) rfl trivial ?_
      obtain ⟨_, hg, -, hx⟩ := bgd hx
      obtain ⟨h7, hc, hx⟩ := bca hx
      refine Ev.call (args := [(2, u5), (0, u4.1), (0, u1)]) (S2 := []) (r1 := none) (h1 := h7) (i := .invokevirtual 19) (by decide +kernel) rfl rfl (Nat.le_of_ble_eq_true rfl) (Or.inr (Or.inl ⟨rfl, hg, by decide +kernel⟩)) (x_Line_begin (by omega) hc) ?_
      refine Ev.blk (is := [.iload_n 1]) (pc2 := 41) (L2 := [(2, v0), (0, u1), (0, u4.1)]) (S2 := [(0, u1)]) (h2 := h7) (by decide +kernel) rfl trivial ?_
      obtain ⟨ha, hb⟩ := bite hx
      clear hx
      by_cases hc0 : u1 = 1
      · have hx := ha hc0
        clear ha hb
        refine Ev.jp (i := .tableswitch 200 1 4 #[31, 51, 88, 132]) (len := 31) (pc2 := 72) (by decide +kernel) (by rw [hc0]; rfl) ?_
        clear hc0
        refine Ev.blk (is := [.aload_n 0]) (pc2 := 73) (L2 := [(2, v0), (0, u1), (0, u4.1)]) (S2 := [(2, v0)]) (h2 := h7) (by decide +kernel) rfl trivial ?_
        obtain ⟨_, hg, -, hx⟩ := bgd hx
        obtain ⟨u8, hc, hx⟩ := bca hx
        refine Ev.call (args := [(2, v0)]) (S2 := []) (r1 := (some (0, u8.1))) (h1 := u8.2) (i := .invokevirtual 82) (by decide +kernel) rfl rfl (Nat.le_of_ble_eq_true rfl) (Or.inr (Or.inl ⟨rfl, hg, by decide +kernel⟩)) (x_Reader_tellPratt (by omega) hc) ?_
        obtain ⟨ha, hb⟩ := bite hx
        clear hx
        refine Ev.br (i := .ifCond .eq 14) (len := 3) (a := 90) (b := 79) (by decide +kernel) rfl Iff.rfl (fun hc => ?_) (fun hc => ?_)
        · have hx := ha hc
          clear ha hb hc
          refine Ev.blk (is := [.iconst 0]) (pc2 := 91) (L2 := [(2, v0), (0, u1), (0, u4.1)]) (S2 := [(0, 0)]) (h2 := u8.2) (by decide +kernel) rfl trivial ?_
          cases hx
          exact Ev.ret (i := .ireturn) (len := 1) (by decide +kernel) rfl (finOf (t := some .boolean) rfl (bz0))
        · have hx := hb hc
          clear ha hb hc
          refine Ev.blk (is := [.aload_n 0]) (pc2 := 80) (L2 := [(2, v0), (0, u1), (0, u4.1)]) (S2 := [(2, v0)]) (h2 := u8.2) (by decide +kernel) rfl trivial ?_
          obtain ⟨_, hg, -, hx⟩ := bgd hx
          obtain ⟨u9, hc, hx⟩ := bca hx
          refine Ev.call (args := [(2, v0)]) (S2 := []) (r1 := (some (0, u9.1))) (h1 := u9.2) (i := .invokevirtual 85) (by decide +kernel) rfl rfl (Nat.le_of_ble_eq_true rfl) (Or.inr (Or.inl ⟨rfl, hg, by decide +kernel⟩)) (x_Reader_tellEnd (by omega) hc) ?_
          obtain ⟨ha, hb⟩ := bite hx
          clear hx
          refine Ev.br (i := .ifCond .eq 7) (len := 3) (a := 90) (b := 86) (by decide +kernel) rfl Iff.rfl (fun hc => ?_) (fun hc => ?_)
          · have hx := ha hc
            clear ha hb hc
            refine Ev.blk (is := [.iconst 0]) (pc2 := 91) (L2 := [(2, v0), (0, u1), (0, u4.1)]) (S2 := [(0, 0)]) (h2 := u9.2) (by decide +kernel) rfl trivial ?_
            cases hx
            exact Ev.ret (i := .ireturn) (len := 1) (by decide +kernel) rfl (finOf (t := some .boolean) rfl (bz0))
          · have hx := hb hc
            clear ha hb hc
            refine Ev.blk (is := [.iconst 1]) (pc2 := 87) (L2 := [(2, v0), (0, u1), (0, u4.1)]) (S2 := [(0, 1)]) (h2 := u9.2) (by decide +kernel) rfl trivial ?_
            refine Ev.jp (i := .goto 4) (len := 3) (pc2 := 91) (by decide +kernel) rfl ?_
            cases hx
            exact Ev.ret (i := .ireturn) (len := 1) (by decide +kernel) rfl (finOf (t := some .boolean) rfl (bz1))
      have hx := hb hc0
      clear ha hb
      obtain ⟨ha, hb⟩ := bite hx
      clear hx
      by_cases hc1 : u1 = 2
      · have hx := ha hc1
        clear ha hb
        refine Ev.jp (i := .tableswitch 200 1 4 #[31, 51, 88, 132]) (len := 31) (pc2 := 92) (by decide +kernel) (by rw [hc1]; rfl) ?_
        clear hc1
        refine Ev.blk (is := [.aload_n 0, .ldc 6]) (pc2 := 95) (L2 := [(2, v0), (0, u1), (0, u4.1)]) (S2 := [(3, 6), (2, v0)]) (h2 := h7) (by decide +kernel) rfl trivial ?_
        obtain ⟨_, hg, -, hx⟩ := bgd hx
        obtain ⟨u10, hc, hx⟩ := bca hx
        refine Ev.call (args := [(2, v0), (3, 6)]) (S2 := []) (r1 := (some (0, u10.1))) (h1 := u10.2) (i := .invokevirtual 83) (by decide +kernel) rfl rfl (Nat.le_of_ble_eq_true rfl) (Or.inr (Or.inl ⟨rfl, hg, by decide +kernel⟩)) (x_Reader_tellWord (by omega) hc) ?_
        obtain ⟨ha, hb⟩ := bite hx
        clear hx
        refine Ev.br (i := .ifCond .eq 29) (len := 3) (a := 127) (b := 101) (by decide +kernel) rfl Iff.rfl (fun hc => ?_) (fun hc => ?_)
        · have hx := ha hc
          clear ha hb hc
          refine Ev.blk (is := [.iconst 0]) (pc2 := 128) (L2 := [(2, v0), (0, u1), (0, u4.1)]) (S2 := [(0, 0)]) (h2 := u10.2) (by decide +kernel) rfl trivial ?_
          cases hx
          exact Ev.ret (i := .ireturn) (len := 1) (by decide +kernel) rfl (finOf (t := some .boolean) rfl (bz0))
        · have hx := hb hc
          clear ha hb hc
          obtain ⟨u11, hg, he, hx⟩ := bgd hx
          refine Ev.blk (is := [.aload_n 0, .aload_n 0, .getfield 4202]) (pc2 := 106) (L2 := [(2, v0), (0, u1), (0, u4.1)]) (S2 := [(2, u11), (2, v0)]) (h2 := u10.2) (by decide +kernel) (by subst he; rfl) (by exact hg) ?_
          clear hg he
          obtain ⟨u12, hg, he, hx⟩ := bgd hx
          refine Ev.blk (is := [.getfield 3200]) (pc2 := 109) (L2 := [(2, v0), (0, u1), (0, u4.1)]) (S2 := [(2, u12), (2, v0)]) (h2 := u10.2) (by decide +kernel) (by subst he; rfl) (by exact hg) ?_
          clear hg he
          refine Ev.blk (is := [.iconst (-1)]) (pc2 := 110) (L2 := [(2, v0), (0, u1), (0, u4.1)]) (S2 := [(0, (-1)), (2, u12), (2, v0)]) (h2 := u10.2) (by decide +kernel) rfl trivial ?_
          obtain ⟨_, hg, -, hx⟩ := bgd hx
          obtain ⟨u13, hc, hx⟩ := bca hx
          refine Ev.call (args := [(2, v0), (2, u12), (0, (-1))]) (S2 := []) (r1 := (some (0, u13.1))) (h1 := u13.2) (i := .invokevirtual 84) (by decide +kernel) rfl rfl (Nat.le_of_ble_eq_true rfl) (Or.inr (Or.inl ⟨rfl, hg, by decide +kernel⟩)) (x_Reader_tellRows (by omega) hc) ?_
          obtain ⟨ha, hb⟩ := bite hx
          clear hx
          refine Ev.br (i := .ifCond .eq 14) (len := 3) (a := 127) (b := 116) (by decide +kernel) rfl Iff.rfl (fun hc => ?_) (fun hc => ?_)
          · have hx := ha hc
            clear ha hb hc
            refine Ev.blk (is := [.iconst 0]) (pc2 := 128) (L2 := [(2, v0), (0, u1), (0, u4.1)]) (S2 := [(0, 0)]) (h2 := u13.2) (by decide +kernel) rfl trivial ?_
            cases hx
            exact Ev.ret (i := .ireturn) (len := 1) (by decide +kernel) rfl (finOf (t := some .boolean) rfl (bz0))
          · have hx := hb hc
            clear ha hb hc
            refine Ev.blk (is := [.aload_n 0]) (pc2 := 117) (L2 := [(2, v0), (0, u1), (0, u4.1)]) (S2 := [(2, v0)]) (h2 := u13.2) (by decide +kernel) rfl trivial ?_
            obtain ⟨_, hg, -, hx⟩ := bgd hx
            obtain ⟨u14, hc, hx⟩ := bca hx
            refine Ev.call (args := [(2, v0)]) (S2 := []) (r1 := (some (0, u14.1))) (h1 := u14.2) (i := .invokevirtual 85) (by decide +kernel) rfl rfl (Nat.le_of_ble_eq_true rfl) (Or.inr (Or.inl ⟨rfl, hg, by decide +kernel⟩)) (x_Reader_tellEnd (by omega) hc) ?_
            obtain ⟨ha, hb⟩ := bite hx
            clear hx
            refine Ev.br (i := .ifCond .eq 7) (len := 3) (a := 127) (b := 123) (by decide +kernel) rfl Iff.rfl (fun hc => ?_) (fun hc => ?_)
            · have hx := ha hc
              clear ha hb hc
              refine Ev.blk (is := [.iconst 0]) (pc2 := 128) (L2 := [(2, v0), (0, u1), (0, u4.1)]) (S2 := [(0, 0)]) (h2 := u14.2) (by decide +kernel) rfl trivial ?_
              cases hx
              exact Ev.ret (i := .ireturn) (len := 1) (by decide +kernel) rfl (finOf (t := some .boolean) rfl (bz0))
            · have hx := hb hc
              clear ha hb hc
              refine Ev.blk (is := [.iconst 1]) (pc2 := 124) (L2 := [(2, v0), (0, u1), (0, u4.1)]) (S2 := [(0, 1)]) (h2 := u14.2) (by decide +kernel) rfl trivial ?_
              refine Ev.jp (i := .goto 4) (len := 3) (pc2 := 128) (by decide +kernel) rfl ?_
              cases hx
              exact Ev.ret (i := .ireturn) (len := 1) (by decide +kernel) rfl (finOf (t := some .boolean) rfl (bz1))
      have hx := hb hc1
      clear ha hb
      obtain ⟨ha, hb⟩ := bite hx
      clear hx
      by_cases hc2 : u1 = 3
      · have hx := ha hc2
        clear ha hb
        refine Ev.jp (i := .tableswitch 200 1 4 #[31, 51, 88, 132]) (len := 31) (pc2 := 129) (by decide +kernel) (by rw [hc2]; rfl) ?_
        clear hc2
        refine Ev.blk (is := [.aload_n 0]) (pc2 := 130) (L2 := [(2, v0), (0, u1), (0, u4.1)]) (S2 := [(2, v0)]) (h2 := h7) (by decide +kernel) rfl trivial ?_
        obtain ⟨_, hg, -, hx⟩ := bgd hx
        obtain ⟨u15, hc, hx⟩ := bca hx
        refine Ev.call (args := [(2, v0)]) (S2 := []) (r1 := (some (0, u15.1))) (h1 := u15.2) (i := .invokevirtual 86) (by decide +kernel) rfl rfl (Nat.le_of_ble_eq_true rfl) (Or.inr (Or.inl ⟨rfl, hg, by decide +kernel⟩)) (x_Reader_tellPQ (by omega) hc) ?_
        obtain ⟨ha, hb⟩ := bite hx
        clear hx
        refine Ev.br (i := .ifCond .eq 38) (len := 3) (a := 171) (b := 136) (by decide +kernel) rfl Iff.rfl (fun hc => ?_) (fun hc => ?_)
        · have hx := ha hc
          clear ha hb hc
          refine Ev.blk (is := [.iconst 0]) (pc2 := 172) (L2 := [(2, v0), (0, u1), (0, u4.1)]) (S2 := [(0, 0)]) (h2 := u15.2) (by decide +kernel) rfl trivial ?_
          cases hx
          exact Ev.ret (i := .ireturn) (len := 1) (by decide +kernel) rfl (finOf (t := some .boolean) rfl (bz0))
        · have hx := hb hc
          clear ha hb hc
          refine Ev.blk (is := [.aload_n 0, .ldc 6]) (pc2 := 139) (L2 := [(2, v0), (0, u1), (0, u4.1)]) (S2 := [(3, 6), (2, v0)]) (h2 := u15.2) (by decide +kernel) rfl trivial ?_
          obtain ⟨_, hg, -, hx⟩ := bgd hx
          obtain ⟨u16, hc, hx⟩ := bca hx
          refine Ev.call (args := [(2, v0), (3, 6)]) (S2 := []) (r1 := (some (0, u16.1))) (h1 := u16.2) (i := .invokevirtual 83) (by decide +kernel) rfl rfl (Nat.le_of_ble_eq_true rfl) (Or.inr (Or.inl ⟨rfl, hg, by decide +kernel⟩)) (x_Reader_tellWord (by omega) hc) ?_
          obtain ⟨ha, hb⟩ := bite hx
          clear hx
          refine Ev.br (i := .ifCond .eq 29) (len := 3) (a := 171) (b := 145) (by decide +kernel) rfl Iff.rfl (fun hc => ?_) (fun hc => ?_)
          · have hx := ha hc
            clear ha hb hc
            refine Ev.blk (is := [.iconst 0]) (pc2 := 172) (L2 := [(2, v0), (0, u1), (0, u4.1)]) (S2 := [(0, 0)]) (h2 := u16.2) (by decide +kernel) rfl trivial ?_
            cases hx
            exact Ev.ret (i := .ireturn) (len := 1) (by decide +kernel) rfl (finOf (t := some .boolean) rfl (bz0))
          · have hx := hb hc
            clear ha hb hc
            obtain ⟨u17, hg, he, hx⟩ := bgd hx
            refine Ev.blk (is := [.aload_n 0, .aload_n 0, .getfield 4202]) (pc2 := 150) (L2 := [(2, v0), (0, u1), (0, u4.1)]) (S2 := [(2, u17), (2, v0)]) (h2 := u16.2) (by decide +kernel) (by subst he; rfl) (by exact hg) ?_
            clear hg he
            obtain ⟨u18, hg, he, hx⟩ := bgd hx
            refine Ev.blk (is := [.getfield 3201]) (pc2 := 153) (L2 := [(2, v0), (0, u1), (0, u4.1)]) (S2 := [(2, u18), (2, v0)]) (h2 := u16.2) (by decide +kernel) (by subst he; rfl) (by exact hg) ?_
            clear hg he
            refine Ev.blk (is := [.iconst 0]) (pc2 := 154) (L2 := [(2, v0), (0, u1), (0, u4.1)]) (S2 := [(0, 0), (2, u18), (2, v0)]) (h2 := u16.2) (by decide +kernel) rfl trivial ?_
            obtain ⟨_, hg, -, hx⟩ := bgd hx
            obtain ⟨u19, hc, hx⟩ := bca hx
            refine Ev.call (args := [(2, v0), (2, u18), (0, 0)]) (S2 := []) (r1 := (some (0, u19.1))) (h1 := u19.2) (i := .invokevirtual 84) (by decide +kernel) rfl rfl (Nat.le_of_ble_eq_true rfl) (Or.inr (Or.inl ⟨rfl, hg, by decide +kernel⟩)) (x_Reader_tellRows (by omega) hc) ?_
            obtain ⟨ha, hb⟩ := bite hx
            clear hx
            refine Ev.br (i := .ifCond .eq 14) (len := 3) (a := 171) (b := 160) (by decide +kernel) rfl Iff.rfl (fun hc => ?_) (fun hc => ?_)
            · have hx := ha hc
              clear ha hb hc
              refine Ev.blk (is := [.iconst 0]) (pc2 := 172) (L2 := [(2, v0), (0, u1), (0, u4.1)]) (S2 := [(0, 0)]) (h2 := u19.2) (by decide +kernel) rfl trivial ?_
              cases hx
              exact Ev.ret (i := .ireturn) (len := 1) (by decide +kernel) rfl (finOf (t := some .boolean) rfl (bz0))
            · have hx := hb hc
              clear ha hb hc
              refine Ev.blk (is := [.aload_n 0]) (pc2 := 161) (L2 := [(2, v0), (0, u1), (0, u4.1)]) (S2 := [(2, v0)]) (h2 := u19.2) (by decide +kernel) rfl trivial ?_
              obtain ⟨_, hg, -, hx⟩ := bgd hx
              obtain ⟨u20, hc, hx⟩ := bca hx
              refine Ev.call (args := [(2, v0)]) (S2 := []) (r1 := (some (0, u20.1))) (h1 := u20.2) (i := .invokevirtual 85) (by decide +kernel) rfl rfl (Nat.le_of_ble_eq_true rfl) (Or.inr (Or.inl ⟨rfl, hg, by decide +kernel⟩)) (x_Reader_tellEnd (by omega) hc) ?_
              obtain ⟨ha, hb⟩ := bite hx
              clear hx
              refine Ev.br (i := .ifCond .eq 7) (len := 3) (a := 171) (b := 167) (by decide +kernel) rfl Iff.rfl (fun hc => ?_) (fun hc => ?_)
              · have hx := ha hc
                clear ha hb hc
                refine Ev.blk (is := [.iconst 0]) (pc2 := 172) (L2 := [(2, v0), (0, u1), (0, u4.1)]) (S2 := [(0, 0)]) (h2 := u20.2) (by decide +kernel) rfl trivial ?_
                cases hx
                exact Ev.ret (i := .ireturn) (len := 1) (by decide +kernel) rfl (finOf (t := some .boolean) rfl (bz0))
              · have hx := hb hc
                clear ha hb hc
                refine Ev.blk (is := [.iconst 1]) (pc2 := 168) (L2 := [(2, v0), (0, u1), (0, u4.1)]) (S2 := [(0, 1)]) (h2 := u20.2) (by decide +kernel) rfl trivial ?_
                refine Ev.jp (i := .goto 4) (len := 3) (pc2 := 172) (by decide +kernel) rfl ?_
                cases hx
                exact Ev.ret (i := .ireturn) (len := 1) (by decide +kernel) rfl (finOf (t := some .boolean) rfl (bz1))
      have hx := hb hc2
      clear ha hb
      obtain ⟨ha, hb⟩ := bite hx
      clear hx
      by_cases hc3 : u1 = 4
      · have hx := ha hc3
        clear ha hb
        refine Ev.jp (i := .tableswitch 200 1 4 #[31, 51, 88, 132]) (len := 31) (pc2 := 173) (by decide +kernel) (by rw [hc3]; rfl) ?_
        clear hc3
        refine Ev.blk (is := [.aload_n 0]) (pc2 := 174) (L2 := [(2, v0), (0, u1), (0, u4.1)]) (S2 := [(2, v0)]) (h2 := h7) (by decide +kernel) rfl trivial ?_
        obtain ⟨_, hg, -, hx⟩ := bgd hx
        obtain ⟨u21, hc, hx⟩ := bca hx
        refine Ev.call (args := [(2, v0)]) (S2 := []) (r1 := (some (0, u21.1))) (h1 := u21.2) (i := .invokevirtual 86) (by decide +kernel) rfl rfl (Nat.le_of_ble_eq_true rfl) (Or.inr (Or.inl ⟨rfl, hg, by decide +kernel⟩)) (x_Reader_tellPQ (by omega) hc) ?_
        obtain ⟨ha, hb⟩ := bite hx
        clear hx
        refine Ev.br (i := .ifCond .eq 62) (len := 3) (a := 239) (b := 180) (by decide +kernel) rfl Iff.rfl (fun hc => ?_) (fun hc => ?_)
        · have hx := ha hc
          clear ha hb hc
          refine Ev.blk (is := [.iconst 0]) (pc2 := 240) (L2 := [(2, v0), (0, u1), (0, u4.1)]) (S2 := [(0, 0)]) (h2 := u21.2) (by decide +kernel) rfl trivial ?_
          cases hx
          exact Ev.ret (i := .ireturn) (len := 1) (by decide +kernel) rfl (finOf (t := some .boolean) rfl (bz0))
        · have hx := hb hc
          clear ha hb hc
          refine Ev.blk (is := [.aload_n 0, .ldc 8]) (pc2 := 183) (L2 := [(2, v0), (0, u1), (0, u4.1)]) (S2 := [(3, 8), (2, v0)]) (h2 := u21.2) (by decide +kernel) rfl trivial ?_
          obtain ⟨_, hg, -, hx⟩ := bgd hx
          obtain ⟨u22, hc, hx⟩ := bca hx
          refine Ev.call (args := [(2, v0), (3, 8)]) (S2 := []) (r1 := (some (0, u22.1))) (h1 := u22.2) (i := .invokevirtual 83) (by decide +kernel) rfl rfl (Nat.le_of_ble_eq_true rfl) (Or.inr (Or.inl ⟨rfl, hg, by decide +kernel⟩)) (x_Reader_tellWord (by omega) hc) ?_
          obtain ⟨ha, hb⟩ := bite hx
          clear hx
          refine Ev.br (i := .ifCond .eq 53) (len := 3) (a := 239) (b := 189) (by decide +kernel) rfl Iff.rfl (fun hc => ?_) (fun hc => ?_)
          · have hx := ha hc
            clear ha hb hc
            refine Ev.blk (is := [.iconst 0]) (pc2 := 240) (L2 := [(2, v0), (0, u1), (0, u4.1)]) (S2 := [(0, 0)]) (h2 := u22.2) (by decide +kernel) rfl trivial ?_
            cases hx
            exact Ev.ret (i := .ireturn) (len := 1) (by decide +kernel) rfl (finOf (t := some .boolean) rfl (bz0))
          · have hx := hb hc
            clear ha hb hc
            obtain ⟨u23, hg, he, hx⟩ := bgd hx
            refine Ev.blk (is := [.aload_n 0, .aload_n 0, .getfield 4202]) (pc2 := 194) (L2 := [(2, v0), (0, u1), (0, u4.1)]) (S2 := [(2, u23), (2, v0)]) (h2 := u22.2) (by decide +kernel) (by subst he; rfl) (by exact hg) ?_
            clear hg he
            obtain ⟨u24, hg, he, hx⟩ := bgd hx
            refine Ev.blk (is := [.getfield 3200]) (pc2 := 197) (L2 := [(2, v0), (0, u1), (0, u4.1)]) (S2 := [(2, u24), (2, v0)]) (h2 := u22.2) (by decide +kernel) (by subst he; rfl) (by exact hg) ?_
            clear hg he
            refine Ev.blk (is := [.iconst (-1)]) (pc2 := 198) (L2 := [(2, v0), (0, u1), (0, u4.1)]) (S2 := [(0, (-1)), (2, u24), (2, v0)]) (h2 := u22.2) (by decide +kernel) rfl trivial ?_
            obtain ⟨_, hg, -, hx⟩ := bgd hx
            obtain ⟨u25, hc, hx⟩ := bca hx
            refine Ev.call (args := [(2, v0), (2, u24), (0, (-1))]) (S2 := []) (r1 := (some (0, u25.1))) (h1 := u25.2) (i := .invokevirtual 84) (by decide +kernel) rfl rfl (Nat.le_of_ble_eq_true rfl) (Or.inr (Or.inl ⟨rfl, hg, by decide +kernel⟩)) (x_Reader_tellRows (by omega) hc) ?_
            obtain ⟨ha, hb⟩ := bite hx
            clear hx
            refine Ev.br (i := .ifCond .eq 38) (len := 3) (a := 239) (b := 204) (by decide +kernel) rfl Iff.rfl (fun hc => ?_) (fun hc => ?_)
            · have hx := ha hc
              clear ha hb hc
              refine Ev.blk (is := [.iconst 0]) (pc2 := 240) (L2 := [(2, v0), (0, u1), (0, u4.1)]) (S2 := [(0, 0)]) (h2 := u25.2) (by decide +kernel) rfl trivial ?_
              cases hx
              exact Ev.ret (i := .ireturn) (len := 1) (by decide +kernel) rfl (finOf (t := some .boolean) rfl (bz0))
            · have hx := hb hc
              clear ha hb hc
              refine Ev.blk (is := [.aload_n 0, .ldc 9]) (pc2 := 207) (L2 := [(2, v0), (0, u1), (0, u4.1)]) (S2 := [(3, 9), (2, v0)]) (h2 := u25.2) (by decide +kernel) rfl trivial ?_
              obtain ⟨_, hg, -, hx⟩ := bgd hx
              obtain ⟨u26, hc, hx⟩ := bca hx
              refine Ev.call (args := [(2, v0), (3, 9)]) (S2 := []) (r1 := (some (0, u26.1))) (h1 := u26.2) (i := .invokevirtual 83) (by decide +kernel) rfl rfl (Nat.le_of_ble_eq_true rfl) (Or.inr (Or.inl ⟨rfl, hg, by decide +kernel⟩)) (x_Reader_tellWord (by omega) hc) ?_
              obtain ⟨ha, hb⟩ := bite hx
              clear hx
              refine Ev.br (i := .ifCond .eq 29) (len := 3) (a := 239) (b := 213) (by decide +kernel) rfl Iff.rfl (fun hc => ?_) (fun hc => ?_)
              · have hx := ha hc
                clear ha hb hc
                refine Ev.blk (is := [.iconst 0]) (pc2 := 240) (L2 := [(2, v0), (0, u1), (0, u4.1)]) (S2 := [(0, 0)]) (h2 := u26.2) (by decide +kernel) rfl trivial ?_
                cases hx
                exact Ev.ret (i := .ireturn) (len := 1) (by decide +kernel) rfl (finOf (t := some .boolean) rfl (bz0))
              · have hx := hb hc
                clear ha hb hc
                obtain ⟨u27, hg, he, hx⟩ := bgd hx
                refine Ev.blk (is := [.aload_n 0, .aload_n 0, .getfield 4202]) (pc2 := 218) (L2 := [(2, v0), (0, u1), (0, u4.1)]) (S2 := [(2, u27), (2, v0)]) (h2 := u26.2) (by decide +kernel) (by subst he; rfl) (by exact hg) ?_
                clear hg he
                obtain ⟨u28, hg, he, hx⟩ := bgd hx
                refine Ev.blk (is := [.getfield 3201]) (pc2 := 221) (L2 := [(2, v0), (0, u1), (0, u4.1)]) (S2 := [(2, u28), (2, v0)]) (h2 := u26.2) (by decide +kernel) (by subst he; rfl) (by exact hg) ?_
                clear hg he
                refine Ev.blk (is := [.iconst 0]) (pc2 := 222) (L2 := [(2, v0), (0, u1), (0, u4.1)]) (S2 := [(0, 0), (2, u28), (2, v0)]) (h2 := u26.2) (by decide +kernel) rfl trivial ?_
                obtain ⟨_, hg, -, hx⟩ := bgd hx
                obtain ⟨u29, hc, hx⟩ := bca hx
                refine Ev.call (args := [(2, v0), (2, u28), (0, 0)]) (S2 := []) (r1 := (some (0, u29.1))) (h1 := u29.2) (i := .invokevirtual 84) (by decide +kernel) rfl rfl (Nat.le_of_ble_eq_true rfl) (Or.inr (Or.inl ⟨rfl, hg, by decide +kernel⟩)) (x_Reader_tellRows (by omega) hc) ?_
                obtain ⟨ha, hb⟩ := bite hx
                clear hx
                refine Ev.br (i := .ifCond .eq 14) (len := 3) (a := 239) (b := 228) (by decide +kernel) rfl Iff.rfl (fun hc => ?_) (fun hc => ?_)
                · have hx := ha hc
                  clear ha hb hc
                  refine Ev.blk (is := [.iconst 0]) (pc2 := 240) (L2 := [(2, v0), (0, u1), (0, u4.1)]) (S2 := [(0, 0)]) (h2 := u29.2) (by decide +kernel) rfl trivial ?_
                  cases hx
                  exact Ev.ret (i := .ireturn) (len := 1) (by decide +kernel) rfl (finOf (t := some .boolean) rfl (bz0))
                · have hx := hb hc
                  clear ha hb hc
                  refine Ev.blk (is := [.aload_n 0]) (pc2 := 229) (L2 := [(2, v0), (0, u1), (0, u4.1)]) (S2 := [(2, v0)]) (h2 := u29.2) (by decide +kernel) rfl trivial ?_
                  obtain ⟨_, hg, -, hx⟩ := bgd hx
                  obtain ⟨u30, hc, hx⟩ := bca hx
                  refine Ev.call (args := [(2, v0)]) (S2 := []) (r1 := (some (0, u30.1))) (h1 := u30.2) (i := .invokevirtual 85) (by decide +kernel) rfl rfl (Nat.le_of_ble_eq_true rfl) (Or.inr (Or.inl ⟨rfl, hg, by decide +kernel⟩)) (x_Reader_tellEnd (by omega) hc) ?_
                  obtain ⟨ha, hb⟩ := bite hx
                  clear hx
                  refine Ev.br (i := .ifCond .eq 7) (len := 3) (a := 239) (b := 235) (by decide +kernel) rfl Iff.rfl (fun hc => ?_) (fun hc => ?_)
                  · have hx := ha hc
                    clear ha hb hc
                    refine Ev.blk (is := [.iconst 0]) (pc2 := 240) (L2 := [(2, v0), (0, u1), (0, u4.1)]) (S2 := [(0, 0)]) (h2 := u30.2) (by decide +kernel) rfl trivial ?_
                    cases hx
                    exact Ev.ret (i := .ireturn) (len := 1) (by decide +kernel) rfl (finOf (t := some .boolean) rfl (bz0))
                  · have hx := hb hc
                    clear ha hb hc
                    refine Ev.blk (is := [.iconst 1]) (pc2 := 236) (L2 := [(2, v0), (0, u1), (0, u4.1)]) (S2 := [(0, 1)]) (h2 := u30.2) (by decide +kernel) rfl trivial ?_
                    refine Ev.jp (i := .goto 4) (len := 3) (pc2 := 240) (by decide +kernel) rfl ?_
                    cases hx
                    exact Ev.ret (i := .ireturn) (len := 1) (by decide +kernel) rfl (finOf (t := some .boolean) rfl (bz1))
      have hx := hb hc3
      clear ha hb
      refine Ev.jp (i := .tableswitch 200 1 4 #[31, 51, 88, 132]) (len := 31) (pc2 := 241) (by decide +kernel) (jsw (by omega)) ?_
      clear hc0 hc1 hc2 hc3
      refine Ev.blk (is := [.aload_n 0]) (pc2 := 242) (L2 := [(2, v0), (0, u1), (0, u4.1)]) (S2 := [(2, v0)]) (h2 := h7) (by decide +kernel) rfl trivial ?_
      obtain ⟨_, hg, -, hx⟩ := bgd hx
      obtain ⟨u31, hc, hx⟩ := bca hx
      refine Ev.call (args := [(2, v0)]) (S2 := []) (r1 := (some (0, u31.1))) (h1 := u31.2) (i := .invokevirtual 85) (by decide +kernel) rfl rfl (Nat.le_of_ble_eq_true rfl) (Or.inr (Or.inl ⟨rfl, hg, by decide +kernel⟩)) (x_Reader_tellEnd (by omega) hc) ?_
      obtain ⟨_, hg, -, hx⟩ := bgd hx
      cases hx
      exact Ev.ret (i := .ireturn) (len := 1) (by decide +kernel) rfl (finOf (t := some .boolean) rfl (hg))
theorem y_Reader_pass_18 {sc : AS} {d : Nat} (hd : 8 ≤ d) : ∀ (fu : Nat) (v0 : Int) (v1 : Int) (v2 : Int) (v3 : Int) (h : AH) (r : (Int × AH)), Reader_pass_18 fu v0 v1 v2 v3 h = some r → Ev sc d 67 18 [(2, v0), (0, v1), (0, v2), (0, v3)] [] h (some (0, r.1)) r.2 := by
  intro fu
  induction fu with
  | zero => intro v0 v1 v2 v3 h r hx; unfold Reader_pass_18 at hx; cases hx
  | succ fu ih =>
    intro v0 v1 v2 v3 h r hx
    unfold Reader_pass_18 at hx
    refine Ev.blk (is := [.iload_n 3, .sipush 400]) (pc2 := 22) (L2 := [(2, v0), (0, v1), (0, v2), (0, v3)]) (S2 := [(0, 400), (0, v3)]) (h2 := h) (by decide +kernel) rfl trivial ?_
    obtain ⟨ha, hb⟩ := bite hx
    clear hx
    refine Ev.br (i := .if_icmp .ge 50) (len := 3) (a := 25) (b := 72) (by decide +kernel) rfl Iff.rfl (fun hc => ?_) (fun hc => ?_)
    · have hx := ha hc
      clear ha hb hc
      obtain ⟨u1, hg, he, hx⟩ := bgd hx
      refine Ev.blk (is := [.aload_n 0, .getfield 4003]) (pc2 := 29) (L2 := [(2, v0), (0, v1), (0, v2), (0, v3)]) (S2 := [(0, u1)]) (h2 := h) (by decide +kernel) (by subst he; rfl) (by exact hg) ?_
      clear hg he
      obtain ⟨ha, hb⟩ := bite hx
      clear hx
      refine Ev.br (i := .ifCond .eq 43) (len := 3) (a := 72) (b := 32) (by decide +kernel) rfl Iff.rfl (fun hc => ?_) (fun hc => ?_)
      · have hx := ha hc
        clear ha hb hc
        refine Ev.blk (is := [.iload_n 2]) (pc2 := 73) (L2 := [(2, v0), (0, v1), (0, v2), (0, v3)]) (S2 := [(0, v2)]) (h2 := h) (by decide +kernel) rfl trivial ?_
        cases hx
        exact Ev.ret (i := .ireturn) (len := 1) (by decide +kernel) rfl (finOf (t := some .int) rfl (trivial))
      · have hx := hb hc
        clear ha hb hc
        refine Ev.blk (is := [.aload_n 0]) (pc2 := 33) (L2 := [(2, v0), (0, v1), (0, v2), (0, v3)]) (S2 := [(2, v0)]) (h2 := h) (by decide +kernel) rfl trivial ?_
        obtain ⟨_, hg, -, hx⟩ := bgd hx
        obtain ⟨u2, hc, hx⟩ := bca hx
        refine Ev.call (args := [(2, v0)]) (S2 := []) (r1 := (some (0, u2.1))) (h1 := u2.2) (i := .invokevirtual 70) (by decide +kernel) rfl rfl (Nat.le_of_ble_eq_true rfl) (Or.inr (Or.inl ⟨rfl, hg, by decide +kernel⟩)) (x_Reader_tellLine (by omega) hc) ?_
        obtain ⟨ha, hb⟩ := bite hx
        clear hx
        refine Ev.br (i := .ifCond .ne 11) (len := 3) (a := 39) (b := 47) (by decide +kernel) rfl Iff.rfl (fun hc => ?_) (fun hc => ?_)
        · have hx := ha hc
          clear ha hb hc
          obtain ⟨u3, hg, he, hx⟩ := bgd hx
          refine Ev.blk (is := [.sipush (-4), .aload_n 0, .getfield 4004]) (pc2 := 45) (L2 := [(2, v0), (0, v1), (0, v2), (0, v3)]) (S2 := [(0, u3), (0, (-4))]) (h2 := u2.2) (by decide +kernel) (by subst he; rfl) (by exact hg) ?_
          clear hg he
          refine Ev.blk (is := [.isub]) (pc2 := 46) (L2 := [(2, v0), (0, v1), (0, v2), (0, v3)]) (S2 := [(0, w32 ((-4) - u3))]) (h2 := u2.2) (by decide +kernel) rfl trivial ?_
          cases hx
          exact Ev.ret (i := .ireturn) (len := 1) (by decide +kernel) rfl (finOf (t := some .int) rfl (trivial))
        · have hx := hb hc
          clear ha hb hc
          refine Ev.blk (is := [.iload_n 1]) (pc2 := 48) (L2 := [(2, v0), (0, v1), (0, v2), (0, v3)]) (S2 := [(0, v1)]) (h2 := u2.2) (by decide +kernel) rfl trivial ?_
          obtain ⟨ha, hb⟩ := bite hx
          clear hx
          refine Ev.br (i := .ifCond .eq 15) (len := 3) (a := 63) (b := 51) (by decide +kernel) rfl Iff.rfl (fun hc => ?_) (fun hc => ?_)
          · have hx := ha hc
            clear ha hb hc
            refine Ev.blk (is := [.iinc 2 1, .iinc 3 1]) (pc2 := 69) (L2 := [(2, v0), (0, v1), (0, w32 (v2 + 1)), (0, w32 (v3 + 1))]) (S2 := []) (h2 := u2.2) (by decide +kernel) rfl trivial ?_
            refine Ev.jp (i := .goto (-51)) (len := 3) (pc2 := 18) (by decide +kernel) rfl ?_
            exact ih v0 v1 (w32 (v2 + 1)) (w32 (v3 + 1)) u2.2 _ hx
          · have hx := hb hc
            clear ha hb hc
            obtain ⟨u4, hg, he, hx⟩ := bgd hx
            refine Ev.blk (is := [.aload_n 0, .getfield 4201]) (pc2 := 55) (L2 := [(2, v0), (0, v1), (0, v2), (0, v3)]) (S2 := [(2, u4)]) (h2 := u2.2) (by decide +kernel) (by subst he; rfl) (by exact hg) ?_
            clear hg he
            obtain ⟨u5, hg, he, hx⟩ := bgd hx
            refine Ev.blk (is := [.aload_n 0, .getfield 4202]) (pc2 := 59) (L2 := [(2, v0), (0, v1), (0, v2), (0, v3)]) (S2 := [(2, u5), (2, u4)]) (h2 := u2.2) (by decide +kernel) (by subst he; rfl) (by exact hg) ?_
            clear hg he
            obtain ⟨_, hg, -, hx⟩ := bgd hx
            obtain ⟨u6, hc, hx⟩ := bca hx
            refine Ev.call (args := [(2, u4), (2, u5)]) (S2 := []) (r1 := (some (0, u6.1))) (h1 := u6.2) (i := .invokevirtual 56) (by decide +kernel) rfl rfl (Nat.le_of_ble_eq_true rfl) (Or.inr (Or.inl ⟨rfl, hg, by decide +kernel⟩)) (x_Ledger_append (by omega) hc) ?_
            refine Ev.blk (is := [.pop, .iinc 2 1, .iinc 3 1]) (pc2 := 69) (L2 := [(2, v0), (0, v1), (0, w32 (v2 + 1)), (0, w32 (v3 + 1))]) (S2 := []) (h2 := u6.2) (by decide +kernel) rfl trivial ?_
            refine Ev.jp (i := .goto (-51)) (len := 3) (pc2 := 18) (by decide +kernel) rfl ?_
            exact ih v0 v1 (w32 (v2 + 1)) (w32 (v3 + 1)) u6.2 _ hx
    · have hx := hb hc
      clear ha hb hc
      refine Ev.blk (is := [.iload_n 2]) (pc2 := 73) (L2 := [(2, v0), (0, v1), (0, v2), (0, v3)]) (S2 := [(0, v2)]) (h2 := h) (by decide +kernel) rfl trivial ?_
      cases hx
      exact Ev.ret (i := .ireturn) (len := 1) (by decide +kernel) rfl (finOf (t := some .int) rfl (trivial))
theorem x_Reader_pass {sc : AS} {d : Nat} (hd : 9 ≤ d) {v0 : Int} {v1 : Int} {h : AH} {r : (Int × AH)} (hx : Reader_pass v0 v1 h = some r) : Runs sc d 67 [(2, v0), (0, v1)] h (some (0, r.1)) r.2 := by
  obtain ⟨d, rfl⟩ : ∃ e, d = e + 1 := ⟨d - 1, by omega⟩
  have hd : 8 ≤ d := by omega
  unfold Reader_pass at hx
  refine ⟨⟨aM_67, rfl, Nat.le_of_ble_eq_true rfl⟩, ?_⟩
  show Ev sc d 67 0 [(2, v0), (0, v1), (9, 0), (9, 0)] [] h (some (0, r.1)) r.2
  obtain ⟨h1, hg, he, hx⟩ := bgd hx
  refine Ev.blk (is := [.aload_n 0, .iconst 3, .putfield 4003]) (pc2 := 5) (L2 := [(2, v0), (0, v1), (9, 0), (9, 0)]) (S2 := []) (h2 := h1) (by decide +kernel) (by subst he; rfl) (by exact hg) ?_
  clear hg he
  obtain ⟨h2, hg, he, hx⟩ := bgd hx
  refine Ev.blk (is := [.aload_n 0, .iconst 0, .putfield 4005]) (pc2 := 10) (L2 := [(2, v0), (0, v1), (9, 0), (9, 0)]) (S2 := []) (h2 := h2) (by decide +kernel) (by subst he; rfl) (by exact hg) ?_
  clear hg he
  refine Ev.blk (is := [.aload_n 0]) (pc2 := 11) (L2 := [(2, v0), (0, v1), (9, 0), (9, 0)]) (S2 := [(2, v0)]) (h2 := h2) (by decide +kernel) rfl trivial ?_
  obtain ⟨_, hg, -, hx⟩ := bgd hx
  obtain ⟨h4, hc, hx⟩ := bca hx
  refine Ev.call (args := [(2, v0)]) (S2 := []) (r1 := none) (h1 := h4) (i := .invokevirtual 68) (by decide +kernel) rfl rfl (Nat.le_of_ble_eq_true rfl) (Or.inr (Or.inl ⟨rfl, hg, by decide +kernel⟩)) (x_Reader_advance (by omega) hc) ?_
  refine Ev.blk (is := [.iconst 0, .istore_n 2, .iconst 0, .istore_n 3]) (pc2 := 18) (L2 := [(2, v0), (0, v1), (0, 0), (0, 0)]) (S2 := []) (h2 := h4) (by decide +kernel) rfl trivial ?_
  exact y_Reader_pass_18 hd FU v0 v1 0 0 h4 _ hx
