/-! the methods run as their shallow functions say -/
theorem x_X_isOddNumber {sc : AS} {d : Nat} (hd : 2 ≤ d) {v0 : Int} {h : AH} {r : Int} (hx : X_isOddNumber v0 = some r) : Runs sc d 145 [(0, v0)] h (some (0, r)) h := by
  obtain ⟨d, rfl⟩ : ∃ e, d = e + 1 := ⟨d - 1, by omega⟩
  have hd : 1 ≤ d := by omega
  unfold X_isOddNumber at hx
  refine ⟨⟨aM_145, rfl, Nat.le_of_ble_eq_true rfl⟩, ?_⟩
  show Ev sc d 145 0 [(0, v0)] [] h (some (0, r)) h
  refine Ev.blk (is := [.iload_n 0]) (pc2 := 1) (L2 := [(0, v0)]) (S2 := [(0, v0)]) (h2 := h) (by decide +kernel) rfl trivial ?_
  obtain ⟨u1, hc, hx⟩ := bca hx
  refine Ev.call (args := [(0, v0)]) (S2 := []) (r1 := (some (0, u1))) (h1 := h) (i := .invokestatic 10) (by decide +kernel) rfl rfl (Nat.le_of_ble_eq_true rfl) (Or.inl rfl) (x_Arithmetic_isNumber (by omega) hc) ?_
  obtain ⟨ha, hb⟩ := bite hx
  clear hx
  refine Ev.br (i := .ifCond .eq 14) (len := 3) (a := 18) (b := 7) (by decide +kernel) rfl Iff.rfl (fun hc => ?_) (fun hc => ?_)
  · have hx := ha hc
    clear ha hb hc
    refine Ev.blk (is := [.iconst 0]) (pc2 := 19) (L2 := [(0, v0)]) (S2 := [(0, 0)]) (h2 := h) (by decide +kernel) rfl trivial ?_
    cases hx
    exact Ev.ret (i := .ireturn) (len := 1) (by decide +kernel) rfl (finOf (t := some .boolean) rfl (bz0))
  · have hx := hb hc
    clear ha hb hc
    obtain ⟨u2, hg, he, hx⟩ := bgd hx
    refine Ev.blk (is := [.iload_n 0, .iconst 2, .irem]) (pc2 := 10) (L2 := [(0, v0)]) (S2 := [(0, u2)]) (h2 := h) (by decide +kernel) (by subst he; rfl) (by exact hg) ?_
    clear hg he
    refine Ev.blk (is := [.iconst 1]) (pc2 := 11) (L2 := [(0, v0)]) (S2 := [(0, 1), (0, u2)]) (h2 := h) (by decide +kernel) rfl trivial ?_
    obtain ⟨ha, hb⟩ := bite hx
    clear hx
    refine Ev.br (i := .if_icmp .ne 7) (len := 3) (a := 14) (b := 18) (by decide +kernel) rfl Iff.rfl (fun hc => ?_) (fun hc => ?_)
    · have hx := ha hc
      clear ha hb hc
      refine Ev.blk (is := [.iconst 1]) (pc2 := 15) (L2 := [(0, v0)]) (S2 := [(0, 1)]) (h2 := h) (by decide +kernel) rfl trivial ?_
      refine Ev.jp (i := .goto 4) (len := 3) (pc2 := 19) (by decide +kernel) rfl ?_
      cases hx
      exact Ev.ret (i := .ireturn) (len := 1) (by decide +kernel) rfl (finOf (t := some .boolean) rfl (bz1))
    · have hx := hb hc
      clear ha hb hc
      refine Ev.blk (is := [.iconst 0]) (pc2 := 19) (L2 := [(0, v0)]) (S2 := [(0, 0)]) (h2 := h) (by decide +kernel) rfl trivial ?_
      cases hx
      exact Ev.ret (i := .ireturn) (len := 1) (by decide +kernel) rfl (finOf (t := some .boolean) rfl (bz0))
theorem x_X_passes {sc : AS} {d : Nat} (hd : 3 ≤ d) {v0 : Int} {v1 : Int} {v2 : Int} {h : AH} {r : Int} (hx : X_passes v0 v1 v2 = some r) : Runs sc d 144 [(2, v0), (0, v1), (0, v2)] h (some (0, r)) h := by
  obtain ⟨d, rfl⟩ : ∃ e, d = e + 1 := ⟨d - 1, by omega⟩
  have hd : 2 ≤ d := by omega
  unfold X_passes at hx
  refine ⟨⟨aM_144, rfl, Nat.le_of_ble_eq_true rfl⟩, ?_⟩
  show Ev sc d 144 0 [(2, v0), (0, v1), (0, v2)] [] h (some (0, r)) h
  refine Ev.blk (is := [.iload_n 1]) (pc2 := 1) (L2 := [(2, v0), (0, v1), (0, v2)]) (S2 := [(0, v1)]) (h2 := h) (by decide +kernel) rfl trivial ?_
  obtain ⟨u1, hc, hx⟩ := bca hx
  refine Ev.call (args := [(0, v1)]) (S2 := []) (r1 := (some (0, u1))) (h1 := h) (i := .invokestatic 145) (by decide +kernel) rfl rfl (Nat.le_of_ble_eq_true rfl) (Or.inl rfl) (x_X_isOddNumber (by omega) hc) ?_
  obtain ⟨ha, hb⟩ := bite hx
  clear hx
  refine Ev.br (i := .ifCond .eq 20) (len := 3) (a := 24) (b := 7) (by decide +kernel) rfl Iff.rfl (fun hc => ?_) (fun hc => ?_)
  · have hx := ha hc
    clear ha hb hc
    refine Ev.blk (is := [.iconst (-1)]) (pc2 := 25) (L2 := [(2, v0), (0, v1), (0, v2)]) (S2 := [(0, (-1))]) (h2 := h) (by decide +kernel) rfl trivial ?_
    cases hx
    exact Ev.ret (i := .ireturn) (len := 1) (by decide +kernel) rfl (finOf (t := some .int) rfl (trivial))
  · have hx := hb hc
    clear ha hb hc
    refine Ev.blk (is := [.iload_n 2, .iconst 2]) (pc2 := 9) (L2 := [(2, v0), (0, v1), (0, v2)]) (S2 := [(0, 2), (0, v2)]) (h2 := h) (by decide +kernel) rfl trivial ?_
    obtain ⟨ha, hb⟩ := bite hx
    clear hx
    refine Ev.br (i := .if_icmp .lt 15) (len := 3) (a := 24) (b := 12) (by decide +kernel) rfl Iff.rfl (fun hc => ?_) (fun hc => ?_)
    · have hx := ha hc
      clear ha hb hc
      refine Ev.blk (is := [.iconst (-1)]) (pc2 := 25) (L2 := [(2, v0), (0, v1), (0, v2)]) (S2 := [(0, (-1))]) (h2 := h) (by decide +kernel) rfl trivial ?_
      cases hx
      exact Ev.ret (i := .ireturn) (len := 1) (by decide +kernel) rfl (finOf (t := some .int) rfl (trivial))
    · have hx := hb hc
      clear ha hb hc
      refine Ev.blk (is := [.iload_n 2, .sipush 999]) (pc2 := 16) (L2 := [(2, v0), (0, v1), (0, v2)]) (S2 := [(0, 999), (0, v2)]) (h2 := h) (by decide +kernel) rfl trivial ?_
      obtain ⟨ha, hb⟩ := bite hx
      clear hx
      refine Ev.br (i := .if_icmp .gt 8) (len := 3) (a := 24) (b := 19) (by decide +kernel) rfl Iff.rfl (fun hc => ?_) (fun hc => ?_)
      · have hx := ha hc
        clear ha hb hc
        refine Ev.blk (is := [.iconst (-1)]) (pc2 := 25) (L2 := [(2, v0), (0, v1), (0, v2)]) (S2 := [(0, (-1))]) (h2 := h) (by decide +kernel) rfl trivial ?_
        cases hx
        exact Ev.ret (i := .ireturn) (len := 1) (by decide +kernel) rfl (finOf (t := some .int) rfl (trivial))
      · have hx := hb hc
        clear ha hb hc
        refine Ev.blk (is := [.iload_n 2, .iload_n 1]) (pc2 := 21) (L2 := [(2, v0), (0, v1), (0, v2)]) (S2 := [(0, v1), (0, v2)]) (h2 := h) (by decide +kernel) rfl trivial ?_
        obtain ⟨ha, hb⟩ := bite hx
        clear hx
        refine Ev.br (i := .if_icmp .lt 5) (len := 3) (a := 26) (b := 24) (by decide +kernel) rfl Iff.rfl (fun hc => ?_) (fun hc => ?_)
        · have hx := ha hc
          clear ha hb hc
          refine Ev.blk (is := [.iload_n 1, .iload_n 2]) (pc2 := 28) (L2 := [(2, v0), (0, v1), (0, v2)]) (S2 := [(0, v2), (0, v1)]) (h2 := h) (by decide +kernel) rfl trivial ?_
          obtain ⟨u2, hc, hx⟩ := bca hx
          refine Ev.call (args := [(0, v1), (0, v2)]) (S2 := []) (r1 := (some (0, u2))) (h1 := h) (i := .invokestatic 21) (by decide +kernel) rfl rfl (Nat.le_of_ble_eq_true rfl) (Or.inl rfl) (x_Arithmetic_passesBy (by omega) hc) ?_
          obtain ⟨ha, hb⟩ := bite hx
          clear hx
          refine Ev.br (i := .ifCond .eq 7) (len := 3) (a := 38) (b := 34) (by decide +kernel) rfl Iff.rfl (fun hc => ?_) (fun hc => ?_)
          · have hx := ha hc
            clear ha hb hc
            refine Ev.blk (is := [.iconst 0]) (pc2 := 39) (L2 := [(2, v0), (0, v1), (0, v2)]) (S2 := [(0, 0)]) (h2 := h) (by decide +kernel) rfl trivial ?_
            cases hx
            exact Ev.ret (i := .ireturn) (len := 1) (by decide +kernel) rfl (finOf (t := some .int) rfl (trivial))
          · have hx := hb hc
            clear ha hb hc
            refine Ev.blk (is := [.iconst 1]) (pc2 := 35) (L2 := [(2, v0), (0, v1), (0, v2)]) (S2 := [(0, 1)]) (h2 := h) (by decide +kernel) rfl trivial ?_
            refine Ev.jp (i := .goto 4) (len := 3) (pc2 := 39) (by decide +kernel) rfl ?_
            cases hx
            exact Ev.ret (i := .ireturn) (len := 1) (by decide +kernel) rfl (finOf (t := some .int) rfl (trivial))
        · have hx := hb hc
          clear ha hb hc
          refine Ev.blk (is := [.iconst (-1)]) (pc2 := 25) (L2 := [(2, v0), (0, v1), (0, v2)]) (S2 := [(0, (-1))]) (h2 := h) (by decide +kernel) rfl trivial ?_
          cases hx
          exact Ev.ret (i := .ireturn) (len := 1) (by decide +kernel) rfl (finOf (t := some .int) rfl (trivial))
theorem y_X_fools_34 {sc : AS} {d : Nat} (hd : 2 ≤ d) : ∀ (fu : Nat) (v1 : Int) (v2 : Int) (v3 : Int) (v4 : Int) (v5 : Int) (h : AH) (r : Int), X_fools_34 fu v1 v2 v3 v4 v5 = some r → Ev sc d 146 34 [(9, 0), (0, v1), (0, v2), (0, v3), (0, v4), (0, v5)] [] h (some (0, r)) h := by
  intro fu
  induction fu with
  | zero => intro v1 v2 v3 v4 v5 h r hx; unfold X_fools_34 at hx; cases hx
  | succ fu ih =>
    intro v1 v2 v3 v4 v5 h r hx
    unfold X_fools_34 at hx
    refine Ev.blk (is := [.iload 5, .iload 4]) (pc2 := 38) (L2 := [(9, 0), (0, v1), (0, v2), (0, v3), (0, v4), (0, v5)]) (S2 := [(0, v4), (0, v5)]) (h2 := h) (by decide +kernel) rfl trivial ?_
    obtain ⟨ha, hb⟩ := bite hx
    clear hx
    refine Ev.br (i := .if_icmp .gt 32) (len := 3) (a := 70) (b := 41) (by decide +kernel) rfl Iff.rfl (fun hc => ?_) (fun hc => ?_)
    · have hx := ha hc
      clear ha hb hc
      refine Ev.blk (is := [.iload_n 2]) (pc2 := 71) (L2 := [(9, 0), (0, v1), (0, v2), (0, v3), (0, v4), (0, v5)]) (S2 := [(0, v2)]) (h2 := h) (by decide +kernel) rfl trivial ?_
      obtain ⟨ha, hb⟩ := bite hx
      clear hx
      refine Ev.br (i := .ifCond .ne 7) (len := 3) (a := 74) (b := 78) (by decide +kernel) rfl Iff.rfl (fun hc => ?_) (fun hc => ?_)
      · have hx := ha hc
        clear ha hb hc
        refine Ev.blk (is := [.iload_n 3]) (pc2 := 75) (L2 := [(9, 0), (0, v1), (0, v2), (0, v3), (0, v4), (0, v5)]) (S2 := [(0, v3)]) (h2 := h) (by decide +kernel) rfl trivial ?_
        refine Ev.jp (i := .goto 4) (len := 3) (pc2 := 79) (by decide +kernel) rfl ?_
        cases hx
        exact Ev.ret (i := .ireturn) (len := 1) (by decide +kernel) rfl (finOf (t := some .int) rfl (trivial))
      · have hx := hb hc
        clear ha hb hc
        refine Ev.blk (is := [.iconst 0]) (pc2 := 79) (L2 := [(9, 0), (0, v1), (0, v2), (0, v3), (0, v4), (0, v5)]) (S2 := [(0, 0)]) (h2 := h) (by decide +kernel) rfl trivial ?_
        cases hx
        exact Ev.ret (i := .ireturn) (len := 1) (by decide +kernel) rfl (finOf (t := some .int) rfl (trivial))
    · have hx := hb hc
      clear ha hb hc
      refine Ev.blk (is := [.iload_n 1, .iload 5]) (pc2 := 44) (L2 := [(9, 0), (0, v1), (0, v2), (0, v3), (0, v4), (0, v5)]) (S2 := [(0, v5), (0, v1)]) (h2 := h) (by decide +kernel) rfl trivial ?_
      obtain ⟨u1, hc, hx⟩ := bca hx
      refine Ev.call (args := [(0, v1), (0, v5)]) (S2 := []) (r1 := (some (0, u1))) (h1 := h) (i := .invokestatic 21) (by decide +kernel) rfl rfl (Nat.le_of_ble_eq_true rfl) (Or.inl rfl) (x_Arithmetic_passesBy (by omega) hc) ?_
      obtain ⟨ha, hb⟩ := bite hx
      clear hx
      refine Ev.br (i := .ifCond .eq 9) (len := 3) (a := 56) (b := 50) (by decide +kernel) rfl Iff.rfl (fun hc => ?_) (fun hc => ?_)
      · have hx := ha hc
        clear ha hb hc
        refine Ev.blk (is := [.iload_n 2, .iconst 1]) (pc2 := 58) (L2 := [(9, 0), (0, v1), (0, v2), (0, v3), (0, v4), (0, v5)]) (S2 := [(0, 1), (0, v2)]) (h2 := h) (by decide +kernel) rfl trivial ?_
        obtain ⟨ha, hb⟩ := bite hx
        clear hx
        refine Ev.br (i := .if_icmp .ne 6) (len := 3) (a := 61) (b := 64) (by decide +kernel) rfl Iff.rfl (fun hc => ?_) (fun hc => ?_)
        · have hx := ha hc
          clear ha hb hc
          refine Ev.blk (is := [.iload 5]) (pc2 := 63) (L2 := [(9, 0), (0, v1), (0, v2), (0, v3), (0, v4), (0, v5)]) (S2 := [(0, v5)]) (h2 := h) (by decide +kernel) rfl trivial ?_
          cases hx
          exact Ev.ret (i := .ireturn) (len := 1) (by decide +kernel) rfl (finOf (t := some .int) rfl (trivial))
        · have hx := hb hc
          clear ha hb hc
          refine Ev.blk (is := [.iinc 5 1]) (pc2 := 67) (L2 := [(9, 0), (0, v1), (0, v2), (0, v3), (0, v4), (0, w32 (v5 + 1))]) (S2 := []) (h2 := h) (by decide +kernel) rfl trivial ?_
          refine Ev.jp (i := .goto (-33)) (len := 3) (pc2 := 34) (by decide +kernel) rfl ?_
          exact ih v1 v2 v3 v4 (w32 (v5 + 1)) h _ hx
      · have hx := hb hc
        clear ha hb hc
        refine Ev.blk (is := [.iinc 3 1]) (pc2 := 53) (L2 := [(9, 0), (0, v1), (0, v2), (0, w32 (v3 + 1)), (0, v4), (0, v5)]) (S2 := []) (h2 := h) (by decide +kernel) rfl trivial ?_
        refine Ev.jp (i := .goto 11) (len := 3) (pc2 := 64) (by decide +kernel) rfl ?_
        refine Ev.blk (is := [.iinc 5 1]) (pc2 := 67) (L2 := [(9, 0), (0, v1), (0, v2), (0, w32 (v3 + 1)), (0, v4), (0, w32 (v5 + 1))]) (S2 := []) (h2 := h) (by decide +kernel) rfl trivial ?_
        refine Ev.jp (i := .goto (-33)) (len := 3) (pc2 := 34) (by decide +kernel) rfl ?_
        exact ih v1 v2 (w32 (v3 + 1)) v4 (w32 (v5 + 1)) h _ hx
theorem x_X_fools {sc : AS} {d : Nat} (hd : 3 ≤ d) {v0 : Int} {v1 : Int} {v2 : Int} {h : AH} {r : Int} (hx : X_fools v0 v1 v2 = some r) : Runs sc d 146 [(2, v0), (0, v1), (0, v2)] h (some (0, r)) h := by
  obtain ⟨d, rfl⟩ : ∃ e, d = e + 1 := ⟨d - 1, by omega⟩
  have hd : 2 ≤ d := by omega
  unfold X_fools at hx
  refine ⟨⟨aM_146, rfl, Nat.le_of_ble_eq_true rfl⟩, ?_⟩
  show Ev sc d 146 0 [(2, v0), (0, v1), (0, v2), (9, 0), (9, 0), (9, 0)] [] h (some (0, r)) h
  refine Ev.blk (is := [.iload_n 1]) (pc2 := 1) (L2 := [(2, v0), (0, v1), (0, v2), (9, 0), (9, 0), (9, 0)]) (S2 := [(0, v1)]) (h2 := h) (by decide +kernel) rfl trivial ?_
  obtain ⟨u1, hc, hx⟩ := bca hx
  refine Ev.call (args := [(0, v1)]) (S2 := []) (r1 := (some (0, u1))) (h1 := h) (i := .invokestatic 145) (by decide +kernel) rfl rfl (Nat.le_of_ble_eq_true rfl) (Or.inl rfl) (x_X_isOddNumber (by omega) hc) ?_
  obtain ⟨ha, hb⟩ := bite hx
  clear hx
  refine Ev.br (i := .ifCond .eq 12) (len := 3) (a := 16) (b := 7) (by decide +kernel) rfl Iff.rfl (fun hc => ?_) (fun hc => ?_)
  · have hx := ha hc
    clear ha hb hc
    refine Ev.blk (is := [.iconst (-1)]) (pc2 := 17) (L2 := [(2, v0), (0, v1), (0, v2), (9, 0), (9, 0), (9, 0)]) (S2 := [(0, (-1))]) (h2 := h) (by decide +kernel) rfl trivial ?_
    cases hx
    exact Ev.ret (i := .ireturn) (len := 1) (by decide +kernel) rfl (finOf (t := some .int) rfl (trivial))
  · have hx := hb hc
    clear ha hb hc
    refine Ev.blk (is := [.iload_n 2]) (pc2 := 8) (L2 := [(2, v0), (0, v1), (0, v2), (9, 0), (9, 0), (9, 0)]) (S2 := [(0, v2)]) (h2 := h) (by decide +kernel) rfl trivial ?_
    obtain ⟨ha, hb⟩ := bite hx
    clear hx
    refine Ev.br (i := .ifCond .lt 8) (len := 3) (a := 16) (b := 11) (by decide +kernel) rfl Iff.rfl (fun hc => ?_) (fun hc => ?_)
    · have hx := ha hc
      clear ha hb hc
      refine Ev.blk (is := [.iconst (-1)]) (pc2 := 17) (L2 := [(2, v0), (0, v1), (0, v2), (9, 0), (9, 0), (9, 0)]) (S2 := [(0, (-1))]) (h2 := h) (by decide +kernel) rfl trivial ?_
      cases hx
      exact Ev.ret (i := .ireturn) (len := 1) (by decide +kernel) rfl (finOf (t := some .int) rfl (trivial))
    · have hx := hb hc
      clear ha hb hc
      refine Ev.blk (is := [.iload_n 2, .iconst 1]) (pc2 := 13) (L2 := [(2, v0), (0, v1), (0, v2), (9, 0), (9, 0), (9, 0)]) (S2 := [(0, 1), (0, v2)]) (h2 := h) (by decide +kernel) rfl trivial ?_
      obtain ⟨ha, hb⟩ := bite hx
      clear hx
      refine Ev.br (i := .if_icmp .le 5) (len := 3) (a := 16) (b := 18) (by decide +kernel) rfl Iff.rfl (fun hc => ?_) (fun hc => ?_)
      · have hx := ha hc
        clear ha hb hc
        refine Ev.blk (is := [.iconst (-1)]) (pc2 := 17) (L2 := [(2, v0), (0, v1), (0, v2), (9, 0), (9, 0), (9, 0)]) (S2 := [(0, (-1))]) (h2 := h) (by decide +kernel) rfl trivial ?_
        cases hx
        exact Ev.ret (i := .ireturn) (len := 1) (by decide +kernel) rfl (finOf (t := some .int) rfl (trivial))
      · have hx := hb hc
        clear ha hb hc
        refine Ev.blk (is := [.iconst 0, .istore_n 3, .sipush 999, .iload_n 1, .iconst 1, .isub]) (pc2 := 26) (L2 := [(2, v0), (0, v1), (0, v2), (0, 0), (9, 0), (9, 0)]) (S2 := [(0, w32 (v1 - 1)), (0, 999)]) (h2 := h) (by decide +kernel) rfl trivial ?_
        obtain ⟨u2, hc, hx⟩ := bca hx
        refine Ev.call (args := [(0, 999), (0, w32 (v1 - 1))]) (S2 := []) (r1 := (some (0, u2))) (h1 := h) (i := .invokestatic 61) (by decide +kernel) rfl rfl (Nat.le_of_ble_eq_true rfl) (Or.inl rfl) (x_Math_min (by omega) hc) ?_
        refine Ev.blk (is := [.istore 4, .iconst 2, .istore 5]) (pc2 := 34) (L2 := [(2, v0), (0, v1), (0, v2), (0, 0), (0, u2), (0, 2)]) (S2 := []) (h2 := h) (by decide +kernel) rfl trivial ?_
        refine Ev.wk (L2 := [(9, 0), (0, v1), (0, v2), (0, 0), (0, u2), (0, 2)]) (wkL_of ⟨Or.inr rfl, ⟨Or.inl rfl, ⟨Or.inl rfl, ⟨Or.inl rfl, ⟨Or.inl rfl, ⟨Or.inl rfl, trivial⟩⟩⟩⟩⟩⟩) ?_
        exact y_X_fools_34 hd FU v1 v2 0 u2 2 h _ hx
theorem x_X_power {sc : AS} {d : Nat} (hd : 2 ≤ d) {v0 : Int} {v1 : Int} {v2 : Int} {v3 : Int} {h : AH} {r : Int} (hx : X_power v0 v1 v2 v3 = some r) : Runs sc d 147 [(2, v0), (0, v1), (0, v2), (0, v3)] h (some (0, r)) h := by
  obtain ⟨d, rfl⟩ : ∃ e, d = e + 1 := ⟨d - 1, by omega⟩
  have hd : 1 ≤ d := by omega
  unfold X_power at hx
  refine ⟨⟨aM_147, rfl, Nat.le_of_ble_eq_true rfl⟩, ?_⟩
  show Ev sc d 147 0 [(2, v0), (0, v1), (0, v2), (0, v3)] [] h (some (0, r)) h
  refine Ev.blk (is := [.iload_n 1]) (pc2 := 1) (L2 := [(2, v0), (0, v1), (0, v2), (0, v3)]) (S2 := [(0, v1)]) (h2 := h) (by decide +kernel) rfl trivial ?_
  obtain ⟨ha, hb⟩ := bite hx
  clear hx
  refine Ev.br (i := .ifCond .lt 12) (len := 3) (a := 13) (b := 4) (by decide +kernel) rfl Iff.rfl (fun hc => ?_) (fun hc => ?_)
  · have hx := ha hc
    clear ha hb hc
    refine Ev.blk (is := [.iconst (-1)]) (pc2 := 14) (L2 := [(2, v0), (0, v1), (0, v2), (0, v3)]) (S2 := [(0, (-1))]) (h2 := h) (by decide +kernel) rfl trivial ?_
    cases hx
    exact Ev.ret (i := .ireturn) (len := 1) (by decide +kernel) rfl (finOf (t := some .int) rfl (trivial))
  · have hx := hb hc
    clear ha hb hc
    refine Ev.blk (is := [.iload_n 2]) (pc2 := 5) (L2 := [(2, v0), (0, v1), (0, v2), (0, v3)]) (S2 := [(0, v2)]) (h2 := h) (by decide +kernel) rfl trivial ?_
    obtain ⟨ha, hb⟩ := bite hx
    clear hx
    refine Ev.br (i := .ifCond .lt 8) (len := 3) (a := 13) (b := 8) (by decide +kernel) rfl Iff.rfl (fun hc => ?_) (fun hc => ?_)
    · have hx := ha hc
      clear ha hb hc
      refine Ev.blk (is := [.iconst (-1)]) (pc2 := 14) (L2 := [(2, v0), (0, v1), (0, v2), (0, v3)]) (S2 := [(0, (-1))]) (h2 := h) (by decide +kernel) rfl trivial ?_
      cases hx
      exact Ev.ret (i := .ireturn) (len := 1) (by decide +kernel) rfl (finOf (t := some .int) rfl (trivial))
    · have hx := hb hc
      clear ha hb hc
      refine Ev.blk (is := [.iload_n 3, .iconst 1]) (pc2 := 10) (L2 := [(2, v0), (0, v1), (0, v2), (0, v3)]) (S2 := [(0, 1), (0, v3)]) (h2 := h) (by decide +kernel) rfl trivial ?_
      obtain ⟨ha, hb⟩ := bite hx
      clear hx
      refine Ev.br (i := .if_icmp .ge 5) (len := 3) (a := 13) (b := 15) (by decide +kernel) rfl Iff.rfl (fun hc => ?_) (fun hc => ?_)
      · have hx := ha hc
        clear ha hb hc
        refine Ev.blk (is := [.iconst (-1)]) (pc2 := 14) (L2 := [(2, v0), (0, v1), (0, v2), (0, v3)]) (S2 := [(0, (-1))]) (h2 := h) (by decide +kernel) rfl trivial ?_
        cases hx
        exact Ev.ret (i := .ireturn) (len := 1) (by decide +kernel) rfl (finOf (t := some .int) rfl (trivial))
      · have hx := hb hc
        clear ha hb hc
        refine Ev.blk (is := [.iload_n 1, .i2l, .iload_n 2, .i2l, .iload_n 3, .i2l]) (pc2 := 21) (L2 := [(2, v0), (0, v1), (0, v2), (0, v3)]) (S2 := [(1, v3), (1, v2), (1, v1)]) (h2 := h) (by decide +kernel) rfl trivial ?_
        obtain ⟨u1, hc, hx⟩ := bca hx
        refine Ev.call (args := [(1, v1), (1, v2), (1, v3)]) (S2 := []) (r1 := (some (1, u1))) (h1 := h) (i := .invokestatic 22) (by decide +kernel) rfl rfl (Nat.le_of_ble_eq_true rfl) (Or.inl rfl) (x_Arithmetic_powerLeft (by omega) hc) ?_
        refine Ev.blk (is := [.l2i]) (pc2 := 25) (L2 := [(2, v0), (0, v1), (0, v2), (0, v3)]) (S2 := [(0, w32 u1)]) (h2 := h) (by decide +kernel) rfl trivial ?_
        cases hx
        exact Ev.ret (i := .ireturn) (len := 1) (by decide +kernel) rfl (finOf (t := some .int) rfl (trivial))
theorem y_Factors_unitCount_4 {sc : AS} {d : Nat} (hd : 0 ≤ d) : ∀ (fu : Nat) (v0 : Int) (v2 : Int) (v3 : Int) (h : AH) (r : Int), Factors_unitCount_4 fu v0 v2 v3 h = some r → Ev sc d 149 4 [(2, v0), (9, 0), (0, v2), (0, v3)] [] h (some (0, r)) h := by
  intro fu
  induction fu with
  | zero => intro v0 v2 v3 h r hx; unfold Factors_unitCount_4 at hx; cases hx
  | succ fu ih =>
    intro v0 v2 v3 h r hx
    unfold Factors_unitCount_4 at hx
    obtain ⟨u1, hg, he, hx⟩ := bgd hx
    refine Ev.blk (is := [.iload_n 3, .aload_n 0, .getfield 2]) (pc2 := 9) (L2 := [(2, v0), (9, 0), (0, v2), (0, v3)]) (S2 := [(0, u1), (0, v3)]) (h2 := h) (by decide +kernel) (by subst he; rfl) (by exact hg) ?_
    clear hg he
    obtain ⟨ha, hb⟩ := bite hx
    clear hx
    refine Ev.br (i := .if_icmp .ge 37) (len := 3) (a := 12) (b := 46) (by decide +kernel) rfl Iff.rfl (fun hc => ?_) (fun hc => ?_)
    · have hx := ha hc
      clear ha hb hc
      obtain ⟨u2, hg, he, hx⟩ := bgd hx
      refine Ev.blk (is := [.aload_n 0, .getfield 200]) (pc2 := 16) (L2 := [(2, v0), (9, 0), (0, v2), (0, v3)]) (S2 := [(2, u2)]) (h2 := h) (by decide +kernel) (by subst he; rfl) (by exact hg) ?_
      clear hg he
      obtain ⟨u3, hg, he, hx⟩ := bgd hx
      refine Ev.blk (is := [.iload_n 3, .iaload]) (pc2 := 18) (L2 := [(2, v0), (9, 0), (0, v2), (0, v3)]) (S2 := [(0, u3)]) (h2 := h) (by decide +kernel) (by subst he; rfl) (by exact hg) ?_
      clear hg he
      refine Ev.blk (is := [.iconst 1]) (pc2 := 19) (L2 := [(2, v0), (9, 0), (0, v2), (0, v3)]) (S2 := [(0, 1), (0, u3)]) (h2 := h) (by decide +kernel) rfl trivial ?_
      obtain ⟨ha, hb⟩ := bite hx
      clear hx
      refine Ev.br (i := .if_icmp .le 21) (len := 3) (a := 22) (b := 40) (by decide +kernel) rfl Iff.rfl (fun hc => ?_) (fun hc => ?_)
      · have hx := ha hc
        clear ha hb hc
        obtain ⟨u4, hg, he, hx⟩ := bgd hx
        refine Ev.blk (is := [.iload_n 2, .aload_n 0, .getfield 200]) (pc2 := 27) (L2 := [(2, v0), (9, 0), (0, v2), (0, v3)]) (S2 := [(2, u4), (0, v2)]) (h2 := h) (by decide +kernel) (by subst he; rfl) (by exact hg) ?_
        clear hg he
        obtain ⟨u5, hg, he, hx⟩ := bgd hx
        refine Ev.blk (is := [.iload_n 3, .iaload]) (pc2 := 29) (L2 := [(2, v0), (9, 0), (0, v2), (0, v3)]) (S2 := [(0, u5), (0, v2)]) (h2 := h) (by decide +kernel) (by subst he; rfl) (by exact hg) ?_
        clear hg he
        obtain ⟨u6, hg, he, hx⟩ := bgd hx
        refine Ev.blk (is := [.idiv]) (pc2 := 30) (L2 := [(2, v0), (9, 0), (0, v2), (0, v3)]) (S2 := [(0, u6)]) (h2 := h) (by decide +kernel) (by subst he; rfl) (by exact hg) ?_
        clear hg he
        obtain ⟨u7, hg, he, hx⟩ := bgd hx
        refine Ev.blk (is := [.aload_n 0, .getfield 200]) (pc2 := 34) (L2 := [(2, v0), (9, 0), (0, v2), (0, v3)]) (S2 := [(2, u7), (0, u6)]) (h2 := h) (by decide +kernel) (by subst he; rfl) (by exact hg) ?_
        clear hg he
        obtain ⟨u8, hg, he, hx⟩ := bgd hx
        refine Ev.blk (is := [.iload_n 3, .iaload]) (pc2 := 36) (L2 := [(2, v0), (9, 0), (0, v2), (0, v3)]) (S2 := [(0, u8), (0, u6)]) (h2 := h) (by decide +kernel) (by subst he; rfl) (by exact hg) ?_
        clear hg he
        refine Ev.blk (is := [.iconst 1, .isub, .imul, .istore_n 2, .iinc 3 1]) (pc2 := 43) (L2 := [(2, v0), (9, 0), (0, w32 (u6 * (w32 (u8 - 1)))), (0, w32 (v3 + 1))]) (S2 := []) (h2 := h) (by decide +kernel) rfl trivial ?_
        refine Ev.jp (i := .goto (-39)) (len := 3) (pc2 := 4) (by decide +kernel) rfl ?_
        exact ih v0 (w32 (u6 * (w32 (u8 - 1)))) (w32 (v3 + 1)) h _ hx
      · have hx := hb hc
        clear ha hb hc
        refine Ev.blk (is := [.iinc 3 1]) (pc2 := 43) (L2 := [(2, v0), (9, 0), (0, v2), (0, w32 (v3 + 1))]) (S2 := []) (h2 := h) (by decide +kernel) rfl trivial ?_
        refine Ev.jp (i := .goto (-39)) (len := 3) (pc2 := 4) (by decide +kernel) rfl ?_
        exact ih v0 v2 (w32 (v3 + 1)) h _ hx
    · have hx := hb hc
      clear ha hb hc
      refine Ev.blk (is := [.iload_n 2]) (pc2 := 47) (L2 := [(2, v0), (9, 0), (0, v2), (0, v3)]) (S2 := [(0, v2)]) (h2 := h) (by decide +kernel) rfl trivial ?_
      cases hx
      exact Ev.ret (i := .ireturn) (len := 1) (by decide +kernel) rfl (finOf (t := some .int) rfl (trivial))
theorem x_Factors_unitCount {sc : AS} {d : Nat} (hd : 1 ≤ d) {v0 : Int} {v1 : Int} {h : AH} {r : Int} (hx : Factors_unitCount v0 v1 h = some r) : Runs sc d 149 [(2, v0), (0, v1)] h (some (0, r)) h := by
  obtain ⟨d, rfl⟩ : ∃ e, d = e + 1 := ⟨d - 1, by omega⟩
  have hd : 0 ≤ d := by omega
  unfold Factors_unitCount at hx
  refine ⟨⟨aM_149, rfl, Nat.le_of_ble_eq_true rfl⟩, ?_⟩
  show Ev sc d 149 0 [(2, v0), (0, v1), (9, 0), (9, 0)] [] h (some (0, r)) h
  refine Ev.blk (is := [.iload_n 1, .istore_n 2, .iconst 0, .istore_n 3]) (pc2 := 4) (L2 := [(2, v0), (0, v1), (0, v1), (0, 0)]) (S2 := []) (h2 := h) (by decide +kernel) rfl trivial ?_
  refine Ev.wk (L2 := [(2, v0), (9, 0), (0, v1), (0, 0)]) (wkL_of ⟨Or.inl rfl, ⟨Or.inr rfl, ⟨Or.inl rfl, ⟨Or.inl rfl, trivial⟩⟩⟩⟩) ?_
  exact y_Factors_unitCount_4 hd FU v0 v1 0 h _ hx
theorem y_Factors_lessened_39 {sc : AS} {d : Nat} (hd : 1 ≤ d) : ∀ (fu : Nat) (v0 : Int) (v2 : Int) (v3 : Int) (v4 : Int) (v5 : Int) (v6 : Int) (v7 : Int) (h : AH) (r : Int), Factors_lessened_39 fu v0 v2 v3 v4 v5 v6 v7 h = some r → Ev sc d 150 39 [(2, v0), (9, 0), (0, v2), (0, v3), (0, v4), (0, v5), (0, v6), (0, v7)] [] h (some (0, r)) h := by
  intro fu
  induction fu with
  | zero => intro v0 v2 v3 v4 v5 v6 v7 h r hx; unfold Factors_lessened_39 at hx; cases hx
  | succ fu ih =>
    intro v0 v2 v3 v4 v5 v6 v7 h r hx
    unfold Factors_lessened_39 at hx
    obtain ⟨u1, hg, he, hx⟩ := bgd hx
    refine Ev.blk (is := [.iload 7, .aload_n 0, .getfield 201]) (pc2 := 45) (L2 := [(2, v0), (9, 0), (0, v2), (0, v3), (0, v4), (0, v5), (0, v6), (0, v7)]) (S2 := [(2, u1), (0, v7)]) (h2 := h) (by decide +kernel) (by subst he; rfl) (by exact hg) ?_
    clear hg he
    obtain ⟨u2, hg, he, hx⟩ := bgd hx
    refine Ev.blk (is := [.iload_n 2, .iaload]) (pc2 := 47) (L2 := [(2, v0), (9, 0), (0, v2), (0, v3), (0, v4), (0, v5), (0, v6), (0, v7)]) (S2 := [(0, u2), (0, v7)]) (h2 := h) (by decide +kernel) (by subst he; rfl) (by exact hg) ?_
    clear hg he
    obtain ⟨ha, hb⟩ := bite hx
    clear hx
    refine Ev.br (i := .if_icmp .ge 46) (len := 3) (a := 50) (b := 93) (by decide +kernel) rfl Iff.rfl (fun hc => ?_) (fun hc => ?_)
    · have hx := ha hc
      clear ha hb hc
      obtain ⟨u3, hg, he, hx⟩ := bgd hx
      refine Ev.blk (is := [.iload 5, .iload 6, .irem]) (pc2 := 55) (L2 := [(2, v0), (9, 0), (0, v2), (0, v3), (0, v4), (0, v5), (0, v6), (0, v7)]) (S2 := [(0, u3)]) (h2 := h) (by decide +kernel) (by subst he; rfl) (by exact hg) ?_
      clear hg he
      obtain ⟨ha, hb⟩ := bite hx
      clear hx
      refine Ev.br (i := .ifCond .ne 38) (len := 3) (a := 58) (b := 93) (by decide +kernel) rfl Iff.rfl (fun hc => ?_) (fun hc => ?_)
      · have hx := ha hc
        clear ha hb hc
        obtain ⟨u4, hg, he, hx⟩ := bgd hx
        refine Ev.blk (is := [.iload_n 3, .i2l, .iload 5, .iload 6, .idiv]) (pc2 := 65) (L2 := [(2, v0), (9, 0), (0, v2), (0, v3), (0, v4), (0, v5), (0, v6), (0, v7)]) (S2 := [(0, u4), (1, v3)]) (h2 := h) (by decide +kernel) (by subst he; rfl) (by exact hg) ?_
        clear hg he
        refine Ev.blk (is := [.i2l, .iload 4, .i2l]) (pc2 := 69) (L2 := [(2, v0), (9, 0), (0, v2), (0, v3), (0, v4), (0, v5), (0, v6), (0, v7)]) (S2 := [(1, v4), (1, u4), (1, v3)]) (h2 := h) (by decide +kernel) rfl trivial ?_
        obtain ⟨u5, hc, hx⟩ := bca hx
        refine Ev.call (args := [(1, v3), (1, u4), (1, v4)]) (S2 := []) (r1 := (some (1, u5))) (h1 := h) (i := .invokestatic 22) (by decide +kernel) rfl rfl (Nat.le_of_ble_eq_true rfl) (Or.inl rfl) (x_Arithmetic_powerLeft (by omega) hc) ?_
        refine Ev.blk (is := [.lconst 1, .lcmp]) (pc2 := 74) (L2 := [(2, v0), (9, 0), (0, v2), (0, v3), (0, v4), (0, v5), (0, v6), (0, v7)]) (S2 := [(0, cmpL u5 1)]) (h2 := h) (by decide +kernel) rfl trivial ?_
        obtain ⟨ha, hb⟩ := bite hx
        clear hx
        refine Ev.br (i := .ifCond .eq 6) (len := 3) (a := 80) (b := 77) (by decide +kernel) rfl cmpL_eq (fun hc => ?_) (fun hc => ?_)
        · have hx := ha hc
          clear ha hb hc
          obtain ⟨u6, hg, he, hx⟩ := bgd hx
          refine Ev.blk (is := [.iload 5, .iload 6, .idiv]) (pc2 := 85) (L2 := [(2, v0), (9, 0), (0, v2), (0, v3), (0, v4), (0, v5), (0, v6), (0, v7)]) (S2 := [(0, u6)]) (h2 := h) (by decide +kernel) (by subst he; rfl) (by exact hg) ?_
          clear hg he
          refine Ev.blk (is := [.istore 5, .iinc 7 1]) (pc2 := 90) (L2 := [(2, v0), (9, 0), (0, v2), (0, v3), (0, v4), (0, u6), (0, v6), (0, w32 (v7 + 1))]) (S2 := []) (h2 := h) (by decide +kernel) rfl trivial ?_
          refine Ev.jp (i := .goto (-51)) (len := 3) (pc2 := 39) (by decide +kernel) rfl ?_
          exact ih v0 v2 v3 v4 u6 v6 (w32 (v7 + 1)) h _ hx
        · have hx := hb hc
          clear ha hb hc
          refine Ev.blk (is := [.iload 5]) (pc2 := 79) (L2 := [(2, v0), (9, 0), (0, v2), (0, v3), (0, v4), (0, v5), (0, v6), (0, v7)]) (S2 := [(0, v5)]) (h2 := h) (by decide +kernel) rfl trivial ?_
          cases hx
          exact Ev.ret (i := .ireturn) (len := 1) (by decide +kernel) rfl (finOf (t := some .int) rfl (trivial))
      · have hx := hb hc
        clear ha hb hc
        refine Ev.blk (is := [.iload 5]) (pc2 := 95) (L2 := [(2, v0), (9, 0), (0, v2), (0, v3), (0, v4), (0, v5), (0, v6), (0, v7)]) (S2 := [(0, v5)]) (h2 := h) (by decide +kernel) rfl trivial ?_
        cases hx
        exact Ev.ret (i := .ireturn) (len := 1) (by decide +kernel) rfl (finOf (t := some .int) rfl (trivial))
    · have hx := hb hc
      clear ha hb hc
      refine Ev.blk (is := [.iload 5]) (pc2 := 95) (L2 := [(2, v0), (9, 0), (0, v2), (0, v3), (0, v4), (0, v5), (0, v6), (0, v7)]) (S2 := [(0, v5)]) (h2 := h) (by decide +kernel) rfl trivial ?_
      cases hx
      exact Ev.ret (i := .ireturn) (len := 1) (by decide +kernel) rfl (finOf (t := some .int) rfl (trivial))
theorem x_Factors_lessened {sc : AS} {d : Nat} (hd : 2 ≤ d) {v0 : Int} {v1 : Int} {v2 : Int} {v3 : Int} {v4 : Int} {h : AH} {r : Int} (hx : Factors_lessened v0 v1 v2 v3 v4 h = some r) : Runs sc d 150 [(2, v0), (0, v1), (0, v2), (0, v3), (0, v4)] h (some (0, r)) h := by
  obtain ⟨d, rfl⟩ : ∃ e, d = e + 1 := ⟨d - 1, by omega⟩
  have hd : 1 ≤ d := by omega
  unfold Factors_lessened at hx
  refine ⟨⟨aM_150, rfl, Nat.le_of_ble_eq_true rfl⟩, ?_⟩
  show Ev sc d 150 0 [(2, v0), (0, v1), (0, v2), (0, v3), (0, v4), (9, 0), (9, 0), (9, 0)] [] h (some (0, r)) h
  refine Ev.blk (is := [.iload_n 1, .istore 5, .iload_n 2]) (pc2 := 4) (L2 := [(2, v0), (0, v1), (0, v2), (0, v3), (0, v4), (0, v1), (9, 0), (9, 0)]) (S2 := [(0, v2)]) (h2 := h) (by decide +kernel) rfl trivial ?_
  obtain ⟨ha, hb⟩ := bite hx
  clear hx
  refine Ev.br (i := .ifCond .lt 21) (len := 3) (a := 25) (b := 7) (by decide +kernel) rfl Iff.rfl (fun hc => ?_) (fun hc => ?_)
  · have hx := ha hc
    clear ha hb hc
    refine Ev.blk (is := [.iload 5]) (pc2 := 27) (L2 := [(2, v0), (0, v1), (0, v2), (0, v3), (0, v4), (0, v1), (9, 0), (9, 0)]) (S2 := [(0, v1)]) (h2 := h) (by decide +kernel) rfl trivial ?_
    cases hx
    exact Ev.ret (i := .ireturn) (len := 1) (by decide +kernel) rfl (finOf (t := some .int) rfl (trivial))
  · have hx := hb hc
    clear ha hb hc
    obtain ⟨u1, hg, he, hx⟩ := bgd hx
    refine Ev.blk (is := [.iload_n 2, .aload_n 0, .getfield 2]) (pc2 := 12) (L2 := [(2, v0), (0, v1), (0, v2), (0, v3), (0, v4), (0, v1), (9, 0), (9, 0)]) (S2 := [(0, u1), (0, v2)]) (h2 := h) (by decide +kernel) (by subst he; rfl) (by exact hg) ?_
    clear hg he
    obtain ⟨ha, hb⟩ := bite hx
    clear hx
    refine Ev.br (i := .if_icmp .ge 13) (len := 3) (a := 15) (b := 25) (by decide +kernel) rfl Iff.rfl (fun hc => ?_) (fun hc => ?_)
    · have hx := ha hc
      clear ha hb hc
      obtain ⟨u2, hg, he, hx⟩ := bgd hx
      refine Ev.blk (is := [.aload_n 0, .getfield 200]) (pc2 := 19) (L2 := [(2, v0), (0, v1), (0, v2), (0, v3), (0, v4), (0, v1), (9, 0), (9, 0)]) (S2 := [(2, u2)]) (h2 := h) (by decide +kernel) (by subst he; rfl) (by exact hg) ?_
      clear hg he
      obtain ⟨u3, hg, he, hx⟩ := bgd hx
      refine Ev.blk (is := [.iload_n 2, .iaload]) (pc2 := 21) (L2 := [(2, v0), (0, v1), (0, v2), (0, v3), (0, v4), (0, v1), (9, 0), (9, 0)]) (S2 := [(0, u3)]) (h2 := h) (by decide +kernel) (by subst he; rfl) (by exact hg) ?_
      clear hg he
      refine Ev.blk (is := [.iconst 2]) (pc2 := 22) (L2 := [(2, v0), (0, v1), (0, v2), (0, v3), (0, v4), (0, v1), (9, 0), (9, 0)]) (S2 := [(0, 2), (0, u3)]) (h2 := h) (by decide +kernel) rfl trivial ?_
      obtain ⟨ha, hb⟩ := bite hx
      clear hx
      refine Ev.br (i := .if_icmp .ge 6) (len := 3) (a := 25) (b := 28) (by decide +kernel) rfl Iff.rfl (fun hc => ?_) (fun hc => ?_)
      · have hx := ha hc
        clear ha hb hc
        refine Ev.blk (is := [.iload 5]) (pc2 := 27) (L2 := [(2, v0), (0, v1), (0, v2), (0, v3), (0, v4), (0, v1), (9, 0), (9, 0)]) (S2 := [(0, v1)]) (h2 := h) (by decide +kernel) rfl trivial ?_
        cases hx
        exact Ev.ret (i := .ireturn) (len := 1) (by decide +kernel) rfl (finOf (t := some .int) rfl (trivial))
      · have hx := hb hc
        clear ha hb hc
        obtain ⟨u4, hg, he, hx⟩ := bgd hx
        refine Ev.blk (is := [.aload_n 0, .getfield 200]) (pc2 := 32) (L2 := [(2, v0), (0, v1), (0, v2), (0, v3), (0, v4), (0, v1), (9, 0), (9, 0)]) (S2 := [(2, u4)]) (h2 := h) (by decide +kernel) (by subst he; rfl) (by exact hg) ?_
        clear hg he
        obtain ⟨u5, hg, he, hx⟩ := bgd hx
        refine Ev.blk (is := [.iload_n 2, .iaload]) (pc2 := 34) (L2 := [(2, v0), (0, v1), (0, v2), (0, v3), (0, v4), (0, v1), (9, 0), (9, 0)]) (S2 := [(0, u5)]) (h2 := h) (by decide +kernel) (by subst he; rfl) (by exact hg) ?_
        clear hg he
        refine Ev.blk (is := [.istore 6, .iconst 0, .istore 7]) (pc2 := 39) (L2 := [(2, v0), (0, v1), (0, v2), (0, v3), (0, v4), (0, v1), (0, u5), (0, 0)]) (S2 := []) (h2 := h) (by decide +kernel) rfl trivial ?_
        refine Ev.wk (L2 := [(2, v0), (9, 0), (0, v2), (0, v3), (0, v4), (0, v1), (0, u5), (0, 0)]) (wkL_of ⟨Or.inl rfl, ⟨Or.inr rfl, ⟨Or.inl rfl, ⟨Or.inl rfl, ⟨Or.inl rfl, ⟨Or.inl rfl, ⟨Or.inl rfl, ⟨Or.inl rfl, trivial⟩⟩⟩⟩⟩⟩⟩⟩) ?_
        exact y_Factors_lessened_39 hd FU v0 v2 v3 v4 v1 u5 0 h _ hx
    · have hx := hb hc
      clear ha hb hc
      refine Ev.blk (is := [.iload 5]) (pc2 := 27) (L2 := [(2, v0), (0, v1), (0, v2), (0, v3), (0, v4), (0, v1), (9, 0), (9, 0)]) (S2 := [(0, v1)]) (h2 := h) (by decide +kernel) rfl trivial ?_
      cases hx
      exact Ev.ret (i := .ireturn) (len := 1) (by decide +kernel) rfl (finOf (t := some .int) rfl (trivial))
theorem y_X_order_61 {sc : AS} {d : Nat} (hd : 4 ≤ d) : ∀ (fu : Nat) (v0 : Int) (v1 : Int) (v2 : Int) (v3 : Int) (v4 : Int) (h : AH) (r : (Int × AH)), X_order_61 fu v0 v1 v2 v3 v4 h = some r → Ev sc d 148 61 [(2, v0), (0, v1), (0, v2), (0, v3), (0, v4)] [] h (some (0, r.1)) r.2 := by
  intro fu
  induction fu with
  | zero => intro v0 v1 v2 v3 v4 h r hx; unfold X_order_61 at hx; cases hx
  | succ fu ih =>
    intro v0 v1 v2 v3 v4 h r hx
    unfold X_order_61 at hx
    obtain ⟨u1, hg, he, hx⟩ := bgd hx
    refine Ev.blk (is := [.iload 4, .aload_n 0, .getfield 8205]) (pc2 := 67) (L2 := [(2, v0), (0, v1), (0, v2), (0, v3), (0, v4)]) (S2 := [(2, u1), (0, v4)]) (h2 := h) (by decide +kernel) (by subst he; rfl) (by exact hg) ?_
    clear hg he
    obtain ⟨u2, hg, he, hx⟩ := bgd hx
    refine Ev.blk (is := [.getfield 2]) (pc2 := 70) (L2 := [(2, v0), (0, v1), (0, v2), (0, v3), (0, v4)]) (S2 := [(0, u2), (0, v4)]) (h2 := h) (by decide +kernel) (by subst he; rfl) (by exact hg) ?_
    clear hg he
    obtain ⟨ha, hb⟩ := bite hx
    clear hx
    refine Ev.br (i := .if_icmp .ge 22) (len := 3) (a := 73) (b := 92) (by decide +kernel) rfl Iff.rfl (fun hc => ?_) (fun hc => ?_)
    · have hx := ha hc
      clear ha hb hc
      obtain ⟨u3, hg, he, hx⟩ := bgd hx
      refine Ev.blk (is := [.aload_n 0, .getfield 8205]) (pc2 := 77) (L2 := [(2, v0), (0, v1), (0, v2), (0, v3), (0, v4)]) (S2 := [(2, u3)]) (h2 := h) (by decide +kernel) (by subst he; rfl) (by exact hg) ?_
      clear hg he
      refine Ev.blk (is := [.iload_n 3, .iload 4, .iload_n 1, .iload_n 2]) (pc2 := 82) (L2 := [(2, v0), (0, v1), (0, v2), (0, v3), (0, v4)]) (S2 := [(0, v2), (0, v1), (0, v4), (0, v3), (2, u3)]) (h2 := h) (by decide +kernel) rfl trivial ?_
      obtain ⟨_, hg, -, hx⟩ := bgd hx
      obtain ⟨u4, hc, hx⟩ := bca hx
      refine Ev.call (args := [(2, u3), (0, v3), (0, v4), (0, v1), (0, v2)]) (S2 := []) (r1 := (some (0, u4))) (h1 := h) (i := .invokevirtual 150) (by decide +kernel) rfl rfl (Nat.le_of_ble_eq_true rfl) (Or.inr (Or.inl ⟨rfl, hg, by decide +kernel⟩)) (x_Factors_lessened (by omega) hc) ?_
      refine Ev.blk (is := [.istore_n 3, .iinc 4 1]) (pc2 := 89) (L2 := [(2, v0), (0, v1), (0, v2), (0, u4), (0, w32 (v4 + 1))]) (S2 := []) (h2 := h) (by decide +kernel) rfl trivial ?_
      refine Ev.jp (i := .goto (-28)) (len := 3) (pc2 := 61) (by decide +kernel) rfl ?_
      exact ih v0 v1 v2 u4 (w32 (v4 + 1)) h _ hx
    · have hx := hb hc
      clear ha hb hc
      refine Ev.blk (is := [.iload_n 3]) (pc2 := 93) (L2 := [(2, v0), (0, v1), (0, v2), (0, v3), (0, v4)]) (S2 := [(0, v3)]) (h2 := h) (by decide +kernel) rfl trivial ?_
      cases hx
      exact Ev.ret (i := .ireturn) (len := 1) (by decide +kernel) rfl (finOf (t := some .int) rfl (trivial))
theorem x_X_order {sc : AS} {d : Nat} (hd : 5 ≤ d) {v0 : Int} {v1 : Int} {v2 : Int} {h : AH} {r : (Int × AH)} (hx : X_order v0 v1 v2 h = some r) : Runs sc d 148 [(2, v0), (0, v1), (0, v2)] h (some (0, r.1)) r.2 := by
  obtain ⟨d, rfl⟩ : ∃ e, d = e + 1 := ⟨d - 1, by omega⟩
  have hd : 4 ≤ d := by omega
  unfold X_order at hx
  refine ⟨⟨aM_148, rfl, Nat.le_of_ble_eq_true rfl⟩, ?_⟩
  show Ev sc d 148 0 [(2, v0), (0, v1), (0, v2), (9, 0), (9, 0)] [] h (some (0, r.1)) r.2
  refine Ev.blk (is := [.iload_n 1]) (pc2 := 1) (L2 := [(2, v0), (0, v1), (0, v2), (9, 0), (9, 0)]) (S2 := [(0, v1)]) (h2 := h) (by decide +kernel) rfl trivial ?_
  obtain ⟨ha, hb⟩ := bite hx
  clear hx
  refine Ev.br (i := .ifCond .lt 15) (len := 3) (a := 16) (b := 4) (by decide +kernel) rfl Iff.rfl (fun hc => ?_) (fun hc => ?_)
  · have hx := ha hc
    clear ha hb hc
    refine Ev.blk (is := [.iconst (-1)]) (pc2 := 17) (L2 := [(2, v0), (0, v1), (0, v2), (9, 0), (9, 0)]) (S2 := [(0, (-1))]) (h2 := h) (by decide +kernel) rfl trivial ?_
    cases hx
    exact Ev.ret (i := .ireturn) (len := 1) (by decide +kernel) rfl (finOf (t := some .int) rfl (trivial))
  · have hx := hb hc
    clear ha hb hc
    refine Ev.blk (is := [.iload_n 2, .iconst 2]) (pc2 := 6) (L2 := [(2, v0), (0, v1), (0, v2), (9, 0), (9, 0)]) (S2 := [(0, 2), (0, v2)]) (h2 := h) (by decide +kernel) rfl trivial ?_
    obtain ⟨ha, hb⟩ := bite hx
    clear hx
    refine Ev.br (i := .if_icmp .lt 10) (len := 3) (a := 16) (b := 9) (by decide +kernel) rfl Iff.rfl (fun hc => ?_) (fun hc => ?_)
    · have hx := ha hc
      clear ha hb hc
      refine Ev.blk (is := [.iconst (-1)]) (pc2 := 17) (L2 := [(2, v0), (0, v1), (0, v2), (9, 0), (9, 0)]) (S2 := [(0, (-1))]) (h2 := h) (by decide +kernel) rfl trivial ?_
      cases hx
      exact Ev.ret (i := .ireturn) (len := 1) (by decide +kernel) rfl (finOf (t := some .int) rfl (trivial))
    · have hx := hb hc
      clear ha hb hc
      refine Ev.blk (is := [.iload_n 2, .sipush 1000000]) (pc2 := 13) (L2 := [(2, v0), (0, v1), (0, v2), (9, 0), (9, 0)]) (S2 := [(0, 1000000), (0, v2)]) (h2 := h) (by decide +kernel) rfl trivial ?_
      obtain ⟨ha, hb⟩ := bite hx
      clear hx
      refine Ev.br (i := .if_icmp .le 5) (len := 3) (a := 16) (b := 18) (by decide +kernel) rfl Iff.rfl (fun hc => ?_) (fun hc => ?_)
      · have hx := ha hc
        clear ha hb hc
        refine Ev.blk (is := [.iconst (-1)]) (pc2 := 17) (L2 := [(2, v0), (0, v1), (0, v2), (9, 0), (9, 0)]) (S2 := [(0, (-1))]) (h2 := h) (by decide +kernel) rfl trivial ?_
        cases hx
        exact Ev.ret (i := .ireturn) (len := 1) (by decide +kernel) rfl (finOf (t := some .int) rfl (trivial))
      · have hx := hb hc
        clear ha hb hc
        refine Ev.blk (is := [.iload_n 1, .i2l, .iload_n 2, .i2l]) (pc2 := 22) (L2 := [(2, v0), (0, v1), (0, v2), (9, 0), (9, 0)]) (S2 := [(1, v2), (1, v1)]) (h2 := h) (by decide +kernel) rfl trivial ?_
        obtain ⟨u1, hc, hx⟩ := bca hx
        refine Ev.call (args := [(1, v1), (1, v2)]) (S2 := []) (r1 := (some (1, u1))) (h1 := h) (i := .invokestatic 37) (by decide +kernel) rfl rfl (Nat.le_of_ble_eq_true rfl) (Or.inl rfl) (x_Arithmetic_commonOf (by omega) hc) ?_
        refine Ev.blk (is := [.lconst 1, .lcmp]) (pc2 := 27) (L2 := [(2, v0), (0, v1), (0, v2), (9, 0), (9, 0)]) (S2 := [(0, cmpL u1 1)]) (h2 := h) (by decide +kernel) rfl trivial ?_
        obtain ⟨ha, hb⟩ := bite hx
        clear hx
        refine Ev.br (i := .ifCond .eq 6) (len := 3) (a := 33) (b := 30) (by decide +kernel) rfl cmpL_eq (fun hc => ?_) (fun hc => ?_)
        · have hx := ha hc
          clear ha hb hc
          obtain ⟨u2, hg, he, hx⟩ := bgd hx
          refine Ev.blk (is := [.aload_n 0, .getfield 8205]) (pc2 := 37) (L2 := [(2, v0), (0, v1), (0, v2), (9, 0), (9, 0)]) (S2 := [(2, u2)]) (h2 := h) (by decide +kernel) (by subst he; rfl) (by exact hg) ?_
          clear hg he
          refine Ev.blk (is := [.iload_n 2]) (pc2 := 38) (L2 := [(2, v0), (0, v1), (0, v2), (9, 0), (9, 0)]) (S2 := [(0, v2), (2, u2)]) (h2 := h) (by decide +kernel) rfl trivial ?_
          obtain ⟨_, hg, -, hx⟩ := bgd hx
          obtain ⟨h4, hc, hx⟩ := bca hx
          refine Ev.call (args := [(2, u2), (0, v2)]) (S2 := []) (r1 := none) (h1 := h4) (i := .invokevirtual 23) (by decide +kernel) rfl rfl (Nat.le_of_ble_eq_true rfl) (Or.inr (Or.inl ⟨rfl, hg, by decide +kernel⟩)) (x_Factors_split (by omega) hc) ?_
          obtain ⟨u5, hg, he, hx⟩ := bgd hx
          refine Ev.blk (is := [.aload_n 0, .getfield 8205]) (pc2 := 45) (L2 := [(2, v0), (0, v1), (0, v2), (9, 0), (9, 0)]) (S2 := [(2, u5)]) (h2 := h4) (by decide +kernel) (by subst he; rfl) (by exact hg) ?_
          clear hg he
          refine Ev.blk (is := [.iload_n 2]) (pc2 := 46) (L2 := [(2, v0), (0, v1), (0, v2), (9, 0), (9, 0)]) (S2 := [(0, v2), (2, u5)]) (h2 := h4) (by decide +kernel) rfl trivial ?_
          obtain ⟨_, hg, -, hx⟩ := bgd hx
          obtain ⟨u6, hc, hx⟩ := bca hx
          refine Ev.call (args := [(2, u5), (0, v2)]) (S2 := []) (r1 := (some (0, u6))) (h1 := h4) (i := .invokevirtual 149) (by decide +kernel) rfl rfl (Nat.le_of_ble_eq_true rfl) (Or.inr (Or.inl ⟨rfl, hg, by decide +kernel⟩)) (x_Factors_unitCount (by omega) hc) ?_
          obtain ⟨u7, hg, he, hx⟩ := bgd hx
          refine Ev.blk (is := [.istore_n 3, .aload_n 0, .getfield 8205]) (pc2 := 54) (L2 := [(2, v0), (0, v1), (0, v2), (0, u6), (9, 0)]) (S2 := [(2, u7)]) (h2 := h4) (by decide +kernel) (by subst he; rfl) (by exact hg) ?_
          clear hg he
          refine Ev.blk (is := [.iload_n 3]) (pc2 := 55) (L2 := [(2, v0), (0, v1), (0, v2), (0, u6), (9, 0)]) (S2 := [(0, u6), (2, u7)]) (h2 := h4) (by decide +kernel) rfl trivial ?_
          obtain ⟨_, hg, -, hx⟩ := bgd hx
          obtain ⟨h9, hc, hx⟩ := bca hx
          refine Ev.call (args := [(2, u7), (0, u6)]) (S2 := []) (r1 := none) (h1 := h9) (i := .invokevirtual 23) (by decide +kernel) rfl rfl (Nat.le_of_ble_eq_true rfl) (Or.inr (Or.inl ⟨rfl, hg, by decide +kernel⟩)) (x_Factors_split (by omega) hc) ?_
          refine Ev.blk (is := [.iconst 0, .istore 4]) (pc2 := 61) (L2 := [(2, v0), (0, v1), (0, v2), (0, u6), (0, 0)]) (S2 := []) (h2 := h9) (by decide +kernel) rfl trivial ?_
          exact y_X_order_61 hd FU v0 v1 v2 u6 0 h9 _ hx
        · have hx := hb hc
          clear ha hb hc
          refine Ev.blk (is := [.sipush (-2)]) (pc2 := 32) (L2 := [(2, v0), (0, v1), (0, v2), (9, 0), (9, 0)]) (S2 := [(0, (-2))]) (h2 := h) (by decide +kernel) rfl trivial ?_
          cases hx
          exact Ev.ret (i := .ireturn) (len := 1) (by decide +kernel) rfl (finOf (t := some .int) rfl (trivial))
theorem x_X_jacobi {sc : AS} {d : Nat} (hd : 3 ≤ d) {v0 : Int} {v1 : Int} {v2 : Int} {h : AH} {r : Int} (hx : X_jacobi v0 v1 v2 = some r) : Runs sc d 151 [(2, v0), (0, v1), (0, v2)] h (some (0, r)) h := by
  obtain ⟨d, rfl⟩ : ∃ e, d = e + 1 := ⟨d - 1, by omega⟩
  have hd : 2 ≤ d := by omega
  unfold X_jacobi at hx
  refine ⟨⟨aM_151, rfl, Nat.le_of_ble_eq_true rfl⟩, ?_⟩
  show Ev sc d 151 0 [(2, v0), (0, v1), (0, v2)] [] h (some (0, r)) h
  refine Ev.blk (is := [.iload_n 2, .iconst 1]) (pc2 := 2) (L2 := [(2, v0), (0, v1), (0, v2)]) (S2 := [(0, 1), (0, v2)]) (h2 := h) (by decide +kernel) rfl trivial ?_
  obtain ⟨ha, hb⟩ := bite hx
  clear hx
  refine Ev.br (i := .if_icmp .lt 9) (len := 3) (a := 11) (b := 5) (by decide +kernel) rfl Iff.rfl (fun hc => ?_) (fun hc => ?_)
  · have hx := ha hc
    clear ha hb hc
    refine Ev.blk (is := [.sipush (-2)]) (pc2 := 13) (L2 := [(2, v0), (0, v1), (0, v2)]) (S2 := [(0, (-2))]) (h2 := h) (by decide +kernel) rfl trivial ?_
    cases hx
    exact Ev.ret (i := .ireturn) (len := 1) (by decide +kernel) rfl (finOf (t := some .int) rfl (trivial))
  · have hx := hb hc
    clear ha hb hc
    obtain ⟨u1, hg, he, hx⟩ := bgd hx
    refine Ev.blk (is := [.iload_n 2, .iconst 2, .irem]) (pc2 := 8) (L2 := [(2, v0), (0, v1), (0, v2)]) (S2 := [(0, u1)]) (h2 := h) (by decide +kernel) (by subst he; rfl) (by exact hg) ?_
    clear hg he
    obtain ⟨ha, hb⟩ := bite hx
    clear hx
    refine Ev.br (i := .ifCond .ne 6) (len := 3) (a := 11) (b := 14) (by decide +kernel) rfl Iff.rfl (fun hc => ?_) (fun hc => ?_)
    · have hx := ha hc
      clear ha hb hc
      refine Ev.blk (is := [.sipush (-2)]) (pc2 := 13) (L2 := [(2, v0), (0, v1), (0, v2)]) (S2 := [(0, (-2))]) (h2 := h) (by decide +kernel) rfl trivial ?_
      cases hx
      exact Ev.ret (i := .ireturn) (len := 1) (by decide +kernel) rfl (finOf (t := some .int) rfl (trivial))
    · have hx := hb hc
      clear ha hb hc
      refine Ev.blk (is := [.iload_n 1, .i2l, .iload_n 2, .i2l]) (pc2 := 18) (L2 := [(2, v0), (0, v1), (0, v2)]) (S2 := [(1, v2), (1, v1)]) (h2 := h) (by decide +kernel) rfl trivial ?_
      obtain ⟨u2, hc, hx⟩ := bca hx
      refine Ev.call (args := [(1, v1), (1, v2)]) (S2 := []) (r1 := (some (0, u2))) (h1 := h) (i := .invokestatic 48) (by decide +kernel) rfl rfl (Nat.le_of_ble_eq_true rfl) (Or.inl rfl) (x_Arithmetic_jacobiOf (by omega) hc) ?_
      cases hx
      exact Ev.ret (i := .ireturn) (len := 1) (by decide +kernel) rfl (finOf (t := some .int) rfl (trivial))
theorem x_X_u {sc : AS} {d : Nat} (hd : 3 ≤ d) {v0 : Int} {v1 : Int} {v2 : Int} {v3 : Int} {v4 : Int} {h : AH} {r : Int} (hx : X_u v0 v1 v2 v3 v4 = some r) : Runs sc d 152 [(2, v0), (0, v1), (0, v2), (0, v3), (0, v4)] h (some (0, r)) h := by
  obtain ⟨d, rfl⟩ : ∃ e, d = e + 1 := ⟨d - 1, by omega⟩
  have hd : 2 ≤ d := by omega
  unfold X_u at hx
  refine ⟨⟨aM_152, rfl, Nat.le_of_ble_eq_true rfl⟩, ?_⟩
  show Ev sc d 152 0 [(2, v0), (0, v1), (0, v2), (0, v3), (0, v4)] [] h (some (0, r)) h
  refine Ev.blk (is := [.iload_n 1]) (pc2 := 1) (L2 := [(2, v0), (0, v1), (0, v2), (0, v3), (0, v4)]) (S2 := [(0, v1)]) (h2 := h) (by decide +kernel) rfl trivial ?_
  obtain ⟨u1, hc, hx⟩ := bca hx
  refine Ev.call (args := [(0, v1)]) (S2 := []) (r1 := (some (0, u1))) (h1 := h) (i := .invokestatic 94) (by decide +kernel) rfl rfl (Nat.le_of_ble_eq_true rfl) (Or.inl rfl) (x_X_isPQ (by omega) hc) ?_
  obtain ⟨ha, hb⟩ := bite hx
  clear hx
  refine Ev.br (i := .ifCond .eq 28) (len := 3) (a := 32) (b := 7) (by decide +kernel) rfl Iff.rfl (fun hc => ?_) (fun hc => ?_)
  · have hx := ha hc
    clear ha hb hc
    refine Ev.blk (is := [.iconst (-1)]) (pc2 := 33) (L2 := [(2, v0), (0, v1), (0, v2), (0, v3), (0, v4)]) (S2 := [(0, (-1))]) (h2 := h) (by decide +kernel) rfl trivial ?_
    cases hx
    exact Ev.ret (i := .ireturn) (len := 1) (by decide +kernel) rfl (finOf (t := some .int) rfl (trivial))
  · have hx := hb hc
    clear ha hb hc
    refine Ev.blk (is := [.iload_n 2]) (pc2 := 8) (L2 := [(2, v0), (0, v1), (0, v2), (0, v3), (0, v4)]) (S2 := [(0, v2)]) (h2 := h) (by decide +kernel) rfl trivial ?_
    obtain ⟨u2, hc, hx⟩ := bca hx
    refine Ev.call (args := [(0, v2)]) (S2 := []) (r1 := (some (0, u2))) (h1 := h) (i := .invokestatic 94) (by decide +kernel) rfl rfl (Nat.le_of_ble_eq_true rfl) (Or.inl rfl) (x_X_isPQ (by omega) hc) ?_
    obtain ⟨ha, hb⟩ := bite hx
    clear hx
    refine Ev.br (i := .ifCond .eq 21) (len := 3) (a := 32) (b := 14) (by decide +kernel) rfl Iff.rfl (fun hc => ?_) (fun hc => ?_)
    · have hx := ha hc
      clear ha hb hc
      refine Ev.blk (is := [.iconst (-1)]) (pc2 := 33) (L2 := [(2, v0), (0, v1), (0, v2), (0, v3), (0, v4)]) (S2 := [(0, (-1))]) (h2 := h) (by decide +kernel) rfl trivial ?_
      cases hx
      exact Ev.ret (i := .ireturn) (len := 1) (by decide +kernel) rfl (finOf (t := some .int) rfl (trivial))
    · have hx := hb hc
      clear ha hb hc
      refine Ev.blk (is := [.iload_n 3]) (pc2 := 15) (L2 := [(2, v0), (0, v1), (0, v2), (0, v3), (0, v4)]) (S2 := [(0, v3)]) (h2 := h) (by decide +kernel) rfl trivial ?_
      obtain ⟨ha, hb⟩ := bite hx
      clear hx
      refine Ev.br (i := .ifCond .lt 17) (len := 3) (a := 32) (b := 18) (by decide +kernel) rfl Iff.rfl (fun hc => ?_) (fun hc => ?_)
      · have hx := ha hc
        clear ha hb hc
        refine Ev.blk (is := [.iconst (-1)]) (pc2 := 33) (L2 := [(2, v0), (0, v1), (0, v2), (0, v3), (0, v4)]) (S2 := [(0, (-1))]) (h2 := h) (by decide +kernel) rfl trivial ?_
        cases hx
        exact Ev.ret (i := .ireturn) (len := 1) (by decide +kernel) rfl (finOf (t := some .int) rfl (trivial))
      · have hx := hb hc
        clear ha hb hc
        refine Ev.blk (is := [.iload 4, .iconst 1]) (pc2 := 21) (L2 := [(2, v0), (0, v1), (0, v2), (0, v3), (0, v4)]) (S2 := [(0, 1), (0, v4)]) (h2 := h) (by decide +kernel) rfl trivial ?_
        obtain ⟨ha, hb⟩ := bite hx
        clear hx
        refine Ev.br (i := .if_icmp .lt 11) (len := 3) (a := 32) (b := 24) (by decide +kernel) rfl Iff.rfl (fun hc => ?_) (fun hc => ?_)
        · have hx := ha hc
          clear ha hb hc
          refine Ev.blk (is := [.iconst (-1)]) (pc2 := 33) (L2 := [(2, v0), (0, v1), (0, v2), (0, v3), (0, v4)]) (S2 := [(0, (-1))]) (h2 := h) (by decide +kernel) rfl trivial ?_
          cases hx
          exact Ev.ret (i := .ireturn) (len := 1) (by decide +kernel) rfl (finOf (t := some .int) rfl (trivial))
        · have hx := hb hc
          clear ha hb hc
          refine Ev.blk (is := [.iload 4, .sipush 1000000000]) (pc2 := 29) (L2 := [(2, v0), (0, v1), (0, v2), (0, v3), (0, v4)]) (S2 := [(0, 1000000000), (0, v4)]) (h2 := h) (by decide +kernel) rfl trivial ?_
          obtain ⟨ha, hb⟩ := bite hx
          clear hx
          refine Ev.br (i := .if_icmp .le 5) (len := 3) (a := 32) (b := 34) (by decide +kernel) rfl Iff.rfl (fun hc => ?_) (fun hc => ?_)
          · have hx := ha hc
            clear ha hb hc
            refine Ev.blk (is := [.iconst (-1)]) (pc2 := 33) (L2 := [(2, v0), (0, v1), (0, v2), (0, v3), (0, v4)]) (S2 := [(0, (-1))]) (h2 := h) (by decide +kernel) rfl trivial ?_
            cases hx
            exact Ev.ret (i := .ireturn) (len := 1) (by decide +kernel) rfl (finOf (t := some .int) rfl (trivial))
          · have hx := hb hc
            clear ha hb hc
            refine Ev.blk (is := [.iload_n 1, .i2l, .iload_n 2, .i2l, .iload_n 3, .i2l, .iload 4, .i2l]) (pc2 := 43) (L2 := [(2, v0), (0, v1), (0, v2), (0, v3), (0, v4)]) (S2 := [(1, v4), (1, v3), (1, v2), (1, v1)]) (h2 := h) (by decide +kernel) rfl trivial ?_
            obtain ⟨u3, hc, hx⟩ := bca hx
            refine Ev.call (args := [(1, v1), (1, v2), (1, v3), (1, v4)]) (S2 := []) (r1 := (some (1, u3))) (h1 := h) (i := .invokestatic 50) (by decide +kernel) rfl rfl (Nat.le_of_ble_eq_true rfl) (Or.inl rfl) (x_Arithmetic_sequenceLeft (by omega) hc) ?_
            refine Ev.blk (is := [.l2i]) (pc2 := 47) (L2 := [(2, v0), (0, v1), (0, v2), (0, v3), (0, v4)]) (S2 := [(0, w32 u3)]) (h2 := h) (by decide +kernel) rfl trivial ?_
            cases hx
            exact Ev.ret (i := .ireturn) (len := 1) (by decide +kernel) rfl (finOf (t := some .int) rfl (trivial))
theorem x_X_units {sc : AS} {d : Nat} (hd : 5 ≤ d) {v0 : Int} {v1 : Int} {h : AH} {r : (Int × AH)} (hx : X_units v0 v1 h = some r) : Runs sc d 153 [(2, v0), (0, v1)] h (some (0, r.1)) r.2 := by
  obtain ⟨d, rfl⟩ : ∃ e, d = e + 1 := ⟨d - 1, by omega⟩
  have hd : 4 ≤ d := by omega
  unfold X_units at hx
  refine ⟨⟨aM_153, rfl, Nat.le_of_ble_eq_true rfl⟩, ?_⟩
  show Ev sc d 153 0 [(2, v0), (0, v1)] [] h (some (0, r.1)) r.2
  refine Ev.blk (is := [.iload_n 1, .iconst 1]) (pc2 := 2) (L2 := [(2, v0), (0, v1)]) (S2 := [(0, 1), (0, v1)]) (h2 := h) (by decide +kernel) rfl trivial ?_
  obtain ⟨ha, hb⟩ := bite hx
  clear hx
  refine Ev.br (i := .if_icmp .lt 10) (len := 3) (a := 12) (b := 5) (by decide +kernel) rfl Iff.rfl (fun hc => ?_) (fun hc => ?_)
  · have hx := ha hc
    clear ha hb hc
    refine Ev.blk (is := [.iconst (-1)]) (pc2 := 13) (L2 := [(2, v0), (0, v1)]) (S2 := [(0, (-1))]) (h2 := h) (by decide +kernel) rfl trivial ?_
    cases hx
    exact Ev.ret (i := .ireturn) (len := 1) (by decide +kernel) rfl (finOf (t := some .int) rfl (trivial))
  · have hx := hb hc
    clear ha hb hc
    refine Ev.blk (is := [.iload_n 1, .sipush 1000000000]) (pc2 := 9) (L2 := [(2, v0), (0, v1)]) (S2 := [(0, 1000000000), (0, v1)]) (h2 := h) (by decide +kernel) rfl trivial ?_
    obtain ⟨ha, hb⟩ := bite hx
    clear hx
    refine Ev.br (i := .if_icmp .le 5) (len := 3) (a := 12) (b := 14) (by decide +kernel) rfl Iff.rfl (fun hc => ?_) (fun hc => ?_)
    · have hx := ha hc
      clear ha hb hc
      refine Ev.blk (is := [.iconst (-1)]) (pc2 := 13) (L2 := [(2, v0), (0, v1)]) (S2 := [(0, (-1))]) (h2 := h) (by decide +kernel) rfl trivial ?_
      cases hx
      exact Ev.ret (i := .ireturn) (len := 1) (by decide +kernel) rfl (finOf (t := some .int) rfl (trivial))
    · have hx := hb hc
      clear ha hb hc
      obtain ⟨u1, hg, he, hx⟩ := bgd hx
      refine Ev.blk (is := [.aload_n 0, .getfield 8205]) (pc2 := 18) (L2 := [(2, v0), (0, v1)]) (S2 := [(2, u1)]) (h2 := h) (by decide +kernel) (by subst he; rfl) (by exact hg) ?_
      clear hg he
      refine Ev.blk (is := [.iload_n 1]) (pc2 := 19) (L2 := [(2, v0), (0, v1)]) (S2 := [(0, v1), (2, u1)]) (h2 := h) (by decide +kernel) rfl trivial ?_
      obtain ⟨_, hg, -, hx⟩ := bgd hx
      obtain ⟨h3, hc, hx⟩ := bca hx
      refine Ev.call (args := [(2, u1), (0, v1)]) (S2 := []) (r1 := none) (h1 := h3) (i := .invokevirtual 23) (by decide +kernel) rfl rfl (Nat.le_of_ble_eq_true rfl) (Or.inr (Or.inl ⟨rfl, hg, by decide +kernel⟩)) (x_Factors_split (by omega) hc) ?_
      obtain ⟨u4, hg, he, hx⟩ := bgd hx
      refine Ev.blk (is := [.aload_n 0, .getfield 8205]) (pc2 := 26) (L2 := [(2, v0), (0, v1)]) (S2 := [(2, u4)]) (h2 := h3) (by decide +kernel) (by subst he; rfl) (by exact hg) ?_
      clear hg he
      refine Ev.blk (is := [.iload_n 1]) (pc2 := 27) (L2 := [(2, v0), (0, v1)]) (S2 := [(0, v1), (2, u4)]) (h2 := h3) (by decide +kernel) rfl trivial ?_
      obtain ⟨_, hg, -, hx⟩ := bgd hx
      obtain ⟨u5, hc, hx⟩ := bca hx
      refine Ev.call (args := [(2, u4), (0, v1)]) (S2 := []) (r1 := (some (0, u5))) (h1 := h3) (i := .invokevirtual 149) (by decide +kernel) rfl rfl (Nat.le_of_ble_eq_true rfl) (Or.inr (Or.inl ⟨rfl, hg, by decide +kernel⟩)) (x_Factors_unitCount (by omega) hc) ?_
      cases hx
      exact Ev.ret (i := .ireturn) (len := 1) (by decide +kernel) rfl (finOf (t := some .int) rfl (trivial))
theorem x_Lng_bitCount {sc : AS} {d : Nat} (hd : 1 ≤ d) {v0 : Int} {h : AH} {r : Int} (hx : Lng_bitCount v0 = some r) : Runs sc d 155 [(1, v0)] h (some (0, r)) h := by
  obtain ⟨d, rfl⟩ : ∃ e, d = e + 1 := ⟨d - 1, by omega⟩
  have hd : 0 ≤ d := by omega
  unfold Lng_bitCount at hx
  refine ⟨⟨aM_155, rfl, Nat.le_of_ble_eq_true rfl⟩, ?_⟩
  show Ev sc d 155 0 [(1, v0), (8, 0)] [] h (some (0, r)) h
  refine Ev.blk (is := [.lload_n 0, .lload_n 0, .iconst 1, .lushr, .jsr_w 6148914691236517205, .land, .lsub, .lstore_n 0, .lload_n 0, .jsr_w 3689348814741910323, .land, .lload_n 0, .iconst 2, .lushr, .jsr_w 3689348814741910323, .land, .ladd, .lstore_n 0, .lload_n 0, .lload_n 0, .iconst 4, .lushr, .ladd, .jsr_w 1085102592571150095, .land, .lstore_n 0, .lload_n 0, .lload_n 0, .sipush 8, .lushr, .ladd, .lstore_n 0, .lload_n 0, .lload_n 0, .sipush 16, .lushr, .ladd, .lstore_n 0, .lload_n 0, .lload_n 0, .sipush 32, .lushr, .ladd, .lstore_n 0, .lload_n 0, .l2i, .sipush 127, .iand]) (pc2 := 60) (L2 := [(1, w64 ((w64 ((w64 ((andL (w64 ((w64 ((andL (w64 (v0 - (andL (ushrL v0 1) 6148914691236517205))) 3689348814741910323) + (andL (ushrL (w64 (v0 - (andL (ushrL v0 1) 6148914691236517205))) 2) 3689348814741910323))) + (ushrL (w64 ((andL (w64 (v0 - (andL (ushrL v0 1) 6148914691236517205))) 3689348814741910323) + (andL (ushrL (w64 (v0 - (andL (ushrL v0 1) 6148914691236517205))) 2) 3689348814741910323))) 4))) 1085102592571150095) + (ushrL (andL (w64 ((w64 ((andL (w64 (v0 - (andL (ushrL v0 1) 6148914691236517205))) 3689348814741910323) + (andL (ushrL (w64 (v0 - (andL (ushrL v0 1) 6148914691236517205))) 2) 3689348814741910323))) + (ushrL (w64 ((andL (w64 (v0 - (andL (ushrL v0 1) 6148914691236517205))) 3689348814741910323) + (andL (ushrL (w64 (v0 - (andL (ushrL v0 1) 6148914691236517205))) 2) 3689348814741910323))) 4))) 1085102592571150095) 8))) + (ushrL (w64 ((andL (w64 ((w64 ((andL (w64 (v0 - (andL (ushrL v0 1) 6148914691236517205))) 3689348814741910323) + (andL (ushrL (w64 (v0 - (andL (ushrL v0 1) 6148914691236517205))) 2) 3689348814741910323))) + (ushrL (w64 ((andL (w64 (v0 - (andL (ushrL v0 1) 6148914691236517205))) 3689348814741910323) + (andL (ushrL (w64 (v0 - (andL (ushrL v0 1) 6148914691236517205))) 2) 3689348814741910323))) 4))) 1085102592571150095) + (ushrL (andL (w64 ((w64 ((andL (w64 (v0 - (andL (ushrL v0 1) 6148914691236517205))) 3689348814741910323) + (andL (ushrL (w64 (v0 - (andL (ushrL v0 1) 6148914691236517205))) 2) 3689348814741910323))) + (ushrL (w64 ((andL (w64 (v0 - (andL (ushrL v0 1) 6148914691236517205))) 3689348814741910323) + (andL (ushrL (w64 (v0 - (andL (ushrL v0 1) 6148914691236517205))) 2) 3689348814741910323))) 4))) 1085102592571150095) 8))) 16))) + (ushrL (w64 ((w64 ((andL (w64 ((w64 ((andL (w64 (v0 - (andL (ushrL v0 1) 6148914691236517205))) 3689348814741910323) + (andL (ushrL (w64 (v0 - (andL (ushrL v0 1) 6148914691236517205))) 2) 3689348814741910323))) + (ushrL (w64 ((andL (w64 (v0 - (andL (ushrL v0 1) 6148914691236517205))) 3689348814741910323) + (andL (ushrL (w64 (v0 - (andL (ushrL v0 1) 6148914691236517205))) 2) 3689348814741910323))) 4))) 1085102592571150095) + (ushrL (andL (w64 ((w64 ((andL (w64 (v0 - (andL (ushrL v0 1) 6148914691236517205))) 3689348814741910323) + (andL (ushrL (w64 (v0 - (andL (ushrL v0 1) 6148914691236517205))) 2) 3689348814741910323))) + (ushrL (w64 ((andL (w64 (v0 - (andL (ushrL v0 1) 6148914691236517205))) 3689348814741910323) + (andL (ushrL (w64 (v0 - (andL (ushrL v0 1) 6148914691236517205))) 2) 3689348814741910323))) 4))) 1085102592571150095) 8))) + (ushrL (w64 ((andL (w64 ((w64 ((andL (w64 (v0 - (andL (ushrL v0 1) 6148914691236517205))) 3689348814741910323) + (andL (ushrL (w64 (v0 - (andL (ushrL v0 1) 6148914691236517205))) 2) 3689348814741910323))) + (ushrL (w64 ((andL (w64 (v0 - (andL (ushrL v0 1) 6148914691236517205))) 3689348814741910323) + (andL (ushrL (w64 (v0 - (andL (ushrL v0 1) 6148914691236517205))) 2) 3689348814741910323))) 4))) 1085102592571150095) + (ushrL (andL (w64 ((w64 ((andL (w64 (v0 - (andL (ushrL v0 1) 6148914691236517205))) 3689348814741910323) + (andL (ushrL (w64 (v0 - (andL (ushrL v0 1) 6148914691236517205))) 2) 3689348814741910323))) + (ushrL (w64 ((andL (w64 (v0 - (andL (ushrL v0 1) 6148914691236517205))) 3689348814741910323) + (andL (ushrL (w64 (v0 - (andL (ushrL v0 1) 6148914691236517205))) 2) 3689348814741910323))) 4))) 1085102592571150095) 8))) 16))) 32))), (8, 0)]) (S2 := [(0, andI (w32 (w64 ((w64 ((w64 ((andL (w64 ((w64 ((andL (w64 (v0 - (andL (ushrL v0 1) 6148914691236517205))) 3689348814741910323) + (andL (ushrL (w64 (v0 - (andL (ushrL v0 1) 6148914691236517205))) 2) 3689348814741910323))) + (ushrL (w64 ((andL (w64 (v0 - (andL (ushrL v0 1) 6148914691236517205))) 3689348814741910323) + (andL (ushrL (w64 (v0 - (andL (ushrL v0 1) 6148914691236517205))) 2) 3689348814741910323))) 4))) 1085102592571150095) + (ushrL (andL (w64 ((w64 ((andL (w64 (v0 - (andL (ushrL v0 1) 6148914691236517205))) 3689348814741910323) + (andL (ushrL (w64 (v0 - (andL (ushrL v0 1) 6148914691236517205))) 2) 3689348814741910323))) + (ushrL (w64 ((andL (w64 (v0 - (andL (ushrL v0 1) 6148914691236517205))) 3689348814741910323) + (andL (ushrL (w64 (v0 - (andL (ushrL v0 1) 6148914691236517205))) 2) 3689348814741910323))) 4))) 1085102592571150095) 8))) + (ushrL (w64 ((andL (w64 ((w64 ((andL (w64 (v0 - (andL (ushrL v0 1) 6148914691236517205))) 3689348814741910323) + (andL (ushrL (w64 (v0 - (andL (ushrL v0 1) 6148914691236517205))) 2) 3689348814741910323))) + (ushrL (w64 ((andL (w64 (v0 - (andL (ushrL v0 1) 6148914691236517205))) 3689348814741910323) + (andL (ushrL (w64 (v0 - (andL (ushrL v0 1) 6148914691236517205))) 2) 3689348814741910323))) 4))) 1085102592571150095) + (ushrL (andL (w64 ((w64 ((andL (w64 (v0 - (andL (ushrL v0 1) 6148914691236517205))) 3689348814741910323) + (andL (ushrL (w64 (v0 - (andL (ushrL v0 1) 6148914691236517205))) 2) 3689348814741910323))) + (ushrL (w64 ((andL (w64 (v0 - (andL (ushrL v0 1) 6148914691236517205))) 3689348814741910323) + (andL (ushrL (w64 (v0 - (andL (ushrL v0 1) 6148914691236517205))) 2) 3689348814741910323))) 4))) 1085102592571150095) 8))) 16))) + (ushrL (w64 ((w64 ((andL (w64 ((w64 ((andL (w64 (v0 - (andL (ushrL v0 1) 6148914691236517205))) 3689348814741910323) + (andL (ushrL (w64 (v0 - (andL (ushrL v0 1) 6148914691236517205))) 2) 3689348814741910323))) + (ushrL (w64 ((andL (w64 (v0 - (andL (ushrL v0 1) 6148914691236517205))) 3689348814741910323) + (andL (ushrL (w64 (v0 - (andL (ushrL v0 1) 6148914691236517205))) 2) 3689348814741910323))) 4))) 1085102592571150095) + (ushrL (andL (w64 ((w64 ((andL (w64 (v0 - (andL (ushrL v0 1) 6148914691236517205))) 3689348814741910323) + (andL (ushrL (w64 (v0 - (andL (ushrL v0 1) 6148914691236517205))) 2) 3689348814741910323))) + (ushrL (w64 ((andL (w64 (v0 - (andL (ushrL v0 1) 6148914691236517205))) 3689348814741910323) + (andL (ushrL (w64 (v0 - (andL (ushrL v0 1) 6148914691236517205))) 2) 3689348814741910323))) 4))) 1085102592571150095) 8))) + (ushrL (w64 ((andL (w64 ((w64 ((andL (w64 (v0 - (andL (ushrL v0 1) 6148914691236517205))) 3689348814741910323) + (andL (ushrL (w64 (v0 - (andL (ushrL v0 1) 6148914691236517205))) 2) 3689348814741910323))) + (ushrL (w64 ((andL (w64 (v0 - (andL (ushrL v0 1) 6148914691236517205))) 3689348814741910323) + (andL (ushrL (w64 (v0 - (andL (ushrL v0 1) 6148914691236517205))) 2) 3689348814741910323))) 4))) 1085102592571150095) + (ushrL (andL (w64 ((w64 ((andL (w64 (v0 - (andL (ushrL v0 1) 6148914691236517205))) 3689348814741910323) + (andL (ushrL (w64 (v0 - (andL (ushrL v0 1) 6148914691236517205))) 2) 3689348814741910323))) + (ushrL (w64 ((andL (w64 (v0 - (andL (ushrL v0 1) 6148914691236517205))) 3689348814741910323) + (andL (ushrL (w64 (v0 - (andL (ushrL v0 1) 6148914691236517205))) 2) 3689348814741910323))) 4))) 1085102592571150095) 8))) 16))) 32)))) 127)]) (h2 := h) (by decide +kernel) rfl trivial ?_
  cases hx
  exact Ev.ret (i := .ireturn) (len := 1) (by decide +kernel) rfl (finOf (t := some .int) rfl (trivial))
theorem y_Ledger_rowsOfAll_4 {sc : AS} {d : Nat} (hd : 1 ≤ d) : ∀ (fu : Nat) (v0 : Int) (v1 : Int) (v2 : Int) (h : AH) (r : Int), Ledger_rowsOfAll_4 fu v0 v1 v2 h = some r → Ev sc d 156 4 [(2, v0), (0, v1), (0, v2)] [] h (some (0, r)) h := by
  intro fu
  induction fu with
  | zero => intro v0 v1 v2 h r hx; unfold Ledger_rowsOfAll_4 at hx; cases hx
  | succ fu ih =>
    intro v0 v1 v2 h r hx
    unfold Ledger_rowsOfAll_4 at hx
    obtain ⟨u1, hg, he, hx⟩ := bgd hx
    refine Ev.blk (is := [.iload_n 2, .aload_n 0, .getfield 2005]) (pc2 := 9) (L2 := [(2, v0), (0, v1), (0, v2)]) (S2 := [(0, u1), (0, v2)]) (h2 := h) (by decide +kernel) (by subst he; rfl) (by exact hg) ?_
    clear hg he
    obtain ⟨ha, hb⟩ := bite hx
    clear hx
    refine Ev.br (i := .if_icmp .ge 33) (len := 3) (a := 12) (b := 42) (by decide +kernel) rfl Iff.rfl (fun hc => ?_) (fun hc => ?_)
    · have hx := ha hc
      clear ha hb hc
      refine Ev.blk (is := [.iload_n 1, .aload_n 0, .iload_n 2]) (pc2 := 15) (L2 := [(2, v0), (0, v1), (0, v2)]) (S2 := [(0, v2), (2, v0), (0, v1)]) (h2 := h) (by decide +kernel) rfl trivial ?_
      obtain ⟨_, hg, -, hx⟩ := bgd hx
      obtain ⟨u2, hc, hx⟩ := bca hx
      refine Ev.call (args := [(2, v0), (0, v2)]) (S2 := [(0, v1)]) (r1 := (some (0, u2))) (h1 := h) (i := .invokevirtual 13) (by decide +kernel) rfl rfl (Nat.le_of_ble_eq_true rfl) (Or.inr (Or.inl ⟨rfl, hg, by decide +kernel⟩)) (x_Ledger_has (by omega) hc) ?_
      obtain ⟨ha, hb⟩ := bite hx
      clear hx
      refine Ev.br (i := .ifCond .eq 15) (len := 3) (a := 33) (b := 21) (by decide +kernel) rfl Iff.rfl (fun hc => ?_) (fun hc => ?_)
      · have hx := ha hc
        clear ha hb hc
        refine Ev.blk (is := [.iconst 0, .iadd, .istore_n 1, .iinc 2 1]) (pc2 := 39) (L2 := [(2, v0), (0, w32 (v1 + 0)), (0, w32 (v2 + 1))]) (S2 := []) (h2 := h) (by decide +kernel) rfl trivial ?_
        refine Ev.jp (i := .goto (-35)) (len := 3) (pc2 := 4) (by decide +kernel) rfl ?_
        exact ih v0 (w32 (v1 + 0)) (w32 (v2 + 1)) h _ hx
      · have hx := hb hc
        clear ha hb hc
        obtain ⟨u3, hg, he, hx⟩ := bgd hx
        refine Ev.blk (is := [.aload_n 0, .getfield 2200]) (pc2 := 25) (L2 := [(2, v0), (0, v1), (0, v2)]) (S2 := [(2, u3), (0, v1)]) (h2 := h) (by decide +kernel) (by subst he; rfl) (by exact hg) ?_
        clear hg he
        obtain ⟨u4, hg, he, hx⟩ := bgd hx
        refine Ev.blk (is := [.iload_n 2, .aaload]) (pc2 := 27) (L2 := [(2, v0), (0, v1), (0, v2)]) (S2 := [(2, u4), (0, v1)]) (h2 := h) (by decide +kernel) (by subst he; rfl) (by exact hg) ?_
        clear hg he
        obtain ⟨_, hg, -, hx⟩ := bgd hx
        obtain ⟨u5, hc, hx⟩ := bca hx
        refine Ev.call (args := [(2, u4)]) (S2 := [(0, v1)]) (r1 := (some (0, u5))) (h1 := h) (i := .invokevirtual 51) (by decide +kernel) rfl rfl (Nat.le_of_ble_eq_true rfl) (Or.inr (Or.inl ⟨rfl, hg, by decide +kernel⟩)) (x_Line_rowCount (by omega) hc) ?_
        refine Ev.jp (i := .goto 4) (len := 3) (pc2 := 34) (by decide +kernel) rfl ?_
        refine Ev.blk (is := [.iadd, .istore_n 1, .iinc 2 1]) (pc2 := 39) (L2 := [(2, v0), (0, w32 (v1 + u5)), (0, w32 (v2 + 1))]) (S2 := []) (h2 := h) (by decide +kernel) rfl trivial ?_
        refine Ev.jp (i := .goto (-35)) (len := 3) (pc2 := 4) (by decide +kernel) rfl ?_
        exact ih v0 (w32 (v1 + u5)) (w32 (v2 + 1)) h _ hx
    · have hx := hb hc
      clear ha hb hc
      refine Ev.blk (is := [.iload_n 1]) (pc2 := 43) (L2 := [(2, v0), (0, v1), (0, v2)]) (S2 := [(0, v1)]) (h2 := h) (by decide +kernel) rfl trivial ?_
      cases hx
      exact Ev.ret (i := .ireturn) (len := 1) (by decide +kernel) rfl (finOf (t := some .int) rfl (trivial))
theorem x_Ledger_rowsOfAll {sc : AS} {d : Nat} (hd : 2 ≤ d) {v0 : Int} {h : AH} {r : Int} (hx : Ledger_rowsOfAll v0 h = some r) : Runs sc d 156 [(2, v0)] h (some (0, r)) h := by
  obtain ⟨d, rfl⟩ : ∃ e, d = e + 1 := ⟨d - 1, by omega⟩
  have hd : 1 ≤ d := by omega
  unfold Ledger_rowsOfAll at hx
  refine ⟨⟨aM_156, rfl, Nat.le_of_ble_eq_true rfl⟩, ?_⟩
  show Ev sc d 156 0 [(2, v0), (9, 0), (9, 0)] [] h (some (0, r)) h
  refine Ev.blk (is := [.iconst 0, .istore_n 1, .iconst 0, .istore_n 2]) (pc2 := 4) (L2 := [(2, v0), (0, 0), (0, 0)]) (S2 := []) (h2 := h) (by decide +kernel) rfl trivial ?_
  exact y_Ledger_rowsOfAll_4 hd FU v0 0 0 h _ hx
theorem y_Ledger_greatestRight_4 {sc : AS} {d : Nat} (hd : 2 ≤ d) : ∀ (fu : Nat) (v0 : Int) (v1 : Int) (v2 : Int) (h : AH) (r : Int), Ledger_greatestRight_4 fu v0 v1 v2 h = some r → Ev sc d 157 4 [(2, v0), (0, v1), (0, v2)] [] h (some (0, r)) h := by
  intro fu
  induction fu with
  | zero => intro v0 v1 v2 h r hx; unfold Ledger_greatestRight_4 at hx; cases hx
  | succ fu ih =>
    intro v0 v1 v2 h r hx
    unfold Ledger_greatestRight_4 at hx
    obtain ⟨u1, hg, he, hx⟩ := bgd hx
    refine Ev.blk (is := [.iload_n 2, .aload_n 0, .getfield 2005]) (pc2 := 9) (L2 := [(2, v0), (0, v1), (0, v2)]) (S2 := [(0, u1), (0, v2)]) (h2 := h) (by decide +kernel) (by subst he; rfl) (by exact hg) ?_
    clear hg he
    obtain ⟨ha, hb⟩ := bite hx
    clear hx
    refine Ev.br (i := .if_icmp .ge 31) (len := 3) (a := 12) (b := 40) (by decide +kernel) rfl Iff.rfl (fun hc => ?_) (fun hc => ?_)
    · have hx := ha hc
      clear ha hb hc
      refine Ev.blk (is := [.aload_n 0, .iload_n 2]) (pc2 := 14) (L2 := [(2, v0), (0, v1), (0, v2)]) (S2 := [(0, v2), (2, v0)]) (h2 := h) (by decide +kernel) rfl trivial ?_
      obtain ⟨_, hg, -, hx⟩ := bgd hx
      obtain ⟨u2, hc, hx⟩ := bca hx
      refine Ev.call (args := [(2, v0), (0, v2)]) (S2 := []) (r1 := (some (0, u2))) (h1 := h) (i := .invokevirtual 12) (by decide +kernel) rfl rfl (Nat.le_of_ble_eq_true rfl) (Or.inr (Or.inl ⟨rfl, hg, by decide +kernel⟩)) (x_Ledger_isRight (by omega) hc) ?_
      obtain ⟨ha, hb⟩ := bite hx
      clear hx
      refine Ev.br (i := .ifCond .eq 17) (len := 3) (a := 34) (b := 20) (by decide +kernel) rfl Iff.rfl (fun hc => ?_) (fun hc => ?_)
      · have hx := ha hc
        clear ha hb hc
        refine Ev.blk (is := [.iinc 2 1]) (pc2 := 37) (L2 := [(2, v0), (0, v1), (0, w32 (v2 + 1))]) (S2 := []) (h2 := h) (by decide +kernel) rfl trivial ?_
        refine Ev.jp (i := .goto (-33)) (len := 3) (pc2 := 4) (by decide +kernel) rfl ?_
        exact ih v0 v1 (w32 (v2 + 1)) h _ hx
      · have hx := hb hc
        clear ha hb hc
        obtain ⟨u3, hg, he, hx⟩ := bgd hx
        refine Ev.blk (is := [.iload_n 1, .aload_n 0, .getfield 2200]) (pc2 := 25) (L2 := [(2, v0), (0, v1), (0, v2)]) (S2 := [(2, u3), (0, v1)]) (h2 := h) (by decide +kernel) (by subst he; rfl) (by exact hg) ?_
        clear hg he
        obtain ⟨u4, hg, he, hx⟩ := bgd hx
        refine Ev.blk (is := [.iload_n 2, .aaload]) (pc2 := 27) (L2 := [(2, v0), (0, v1), (0, v2)]) (S2 := [(2, u4), (0, v1)]) (h2 := h) (by decide +kernel) (by subst he; rfl) (by exact hg) ?_
        clear hg he
        obtain ⟨u5, hg, he, hx⟩ := bgd hx
        refine Ev.blk (is := [.getfield 3002]) (pc2 := 30) (L2 := [(2, v0), (0, v1), (0, v2)]) (S2 := [(0, u5), (0, v1)]) (h2 := h) (by decide +kernel) (by subst he; rfl) (by exact hg) ?_
        clear hg he
        obtain ⟨u6, hc, hx⟩ := bca hx
        refine Ev.call (args := [(0, v1), (0, u5)]) (S2 := []) (r1 := (some (0, u6))) (h1 := h) (i := .invokestatic 42) (by decide +kernel) rfl rfl (Nat.le_of_ble_eq_true rfl) (Or.inl rfl) (x_Math_max (by omega) hc) ?_
        refine Ev.blk (is := [.istore_n 1, .iinc 2 1]) (pc2 := 37) (L2 := [(2, v0), (0, u6), (0, w32 (v2 + 1))]) (S2 := []) (h2 := h) (by decide +kernel) rfl trivial ?_
        refine Ev.jp (i := .goto (-33)) (len := 3) (pc2 := 4) (by decide +kernel) rfl ?_
        exact ih v0 u6 (w32 (v2 + 1)) h _ hx
    · have hx := hb hc
      clear ha hb hc
      refine Ev.blk (is := [.iload_n 1]) (pc2 := 41) (L2 := [(2, v0), (0, v1), (0, v2)]) (S2 := [(0, v1)]) (h2 := h) (by decide +kernel) rfl trivial ?_
      cases hx
      exact Ev.ret (i := .ireturn) (len := 1) (by decide +kernel) rfl (finOf (t := some .int) rfl (trivial))
theorem x_Ledger_greatestRight {sc : AS} {d : Nat} (hd : 3 ≤ d) {v0 : Int} {h : AH} {r : Int} (hx : Ledger_greatestRight v0 h = some r) : Runs sc d 157 [(2, v0)] h (some (0, r)) h := by
  obtain ⟨d, rfl⟩ : ∃ e, d = e + 1 := ⟨d - 1, by omega⟩
  have hd : 2 ≤ d := by omega
  unfold Ledger_greatestRight at hx
  refine ⟨⟨aM_157, rfl, Nat.le_of_ble_eq_true rfl⟩, ?_⟩
  show Ev sc d 157 0 [(2, v0), (9, 0), (9, 0)] [] h (some (0, r)) h
  refine Ev.blk (is := [.iconst 0, .istore_n 1, .iconst 0, .istore_n 2]) (pc2 := 4) (L2 := [(2, v0), (0, 0), (0, 0)]) (S2 := []) (h2 := h) (by decide +kernel) rfl trivial ?_
  exact y_Ledger_greatestRight_4 hd FU v0 0 0 h _ hx
theorem y_Ledger_deepestRight_4 {sc : AS} {d : Nat} (hd : 2 ≤ d) : ∀ (fu : Nat) (v0 : Int) (v1 : Int) (v2 : Int) (h : AH) (r : Int), Ledger_deepestRight_4 fu v0 v1 v2 h = some r → Ev sc d 158 4 [(2, v0), (0, v1), (0, v2)] [] h (some (0, r)) h := by
  intro fu
  induction fu with
  | zero => intro v0 v1 v2 h r hx; unfold Ledger_deepestRight_4 at hx; cases hx
  | succ fu ih =>
    intro v0 v1 v2 h r hx
    unfold Ledger_deepestRight_4 at hx
    obtain ⟨u1, hg, he, hx⟩ := bgd hx
    refine Ev.blk (is := [.iload_n 2, .aload_n 0, .getfield 2005]) (pc2 := 9) (L2 := [(2, v0), (0, v1), (0, v2)]) (S2 := [(0, u1), (0, v2)]) (h2 := h) (by decide +kernel) (by subst he; rfl) (by exact hg) ?_
    clear hg he
    obtain ⟨ha, hb⟩ := bite hx
    clear hx
    refine Ev.br (i := .if_icmp .ge 28) (len := 3) (a := 12) (b := 37) (by decide +kernel) rfl Iff.rfl (fun hc => ?_) (fun hc => ?_)
    · have hx := ha hc
      clear ha hb hc
      refine Ev.blk (is := [.aload_n 0, .iload_n 2]) (pc2 := 14) (L2 := [(2, v0), (0, v1), (0, v2)]) (S2 := [(0, v2), (2, v0)]) (h2 := h) (by decide +kernel) rfl trivial ?_
      obtain ⟨_, hg, -, hx⟩ := bgd hx
      obtain ⟨u2, hc, hx⟩ := bca hx
      refine Ev.call (args := [(2, v0), (0, v2)]) (S2 := []) (r1 := (some (0, u2))) (h1 := h) (i := .invokevirtual 12) (by decide +kernel) rfl rfl (Nat.le_of_ble_eq_true rfl) (Or.inr (Or.inl ⟨rfl, hg, by decide +kernel⟩)) (x_Ledger_isRight (by omega) hc) ?_
      obtain ⟨ha, hb⟩ := bite hx
      clear hx
      refine Ev.br (i := .ifCond .eq 14) (len := 3) (a := 31) (b := 20) (by decide +kernel) rfl Iff.rfl (fun hc => ?_) (fun hc => ?_)
      · have hx := ha hc
        clear ha hb hc
        refine Ev.blk (is := [.iinc 2 1]) (pc2 := 34) (L2 := [(2, v0), (0, v1), (0, w32 (v2 + 1))]) (S2 := []) (h2 := h) (by decide +kernel) rfl trivial ?_
        refine Ev.jp (i := .goto (-30)) (len := 3) (pc2 := 4) (by decide +kernel) rfl ?_
        exact ih v0 v1 (w32 (v2 + 1)) h _ hx
      · have hx := hb hc
        clear ha hb hc
        obtain ⟨u3, hg, he, hx⟩ := bgd hx
        refine Ev.blk (is := [.iload_n 1, .aload_n 0, .getfield 2203]) (pc2 := 25) (L2 := [(2, v0), (0, v1), (0, v2)]) (S2 := [(2, u3), (0, v1)]) (h2 := h) (by decide +kernel) (by subst he; rfl) (by exact hg) ?_
        clear hg he
        obtain ⟨u4, hg, he, hx⟩ := bgd hx
        refine Ev.blk (is := [.iload_n 2, .iaload]) (pc2 := 27) (L2 := [(2, v0), (0, v1), (0, v2)]) (S2 := [(0, u4), (0, v1)]) (h2 := h) (by decide +kernel) (by subst he; rfl) (by exact hg) ?_
        clear hg he
        obtain ⟨u5, hc, hx⟩ := bca hx
        refine Ev.call (args := [(0, v1), (0, u4)]) (S2 := []) (r1 := (some (0, u5))) (h1 := h) (i := .invokestatic 42) (by decide +kernel) rfl rfl (Nat.le_of_ble_eq_true rfl) (Or.inl rfl) (x_Math_max (by omega) hc) ?_
        refine Ev.blk (is := [.istore_n 1, .iinc 2 1]) (pc2 := 34) (L2 := [(2, v0), (0, u5), (0, w32 (v2 + 1))]) (S2 := []) (h2 := h) (by decide +kernel) rfl trivial ?_
        refine Ev.jp (i := .goto (-30)) (len := 3) (pc2 := 4) (by decide +kernel) rfl ?_
        exact ih v0 u5 (w32 (v2 + 1)) h _ hx
    · have hx := hb hc
      clear ha hb hc
      refine Ev.blk (is := [.iload_n 1]) (pc2 := 38) (L2 := [(2, v0), (0, v1), (0, v2)]) (S2 := [(0, v1)]) (h2 := h) (by decide +kernel) rfl trivial ?_
      cases hx
      exact Ev.ret (i := .ireturn) (len := 1) (by decide +kernel) rfl (finOf (t := some .int) rfl (trivial))
theorem x_Ledger_deepestRight {sc : AS} {d : Nat} (hd : 3 ≤ d) {v0 : Int} {h : AH} {r : Int} (hx : Ledger_deepestRight v0 h = some r) : Runs sc d 158 [(2, v0)] h (some (0, r)) h := by
  obtain ⟨d, rfl⟩ : ∃ e, d = e + 1 := ⟨d - 1, by omega⟩
  have hd : 2 ≤ d := by omega
  unfold Ledger_deepestRight at hx
  refine ⟨⟨aM_158, rfl, Nat.le_of_ble_eq_true rfl⟩, ?_⟩
  show Ev sc d 158 0 [(2, v0), (9, 0), (9, 0)] [] h (some (0, r)) h
  refine Ev.blk (is := [.iconst 0, .istore_n 1, .iconst 0, .istore_n 2]) (pc2 := 4) (L2 := [(2, v0), (0, 0), (0, 0)]) (S2 := []) (h2 := h) (by decide +kernel) rfl trivial ?_
  exact y_Ledger_deepestRight_4 hd FU v0 0 0 h _ hx
theorem y_Ledger_costOfRight_4 {sc : AS} {d : Nat} (hd : 2 ≤ d) : ∀ (fu : Nat) (v0 : Int) (v1 : Int) (v2 : Int) (h : AH) (r : Int), Ledger_costOfRight_4 fu v0 v1 v2 h = some r → Ev sc d 159 4 [(2, v0), (0, v1), (0, v2)] [] h (some (0, r)) h := by
  intro fu
  induction fu with
  | zero => intro v0 v1 v2 h r hx; unfold Ledger_costOfRight_4 at hx; cases hx
  | succ fu ih =>
    intro v0 v1 v2 h r hx
    unfold Ledger_costOfRight_4 at hx
    obtain ⟨u1, hg, he, hx⟩ := bgd hx
    refine Ev.blk (is := [.iload_n 2, .aload_n 0, .getfield 2005]) (pc2 := 9) (L2 := [(2, v0), (0, v1), (0, v2)]) (S2 := [(0, u1), (0, v2)]) (h2 := h) (by decide +kernel) (by subst he; rfl) (by exact hg) ?_
    clear hg he
    obtain ⟨ha, hb⟩ := bite hx
    clear hx
    refine Ev.br (i := .if_icmp .ge 29) (len := 3) (a := 12) (b := 38) (by decide +kernel) rfl Iff.rfl (fun hc => ?_) (fun hc => ?_)
    · have hx := ha hc
      clear ha hb hc
      refine Ev.blk (is := [.aload_n 0, .iload_n 2]) (pc2 := 14) (L2 := [(2, v0), (0, v1), (0, v2)]) (S2 := [(0, v2), (2, v0)]) (h2 := h) (by decide +kernel) rfl trivial ?_
      obtain ⟨_, hg, -, hx⟩ := bgd hx
      obtain ⟨u2, hc, hx⟩ := bca hx
      refine Ev.call (args := [(2, v0), (0, v2)]) (S2 := []) (r1 := (some (0, u2))) (h1 := h) (i := .invokevirtual 12) (by decide +kernel) rfl rfl (Nat.le_of_ble_eq_true rfl) (Or.inr (Or.inl ⟨rfl, hg, by decide +kernel⟩)) (x_Ledger_isRight (by omega) hc) ?_
      obtain ⟨ha, hb⟩ := bite hx
      clear hx
      refine Ev.br (i := .ifCond .eq 15) (len := 3) (a := 32) (b := 20) (by decide +kernel) rfl Iff.rfl (fun hc => ?_) (fun hc => ?_)
      · have hx := ha hc
        clear ha hb hc
        refine Ev.blk (is := [.iinc 2 1]) (pc2 := 35) (L2 := [(2, v0), (0, v1), (0, w32 (v2 + 1))]) (S2 := []) (h2 := h) (by decide +kernel) rfl trivial ?_
        refine Ev.jp (i := .goto (-31)) (len := 3) (pc2 := 4) (by decide +kernel) rfl ?_
        exact ih v0 v1 (w32 (v2 + 1)) h _ hx
      · have hx := hb hc
        clear ha hb hc
        obtain ⟨u3, hg, he, hx⟩ := bgd hx
        refine Ev.blk (is := [.iload_n 1, .aload_n 0, .getfield 2200]) (pc2 := 25) (L2 := [(2, v0), (0, v1), (0, v2)]) (S2 := [(2, u3), (0, v1)]) (h2 := h) (by decide +kernel) (by subst he; rfl) (by exact hg) ?_
        clear hg he
        obtain ⟨u4, hg, he, hx⟩ := bgd hx
        refine Ev.blk (is := [.iload_n 2, .aaload]) (pc2 := 27) (L2 := [(2, v0), (0, v1), (0, v2)]) (S2 := [(2, u4), (0, v1)]) (h2 := h) (by decide +kernel) (by subst he; rfl) (by exact hg) ?_
        clear hg he
        obtain ⟨u5, hc, hx⟩ := bca hx
        refine Ev.call (args := [(2, u4)]) (S2 := [(0, v1)]) (r1 := (some (0, u5))) (h1 := h) (i := .invokestatic 120) (by decide +kernel) rfl rfl (Nat.le_of_ble_eq_true rfl) (Or.inl rfl) (x_Checker_costOf (by omega) hc) ?_
        refine Ev.blk (is := [.iadd, .istore_n 1, .iinc 2 1]) (pc2 := 35) (L2 := [(2, v0), (0, w32 (v1 + u5)), (0, w32 (v2 + 1))]) (S2 := []) (h2 := h) (by decide +kernel) rfl trivial ?_
        refine Ev.jp (i := .goto (-31)) (len := 3) (pc2 := 4) (by decide +kernel) rfl ?_
        exact ih v0 (w32 (v1 + u5)) (w32 (v2 + 1)) h _ hx
    · have hx := hb hc
      clear ha hb hc
      refine Ev.blk (is := [.iload_n 1]) (pc2 := 39) (L2 := [(2, v0), (0, v1), (0, v2)]) (S2 := [(0, v1)]) (h2 := h) (by decide +kernel) rfl trivial ?_
      cases hx
      exact Ev.ret (i := .ireturn) (len := 1) (by decide +kernel) rfl (finOf (t := some .int) rfl (trivial))
theorem x_Ledger_costOfRight {sc : AS} {d : Nat} (hd : 3 ≤ d) {v0 : Int} {h : AH} {r : Int} (hx : Ledger_costOfRight v0 h = some r) : Runs sc d 159 [(2, v0)] h (some (0, r)) h := by
  obtain ⟨d, rfl⟩ : ∃ e, d = e + 1 := ⟨d - 1, by omega⟩
  have hd : 2 ≤ d := by omega
  unfold Ledger_costOfRight at hx
  refine ⟨⟨aM_159, rfl, Nat.le_of_ble_eq_true rfl⟩, ?_⟩
  show Ev sc d 159 0 [(2, v0), (9, 0), (9, 0)] [] h (some (0, r)) h
  refine Ev.blk (is := [.iconst 0, .istore_n 1, .iconst 0, .istore_n 2]) (pc2 := 4) (L2 := [(2, v0), (0, 0), (0, 0)]) (S2 := []) (h2 := h) (by decide +kernel) rfl trivial ?_
  exact y_Ledger_costOfRight_4 hd FU v0 0 0 h _ hx
theorem x_X_count {sc : AS} {d : Nat} (hd : 4 ≤ d) {v0 : Int} {v1 : Int} {h : AH} {r : Int} (hx : X_count v0 v1 h = some r) : Runs sc d 154 [(2, v0), (0, v1)] h (some (0, r)) h := by
  obtain ⟨d, rfl⟩ : ∃ e, d = e + 1 := ⟨d - 1, by omega⟩
  have hd : 3 ≤ d := by omega
  unfold X_count at hx
  refine ⟨⟨aM_154, rfl, Nat.le_of_ble_eq_true rfl⟩, ?_⟩
  show Ev sc d 154 0 [(2, v0), (0, v1)] [] h (some (0, r)) h
  refine Ev.blk (is := [.iload_n 1]) (pc2 := 1) (L2 := [(2, v0), (0, v1)]) (S2 := [(0, v1)]) (h2 := h) (by decide +kernel) rfl trivial ?_
  obtain ⟨ha, hb⟩ := bite hx
  clear hx
  by_cases hc0 : v1 = 0
  · have hx := ha hc0
    clear ha hb
    refine Ev.jp (i := .tableswitch 102 0 6 #[43, 51, 62, 70, 78, 86, 94]) (len := 43) (pc2 := 44) (by decide +kernel) (by rw [hc0]; rfl) ?_
    clear hc0
    obtain ⟨u1, hg, he, hx⟩ := bgd hx
    refine Ev.blk (is := [.aload_n 0, .getfield 8200]) (pc2 := 48) (L2 := [(2, v0), (0, v1)]) (S2 := [(2, u1)]) (h2 := h) (by decide +kernel) (by subst he; rfl) (by exact hg) ?_
    clear hg he
    obtain ⟨u2, hg, he, hx⟩ := bgd hx
    refine Ev.blk (is := [.getfield 2005]) (pc2 := 51) (L2 := [(2, v0), (0, v1)]) (S2 := [(0, u2)]) (h2 := h) (by decide +kernel) (by subst he; rfl) (by exact hg) ?_
    clear hg he
    cases hx
    exact Ev.ret (i := .ireturn) (len := 1) (by decide +kernel) rfl (finOf (t := some .int) rfl (trivial))
  have hx := hb hc0
  clear ha hb
  obtain ⟨ha, hb⟩ := bite hx
  clear hx
  by_cases hc1 : v1 = 1
  · have hx := ha hc1
    clear ha hb
    refine Ev.jp (i := .tableswitch 102 0 6 #[43, 51, 62, 70, 78, 86, 94]) (len := 43) (pc2 := 52) (by decide +kernel) (by rw [hc1]; rfl) ?_
    clear hc1
    obtain ⟨u3, hg, he, hx⟩ := bgd hx
    refine Ev.blk (is := [.aload_n 0, .getfield 8200]) (pc2 := 56) (L2 := [(2, v0), (0, v1)]) (S2 := [(2, u3)]) (h2 := h) (by decide +kernel) (by subst he; rfl) (by exact hg) ?_
    clear hg he
    obtain ⟨u4, hg, he, hx⟩ := bgd hx
    refine Ev.blk (is := [.getfield 2104]) (pc2 := 59) (L2 := [(2, v0), (0, v1)]) (S2 := [(1, u4)]) (h2 := h) (by decide +kernel) (by subst he; rfl) (by exact hg) ?_
    clear hg he
    obtain ⟨u5, hc, hx⟩ := bca hx
    refine Ev.call (args := [(1, u4)]) (S2 := []) (r1 := (some (0, u5))) (h1 := h) (i := .invokestatic 155) (by decide +kernel) rfl rfl (Nat.le_of_ble_eq_true rfl) (Or.inl rfl) (x_Lng_bitCount (by omega) hc) ?_
    cases hx
    exact Ev.ret (i := .ireturn) (len := 1) (by decide +kernel) rfl (finOf (t := some .int) rfl (trivial))
  have hx := hb hc1
  clear ha hb
  obtain ⟨ha, hb⟩ := bite hx
  clear hx
  by_cases hc2 : v1 = 2
  · have hx := ha hc2
    clear ha hb
    refine Ev.jp (i := .tableswitch 102 0 6 #[43, 51, 62, 70, 78, 86, 94]) (len := 43) (pc2 := 63) (by decide +kernel) (by rw [hc2]; rfl) ?_
    clear hc2
    obtain ⟨u6, hg, he, hx⟩ := bgd hx
    refine Ev.blk (is := [.aload_n 0, .getfield 8200]) (pc2 := 67) (L2 := [(2, v0), (0, v1)]) (S2 := [(2, u6)]) (h2 := h) (by decide +kernel) (by subst he; rfl) (by exact hg) ?_
    clear hg he
    obtain ⟨_, hg, -, hx⟩ := bgd hx
    obtain ⟨u7, hc, hx⟩ := bca hx
    refine Ev.call (args := [(2, u6)]) (S2 := []) (r1 := (some (0, u7))) (h1 := h) (i := .invokevirtual 156) (by decide +kernel) rfl rfl (Nat.le_of_ble_eq_true rfl) (Or.inr (Or.inl ⟨rfl, hg, by decide +kernel⟩)) (x_Ledger_rowsOfAll (by omega) hc) ?_
    cases hx
    exact Ev.ret (i := .ireturn) (len := 1) (by decide +kernel) rfl (finOf (t := some .int) rfl (trivial))
  have hx := hb hc2
  clear ha hb
  obtain ⟨ha, hb⟩ := bite hx
  clear hx
  by_cases hc3 : v1 = 3
  · have hx := ha hc3
    clear ha hb
    refine Ev.jp (i := .tableswitch 102 0 6 #[43, 51, 62, 70, 78, 86, 94]) (len := 43) (pc2 := 71) (by decide +kernel) (by rw [hc3]; rfl) ?_
    clear hc3
    obtain ⟨u8, hg, he, hx⟩ := bgd hx
    refine Ev.blk (is := [.aload_n 0, .getfield 8202]) (pc2 := 75) (L2 := [(2, v0), (0, v1)]) (S2 := [(2, u8)]) (h2 := h) (by decide +kernel) (by subst he; rfl) (by exact hg) ?_
    clear hg he
    obtain ⟨u9, hg, he, hx⟩ := bgd hx
    refine Ev.blk (is := [.getfield 7001]) (pc2 := 78) (L2 := [(2, v0), (0, v1)]) (S2 := [(0, u9)]) (h2 := h) (by decide +kernel) (by subst he; rfl) (by exact hg) ?_
    clear hg he
    cases hx
    exact Ev.ret (i := .ireturn) (len := 1) (by decide +kernel) rfl (finOf (t := some .int) rfl (trivial))
  have hx := hb hc3
  clear ha hb
  obtain ⟨ha, hb⟩ := bite hx
  clear hx
  by_cases hc4 : v1 = 4
  · have hx := ha hc4
    clear ha hb
    refine Ev.jp (i := .tableswitch 102 0 6 #[43, 51, 62, 70, 78, 86, 94]) (len := 43) (pc2 := 79) (by decide +kernel) (by rw [hc4]; rfl) ?_
    clear hc4
    obtain ⟨u10, hg, he, hx⟩ := bgd hx
    refine Ev.blk (is := [.aload_n 0, .getfield 8200]) (pc2 := 83) (L2 := [(2, v0), (0, v1)]) (S2 := [(2, u10)]) (h2 := h) (by decide +kernel) (by subst he; rfl) (by exact hg) ?_
    clear hg he
    obtain ⟨_, hg, -, hx⟩ := bgd hx
    obtain ⟨u11, hc, hx⟩ := bca hx
    refine Ev.call (args := [(2, u10)]) (S2 := []) (r1 := (some (0, u11))) (h1 := h) (i := .invokevirtual 157) (by decide +kernel) rfl rfl (Nat.le_of_ble_eq_true rfl) (Or.inr (Or.inl ⟨rfl, hg, by decide +kernel⟩)) (x_Ledger_greatestRight (by omega) hc) ?_
    cases hx
    exact Ev.ret (i := .ireturn) (len := 1) (by decide +kernel) rfl (finOf (t := some .int) rfl (trivial))
  have hx := hb hc4
  clear ha hb
  obtain ⟨ha, hb⟩ := bite hx
  clear hx
  by_cases hc5 : v1 = 5
  · have hx := ha hc5
    clear ha hb
    refine Ev.jp (i := .tableswitch 102 0 6 #[43, 51, 62, 70, 78, 86, 94]) (len := 43) (pc2 := 87) (by decide +kernel) (by rw [hc5]; rfl) ?_
    clear hc5
    obtain ⟨u12, hg, he, hx⟩ := bgd hx
    refine Ev.blk (is := [.aload_n 0, .getfield 8200]) (pc2 := 91) (L2 := [(2, v0), (0, v1)]) (S2 := [(2, u12)]) (h2 := h) (by decide +kernel) (by subst he; rfl) (by exact hg) ?_
    clear hg he
    obtain ⟨_, hg, -, hx⟩ := bgd hx
    obtain ⟨u13, hc, hx⟩ := bca hx
    refine Ev.call (args := [(2, u12)]) (S2 := []) (r1 := (some (0, u13))) (h1 := h) (i := .invokevirtual 158) (by decide +kernel) rfl rfl (Nat.le_of_ble_eq_true rfl) (Or.inr (Or.inl ⟨rfl, hg, by decide +kernel⟩)) (x_Ledger_deepestRight (by omega) hc) ?_
    cases hx
    exact Ev.ret (i := .ireturn) (len := 1) (by decide +kernel) rfl (finOf (t := some .int) rfl (trivial))
  have hx := hb hc5
  clear ha hb
  obtain ⟨ha, hb⟩ := bite hx
  clear hx
  by_cases hc6 : v1 = 6
  · have hx := ha hc6
    clear ha hb
    refine Ev.jp (i := .tableswitch 102 0 6 #[43, 51, 62, 70, 78, 86, 94]) (len := 43) (pc2 := 95) (by decide +kernel) (by rw [hc6]; rfl) ?_
    clear hc6
    obtain ⟨u14, hg, he, hx⟩ := bgd hx
    refine Ev.blk (is := [.aload_n 0, .getfield 8200]) (pc2 := 99) (L2 := [(2, v0), (0, v1)]) (S2 := [(2, u14)]) (h2 := h) (by decide +kernel) (by subst he; rfl) (by exact hg) ?_
    clear hg he
    obtain ⟨_, hg, -, hx⟩ := bgd hx
    obtain ⟨u15, hc, hx⟩ := bca hx
    refine Ev.call (args := [(2, u14)]) (S2 := []) (r1 := (some (0, u15))) (h1 := h) (i := .invokevirtual 159) (by decide +kernel) rfl rfl (Nat.le_of_ble_eq_true rfl) (Or.inr (Or.inl ⟨rfl, hg, by decide +kernel⟩)) (x_Ledger_costOfRight (by omega) hc) ?_
    cases hx
    exact Ev.ret (i := .ireturn) (len := 1) (by decide +kernel) rfl (finOf (t := some .int) rfl (trivial))
  have hx := hb hc6
  clear ha hb
  refine Ev.jp (i := .tableswitch 102 0 6 #[43, 51, 62, 70, 78, 86, 94]) (len := 43) (pc2 := 103) (by decide +kernel) (jsw (by omega)) ?_
  clear hc0 hc1 hc2 hc3 hc4 hc5 hc6
  refine Ev.blk (is := [.iconst (-1)]) (pc2 := 104) (L2 := [(2, v0), (0, v1)]) (S2 := [(0, (-1))]) (h2 := h) (by decide +kernel) rfl trivial ?_
  cases hx
  exact Ev.ret (i := .ireturn) (len := 1) (by decide +kernel) rfl (finOf (t := some .int) rfl (trivial))
theorem x_R_init {sc : AS} {d : Nat} (hd : 1 ≤ d) {v0 : Int} {h : AH} {r : AH} (hx : R_init v0 h = some r) : Runs sc d 160 [(2, v0)] h none r := by
  obtain ⟨d, rfl⟩ : ∃ e, d = e + 1 := ⟨d - 1, by omega⟩
  have hd : 0 ≤ d := by omega
  unfold R_init at hx
  refine ⟨⟨aM_160, rfl, Nat.le_of_ble_eq_true rfl⟩, ?_⟩
  show Ev sc d 160 0 [(2, v0)] [] h none r
  obtain ⟨u1, hg, he, hx⟩ := bgd hx
  refine Ev.blk (is := [.aload_n 0, .pop2]) (pc2 := 4) (L2 := [(2, v0)]) (S2 := []) (h2 := h) (by decide +kernel) (by subst he; rfl) (by exact hg) ?_
  clear hg he
  obtain ⟨h2, hg, he, hx⟩ := bgd hx
  refine Ev.blk (is := [.aload_n 0, .iconst 4, .newarray .long]) (pc2 := 8) (L2 := [(2, v0)]) (S2 := [(2, hNx h), (2, v0)]) (h2 := h2) (by decide +kernel) (by subst he; rfl) (by exact hg) ?_
  clear hg he
  obtain ⟨h3, hg, he, hx⟩ := bgd hx
  refine Ev.blk (is := [.putfield 9201]) (pc2 := 11) (L2 := [(2, v0)]) (S2 := []) (h2 := h3) (by decide +kernel) (by subst he; rfl) (by exact hg) ?_
  clear hg he
  obtain ⟨h4, hg, he, hx⟩ := bgd hx
  refine Ev.blk (is := [.aload_n 0, .iconst 4, .newarray .long]) (pc2 := 15) (L2 := [(2, v0)]) (S2 := [(2, hNx h3), (2, v0)]) (h2 := h4) (by decide +kernel) (by subst he; rfl) (by exact hg) ?_
  clear hg he
  obtain ⟨h5, hg, he, hx⟩ := bgd hx
  refine Ev.blk (is := [.putfield 9202]) (pc2 := 18) (L2 := [(2, v0)]) (S2 := []) (h2 := h5) (by decide +kernel) (by subst he; rfl) (by exact hg) ?_
  clear hg he
  obtain ⟨h6, hg, he, hx⟩ := bgd hx
  refine Ev.blk (is := [.aload_n 0, .iconst 4, .newarray .long]) (pc2 := 22) (L2 := [(2, v0)]) (S2 := [(2, hNx h5), (2, v0)]) (h2 := h6) (by decide +kernel) (by subst he; rfl) (by exact hg) ?_
  clear hg he
  obtain ⟨h7, hg, he, hx⟩ := bgd hx
  refine Ev.blk (is := [.putfield 9203]) (pc2 := 25) (L2 := [(2, v0)]) (S2 := []) (h2 := h7) (by decide +kernel) (by subst he; rfl) (by exact hg) ?_
  clear hg he
  obtain ⟨h8, hg, he, hx⟩ := bgd hx
  refine Ev.blk (is := [.aload_n 0, .sipush 12, .newarray .int]) (pc2 := 30) (L2 := [(2, v0)]) (S2 := [(2, hNx h7), (2, v0)]) (h2 := h8) (by decide +kernel) (by subst he; rfl) (by exact hg) ?_
  clear hg he
  obtain ⟨h9, hg, he, hx⟩ := bgd hx
  refine Ev.blk (is := [.putfield 9204]) (pc2 := 33) (L2 := [(2, v0)]) (S2 := []) (h2 := h9) (by decide +kernel) (by subst he; rfl) (by exact hg) ?_
  clear hg he
  obtain ⟨h10, hg, he, hx⟩ := bgd hx
  refine Ev.blk (is := [.aload_n 0, .sipush 12, .newarray .int]) (pc2 := 38) (L2 := [(2, v0)]) (S2 := [(2, hNx h9), (2, v0)]) (h2 := h10) (by decide +kernel) (by subst he; rfl) (by exact hg) ?_
  clear hg he
  obtain ⟨h11, hg, he, hx⟩ := bgd hx
  refine Ev.blk (is := [.putfield 9205]) (pc2 := 41) (L2 := [(2, v0)]) (S2 := []) (h2 := h11) (by decide +kernel) (by subst he; rfl) (by exact hg) ?_
  clear hg he
  obtain ⟨h12, hg, he, hx⟩ := bgd hx
  refine Ev.blk (is := [.aload_n 0, .sipush 116, .newarray .int]) (pc2 := 46) (L2 := [(2, v0)]) (S2 := [(2, hNx h11), (2, v0)]) (h2 := h12) (by decide +kernel) (by subst he; rfl) (by exact hg) ?_
  clear hg he
  obtain ⟨h13, hg, he, hx⟩ := bgd hx
  refine Ev.blk (is := [.putfield 9208]) (pc2 := 49) (L2 := [(2, v0)]) (S2 := []) (h2 := h13) (by decide +kernel) (by subst he; rfl) (by exact hg) ?_
  clear hg he
  obtain ⟨h14, hg, he, hx⟩ := bgd hx
  refine Ev.blk (is := [.aload_n 0, .sipush 116, .newarray .int]) (pc2 := 54) (L2 := [(2, v0)]) (S2 := [(2, hNx h13), (2, v0)]) (h2 := h14) (by decide +kernel) (by subst he; rfl) (by exact hg) ?_
  clear hg he
  obtain ⟨h15, hg, he, hx⟩ := bgd hx
  refine Ev.blk (is := [.putfield 9209]) (pc2 := 57) (L2 := [(2, v0)]) (S2 := []) (h2 := h15) (by decide +kernel) (by subst he; rfl) (by exact hg) ?_
  clear hg he
  obtain ⟨h16, hg, he, hx⟩ := bgd hx
  refine Ev.blk (is := [.aload_n 0, .sipush 116, .newarray .int]) (pc2 := 62) (L2 := [(2, v0)]) (S2 := [(2, hNx h15), (2, v0)]) (h2 := h16) (by decide +kernel) (by subst he; rfl) (by exact hg) ?_
  clear hg he
  obtain ⟨h17, hg, he, hx⟩ := bgd hx
  refine Ev.blk (is := [.putfield 9210]) (pc2 := 65) (L2 := [(2, v0)]) (S2 := []) (h2 := h17) (by decide +kernel) (by subst he; rfl) (by exact hg) ?_
  clear hg he
  obtain ⟨h18, hg, he, hx⟩ := bgd hx
  refine Ev.blk (is := [.aload_n 0, .sipush 116, .newarray .int]) (pc2 := 70) (L2 := [(2, v0)]) (S2 := [(2, hNx h17), (2, v0)]) (h2 := h18) (by decide +kernel) (by subst he; rfl) (by exact hg) ?_
  clear hg he
  obtain ⟨h19, hg, he, hx⟩ := bgd hx
  refine Ev.blk (is := [.putfield 9211]) (pc2 := 73) (L2 := [(2, v0)]) (S2 := []) (h2 := h19) (by decide +kernel) (by subst he; rfl) (by exact hg) ?_
  clear hg he
  obtain ⟨h20, hg, he, hx⟩ := bgd hx
  refine Ev.blk (is := [.aload_n 0, .sipush 116, .newarray .int]) (pc2 := 78) (L2 := [(2, v0)]) (S2 := [(2, hNx h19), (2, v0)]) (h2 := h20) (by decide +kernel) (by subst he; rfl) (by exact hg) ?_
  clear hg he
  obtain ⟨h21, hg, he, hx⟩ := bgd hx
  refine Ev.blk (is := [.putfield 9212]) (pc2 := 81) (L2 := [(2, v0)]) (S2 := []) (h2 := h21) (by decide +kernel) (by subst he; rfl) (by exact hg) ?_
  clear hg he
  obtain ⟨h22, hg, he, hx⟩ := bgd hx
  refine Ev.blk (is := [.aload_n 0, .sipush 116, .newarray .int]) (pc2 := 86) (L2 := [(2, v0)]) (S2 := [(2, hNx h21), (2, v0)]) (h2 := h22) (by decide +kernel) (by subst he; rfl) (by exact hg) ?_
  clear hg he
  obtain ⟨h23, hg, he, hx⟩ := bgd hx
  refine Ev.blk (is := [.putfield 9213]) (pc2 := 89) (L2 := [(2, v0)]) (S2 := []) (h2 := h23) (by decide +kernel) (by subst he; rfl) (by exact hg) ?_
  clear hg he
  obtain ⟨h24, hg, he, hx⟩ := bgd hx
  refine Ev.blk (is := [.aload_n 0, .sipush 1044, .newarray .int]) (pc2 := 95) (L2 := [(2, v0)]) (S2 := [(2, hNx h23), (2, v0)]) (h2 := h24) (by decide +kernel) (by subst he; rfl) (by exact hg) ?_
  clear hg he
  obtain ⟨h25, hg, he, hx⟩ := bgd hx
  refine Ev.blk (is := [.putfield 9214]) (pc2 := 98) (L2 := [(2, v0)]) (S2 := []) (h2 := h25) (by decide +kernel) (by subst he; rfl) (by exact hg) ?_
  clear hg he
  obtain ⟨h26, hg, he, hx⟩ := bgd hx
  refine Ev.blk (is := [.aload_n 0, .sipush 1044, .newarray .int]) (pc2 := 104) (L2 := [(2, v0)]) (S2 := [(2, hNx h25), (2, v0)]) (h2 := h26) (by decide +kernel) (by subst he; rfl) (by exact hg) ?_
  clear hg he
  obtain ⟨h27, hg, he, hx⟩ := bgd hx
  refine Ev.blk (is := [.putfield 9215]) (pc2 := 107) (L2 := [(2, v0)]) (S2 := []) (h2 := h27) (by decide +kernel) (by subst he; rfl) (by exact hg) ?_
  clear hg he
  obtain ⟨h28, hg, he, hx⟩ := bgd hx
  refine Ev.blk (is := [.aload_n 0, .sipush 1044, .newarray .int]) (pc2 := 113) (L2 := [(2, v0)]) (S2 := [(2, hNx h27), (2, v0)]) (h2 := h28) (by decide +kernel) (by subst he; rfl) (by exact hg) ?_
  clear hg he
  obtain ⟨h29, hg, he, hx⟩ := bgd hx
  refine Ev.blk (is := [.putfield 9216]) (pc2 := 116) (L2 := [(2, v0)]) (S2 := []) (h2 := h29) (by decide +kernel) (by subst he; rfl) (by exact hg) ?_
  clear hg he
  obtain ⟨h30, hg, he, hx⟩ := bgd hx
  refine Ev.blk (is := [.aload_n 0, .sipush 1044, .newarray .int]) (pc2 := 122) (L2 := [(2, v0)]) (S2 := [(2, hNx h29), (2, v0)]) (h2 := h30) (by decide +kernel) (by subst he; rfl) (by exact hg) ?_
  clear hg he
  obtain ⟨h31, hg, he, hx⟩ := bgd hx
  refine Ev.blk (is := [.putfield 9217]) (pc2 := 125) (L2 := [(2, v0)]) (S2 := []) (h2 := h31) (by decide +kernel) (by subst he; rfl) (by exact hg) ?_
  clear hg he
  obtain ⟨h32, hg, he, hx⟩ := bgd hx
  refine Ev.blk (is := [.aload_n 0, .sipush 1044, .newarray .int]) (pc2 := 131) (L2 := [(2, v0)]) (S2 := [(2, hNx h31), (2, v0)]) (h2 := h32) (by decide +kernel) (by subst he; rfl) (by exact hg) ?_
  clear hg he
  obtain ⟨h33, hg, he, hx⟩ := bgd hx
  refine Ev.blk (is := [.putfield 9218]) (pc2 := 134) (L2 := [(2, v0)]) (S2 := []) (h2 := h33) (by decide +kernel) (by subst he; rfl) (by exact hg) ?_
  clear hg he
  obtain ⟨h34, hg, he, hx⟩ := bgd hx
  refine Ev.blk (is := [.aload_n 0, .sipush 60, .newarray .boolean]) (pc2 := 139) (L2 := [(2, v0)]) (S2 := [(2, hNx h33), (2, v0)]) (h2 := h34) (by decide +kernel) (by subst he; rfl) (by exact hg) ?_
  clear hg he
  obtain ⟨h35, hg, he, hx⟩ := bgd hx
  refine Ev.blk (is := [.putfield 9219]) (pc2 := 142) (L2 := [(2, v0)]) (S2 := []) (h2 := h35) (by decide +kernel) (by subst he; rfl) (by exact hg) ?_
  clear hg he
  obtain ⟨h36, hg, he, hx⟩ := bgd hx
  refine Ev.blk (is := [.aload_n 0, .sipush 60, .newarray .int]) (pc2 := 147) (L2 := [(2, v0)]) (S2 := [(2, hNx h35), (2, v0)]) (h2 := h36) (by decide +kernel) (by subst he; rfl) (by exact hg) ?_
  clear hg he
  obtain ⟨h37, hg, he, hx⟩ := bgd hx
  refine Ev.blk (is := [.putfield 9220]) (pc2 := 150) (L2 := [(2, v0)]) (S2 := []) (h2 := h37) (by decide +kernel) (by subst he; rfl) (by exact hg) ?_
  clear hg he
  obtain ⟨h38, hg, he, hx⟩ := bgd hx
  refine Ev.blk (is := [.aload_n 0, .sipush 70, .newarray .int]) (pc2 := 155) (L2 := [(2, v0)]) (S2 := [(2, hNx h37), (2, v0)]) (h2 := h38) (by decide +kernel) (by subst he; rfl) (by exact hg) ?_
  clear hg he
  obtain ⟨h39, hg, he, hx⟩ := bgd hx
  refine Ev.blk (is := [.putfield 9221]) (pc2 := 158) (L2 := [(2, v0)]) (S2 := []) (h2 := h39) (by decide +kernel) (by subst he; rfl) (by exact hg) ?_
  clear hg he
  obtain ⟨h40, hg, he, hx⟩ := bgd hx
  refine Ev.blk (is := [.aload_n 0, .sipush 70, .newarray .int]) (pc2 := 163) (L2 := [(2, v0)]) (S2 := [(2, hNx h39), (2, v0)]) (h2 := h40) (by decide +kernel) (by subst he; rfl) (by exact hg) ?_
  clear hg he
  obtain ⟨h41, hg, he, hx⟩ := bgd hx
  refine Ev.blk (is := [.putfield 9222]) (pc2 := 166) (L2 := [(2, v0)]) (S2 := []) (h2 := h41) (by decide +kernel) (by subst he; rfl) (by exact hg) ?_
  clear hg he
  obtain ⟨h42, hg, he, hx⟩ := bgd hx
  refine Ev.blk (is := [.aload_n 0, .sipush 400, .newarray .int]) (pc2 := 172) (L2 := [(2, v0)]) (S2 := [(2, hNx h41), (2, v0)]) (h2 := h42) (by decide +kernel) (by subst he; rfl) (by exact hg) ?_
  clear hg he
  obtain ⟨h43, hg, he, hx⟩ := bgd hx
  refine Ev.blk (is := [.putfield 9223]) (pc2 := 175) (L2 := [(2, v0)]) (S2 := []) (h2 := h43) (by decide +kernel) (by subst he; rfl) (by exact hg) ?_
  clear hg he
  obtain ⟨h44, hg, he, hx⟩ := bgd hx
  refine Ev.blk (is := [.aload_n 0, .sipush 49, .newarray .byte]) (pc2 := 180) (L2 := [(2, v0)]) (S2 := [(2, hNx h43), (2, v0)]) (h2 := h44) (by decide +kernel) (by subst he; rfl) (by exact hg) ?_
  clear hg he
  obtain ⟨h45, hg, he, hx⟩ := bgd hx
  refine Ev.blk (is := [.dup, .iconst 0, .sipush 115, .bastore]) (pc2 := 185) (L2 := [(2, v0)]) (S2 := [(2, hNx h43), (2, v0)]) (h2 := h45) (by decide +kernel) (by subst he; rfl) (by exact hg) ?_
  clear hg he
  obtain ⟨h46, hg, he, hx⟩ := bgd hx
  refine Ev.blk (is := [.dup, .iconst 1, .sipush 109, .bastore]) (pc2 := 190) (L2 := [(2, v0)]) (S2 := [(2, hNx h43), (2, v0)]) (h2 := h46) (by decide +kernel) (by subst he; rfl) (by exact hg) ?_
  clear hg he
  obtain ⟨h47, hg, he, hx⟩ := bgd hx
  refine Ev.blk (is := [.dup, .iconst 2, .sipush 97, .bastore]) (pc2 := 195) (L2 := [(2, v0)]) (S2 := [(2, hNx h43), (2, v0)]) (h2 := h47) (by decide +kernel) (by subst he; rfl) (by exact hg) ?_
  clear hg he
  obtain ⟨h48, hg, he, hx⟩ := bgd hx
  refine Ev.blk (is := [.dup, .iconst 3, .sipush 108, .bastore]) (pc2 := 200) (L2 := [(2, v0)]) (S2 := [(2, hNx h43), (2, v0)]) (h2 := h48) (by decide +kernel) (by subst he; rfl) (by exact hg) ?_
  clear hg he
  obtain ⟨h49, hg, he, hx⟩ := bgd hx
  refine Ev.blk (is := [.dup, .iconst 4, .sipush 108, .bastore]) (pc2 := 205) (L2 := [(2, v0)]) (S2 := [(2, hNx h43), (2, v0)]) (h2 := h49) (by decide +kernel) (by subst he; rfl) (by exact hg) ?_
  clear hg he
  obtain ⟨h50, hg, he, hx⟩ := bgd hx
  refine Ev.blk (is := [.dup, .iconst 5, .iconst 0, .bastore]) (pc2 := 209) (L2 := [(2, v0)]) (S2 := [(2, hNx h43), (2, v0)]) (h2 := h50) (by decide +kernel) (by subst he; rfl) (by exact hg) ?_
  clear hg he
  obtain ⟨h51, hg, he, hx⟩ := bgd hx
  refine Ev.blk (is := [.dup, .sipush 6, .sipush 112, .bastore]) (pc2 := 215) (L2 := [(2, v0)]) (S2 := [(2, hNx h43), (2, v0)]) (h2 := h51) (by decide +kernel) (by subst he; rfl) (by exact hg) ?_
  clear hg he
  obtain ⟨h52, hg, he, hx⟩ := bgd hx
  refine Ev.blk (is := [.dup, .sipush 7, .sipush 114, .bastore]) (pc2 := 221) (L2 := [(2, v0)]) (S2 := [(2, hNx h43), (2, v0)]) (h2 := h52) (by decide +kernel) (by subst he; rfl) (by exact hg) ?_
  clear hg he
  obtain ⟨h53, hg, he, hx⟩ := bgd hx
  refine Ev.blk (is := [.dup, .sipush 8, .sipush 97, .bastore]) (pc2 := 227) (L2 := [(2, v0)]) (S2 := [(2, hNx h43), (2, v0)]) (h2 := h53) (by decide +kernel) (by subst he; rfl) (by exact hg) ?_
  clear hg he
  obtain ⟨h54, hg, he, hx⟩ := bgd hx
  refine Ev.blk (is := [.dup, .sipush 9, .sipush 116, .bastore]) (pc2 := 233) (L2 := [(2, v0)]) (S2 := [(2, hNx h43), (2, v0)]) (h2 := h54) (by decide +kernel) (by subst he; rfl) (by exact hg) ?_
  clear hg he
  obtain ⟨h55, hg, he, hx⟩ := bgd hx
  refine Ev.blk (is := [.dup, .sipush 10, .sipush 116, .bastore]) (pc2 := 239) (L2 := [(2, v0)]) (S2 := [(2, hNx h43), (2, v0)]) (h2 := h55) (by decide +kernel) (by subst he; rfl) (by exact hg) ?_
  clear hg he
  obtain ⟨h56, hg, he, hx⟩ := bgd hx
  refine Ev.blk (is := [.dup, .sipush 11, .iconst 0, .bastore]) (pc2 := 244) (L2 := [(2, v0)]) (S2 := [(2, hNx h43), (2, v0)]) (h2 := h56) (by decide +kernel) (by subst he; rfl) (by exact hg) ?_
  clear hg he
  obtain ⟨h57, hg, he, hx⟩ := bgd hx
  refine Ev.blk (is := [.dup, .sipush 12, .sipush 112, .bastore]) (pc2 := 250) (L2 := [(2, v0)]) (S2 := [(2, hNx h43), (2, v0)]) (h2 := h57) (by decide +kernel) (by subst he; rfl) (by exact hg) ?_
  clear hg he
  obtain ⟨h58, hg, he, hx⟩ := bgd hx
  refine Ev.blk (is := [.dup, .sipush 13, .sipush 97, .bastore]) (pc2 := 256) (L2 := [(2, v0)]) (S2 := [(2, hNx h43), (2, v0)]) (h2 := h58) (by decide +kernel) (by subst he; rfl) (by exact hg) ?_
  clear hg he
  obtain ⟨h59, hg, he, hx⟩ := bgd hx
  refine Ev.blk (is := [.dup, .sipush 14, .sipush 114, .bastore]) (pc2 := 262) (L2 := [(2, v0)]) (S2 := [(2, hNx h43), (2, v0)]) (h2 := h59) (by decide +kernel) (by subst he; rfl) (by exact hg) ?_
  clear hg he
  obtain ⟨h60, hg, he, hx⟩ := bgd hx
  refine Ev.blk (is := [.dup, .sipush 15, .sipush 116, .bastore]) (pc2 := 268) (L2 := [(2, v0)]) (S2 := [(2, hNx h43), (2, v0)]) (h2 := h60) (by decide +kernel) (by subst he; rfl) (by exact hg) ?_
  clear hg he
  obtain ⟨h61, hg, he, hx⟩ := bgd hx
  refine Ev.blk (is := [.dup, .sipush 16, .iconst 0, .bastore]) (pc2 := 273) (L2 := [(2, v0)]) (S2 := [(2, hNx h43), (2, v0)]) (h2 := h61) (by decide +kernel) (by subst he; rfl) (by exact hg) ?_
  clear hg he
  obtain ⟨h62, hg, he, hx⟩ := bgd hx
  refine Ev.blk (is := [.dup, .sipush 17, .sipush 108, .bastore]) (pc2 := 279) (L2 := [(2, v0)]) (S2 := [(2, hNx h43), (2, v0)]) (h2 := h62) (by decide +kernel) (by subst he; rfl) (by exact hg) ?_
  clear hg he
  obtain ⟨h63, hg, he, hx⟩ := bgd hx
  refine Ev.blk (is := [.dup, .sipush 18, .sipush 117, .bastore]) (pc2 := 285) (L2 := [(2, v0)]) (S2 := [(2, hNx h43), (2, v0)]) (h2 := h63) (by decide +kernel) (by subst he; rfl) (by exact hg) ?_
  clear hg he
  obtain ⟨h64, hg, he, hx⟩ := bgd hx
  refine Ev.blk (is := [.dup, .sipush 19, .sipush 99, .bastore]) (pc2 := 291) (L2 := [(2, v0)]) (S2 := [(2, hNx h43), (2, v0)]) (h2 := h64) (by decide +kernel) (by subst he; rfl) (by exact hg) ?_
  clear hg he
  obtain ⟨h65, hg, he, hx⟩ := bgd hx
  refine Ev.blk (is := [.dup, .sipush 20, .sipush 97, .bastore]) (pc2 := 297) (L2 := [(2, v0)]) (S2 := [(2, hNx h43), (2, v0)]) (h2 := h65) (by decide +kernel) (by subst he; rfl) (by exact hg) ?_
  clear hg he
  obtain ⟨h66, hg, he, hx⟩ := bgd hx
  refine Ev.blk (is := [.dup, .sipush 21, .sipush 115, .bastore]) (pc2 := 303) (L2 := [(2, v0)]) (S2 := [(2, hNx h43), (2, v0)]) (h2 := h66) (by decide +kernel) (by subst he; rfl) (by exact hg) ?_
  clear hg he
  obtain ⟨h67, hg, he, hx⟩ := bgd hx
  refine Ev.blk (is := [.dup, .sipush 22, .iconst 0, .bastore]) (pc2 := 308) (L2 := [(2, v0)]) (S2 := [(2, hNx h43), (2, v0)]) (h2 := h67) (by decide +kernel) (by subst he; rfl) (by exact hg) ?_
  clear hg he
  obtain ⟨h68, hg, he, hx⟩ := bgd hx
  refine Ev.blk (is := [.dup, .sipush 23, .sipush 98, .bastore]) (pc2 := 314) (L2 := [(2, v0)]) (S2 := [(2, hNx h43), (2, v0)]) (h2 := h68) (by decide +kernel) (by subst he; rfl) (by exact hg) ?_
  clear hg he
  obtain ⟨h69, hg, he, hx⟩ := bgd hx
  refine Ev.blk (is := [.dup, .sipush 24, .sipush 111, .bastore]) (pc2 := 320) (L2 := [(2, v0)]) (S2 := [(2, hNx h43), (2, v0)]) (h2 := h69) (by decide +kernel) (by subst he; rfl) (by exact hg) ?_
  clear hg he
  obtain ⟨h70, hg, he, hx⟩ := bgd hx
  refine Ev.blk (is := [.dup, .sipush 25, .sipush 116, .bastore]) (pc2 := 326) (L2 := [(2, v0)]) (S2 := [(2, hNx h43), (2, v0)]) (h2 := h70) (by decide +kernel) (by subst he; rfl) (by exact hg) ?_
  clear hg he
  obtain ⟨h71, hg, he, hx⟩ := bgd hx
  refine Ev.blk (is := [.dup, .sipush 26, .sipush 104, .bastore]) (pc2 := 332) (L2 := [(2, v0)]) (S2 := [(2, hNx h43), (2, v0)]) (h2 := h71) (by decide +kernel) (by subst he; rfl) (by exact hg) ?_
  clear hg he
  obtain ⟨h72, hg, he, hx⟩ := bgd hx
  refine Ev.blk (is := [.dup, .sipush 27, .iconst 0, .bastore]) (pc2 := 337) (L2 := [(2, v0)]) (S2 := [(2, hNx h43), (2, v0)]) (h2 := h72) (by decide +kernel) (by subst he; rfl) (by exact hg) ?_
  clear hg he
  obtain ⟨h73, hg, he, hx⟩ := bgd hx
  refine Ev.blk (is := [.dup, .sipush 28, .sipush 98, .bastore]) (pc2 := 343) (L2 := [(2, v0)]) (S2 := [(2, hNx h43), (2, v0)]) (h2 := h73) (by decide +kernel) (by subst he; rfl) (by exact hg) ?_
  clear hg he
  obtain ⟨h74, hg, he, hx⟩ := bgd hx
  refine Ev.blk (is := [.dup, .sipush 29, .sipush 97, .bastore]) (pc2 := 349) (L2 := [(2, v0)]) (S2 := [(2, hNx h43), (2, v0)]) (h2 := h74) (by decide +kernel) (by subst he; rfl) (by exact hg) ?_
  clear hg he
  obtain ⟨h75, hg, he, hx⟩ := bgd hx
  refine Ev.blk (is := [.dup, .sipush 30, .sipush 115, .bastore]) (pc2 := 355) (L2 := [(2, v0)]) (S2 := [(2, hNx h43), (2, v0)]) (h2 := h75) (by decide +kernel) (by subst he; rfl) (by exact hg) ?_
  clear hg he
  obtain ⟨h76, hg, he, hx⟩ := bgd hx
  refine Ev.blk (is := [.dup, .sipush 31, .sipush 101, .bastore]) (pc2 := 361) (L2 := [(2, v0)]) (S2 := [(2, hNx h43), (2, v0)]) (h2 := h76) (by decide +kernel) (by subst he; rfl) (by exact hg) ?_
  clear hg he
  obtain ⟨h77, hg, he, hx⟩ := bgd hx
  refine Ev.blk (is := [.dup, .sipush 32, .iconst 0, .bastore]) (pc2 := 366) (L2 := [(2, v0)]) (S2 := [(2, hNx h43), (2, v0)]) (h2 := h77) (by decide +kernel) (by subst he; rfl) (by exact hg) ?_
  clear hg he
  obtain ⟨h78, hg, he, hx⟩ := bgd hx
  refine Ev.blk (is := [.dup, .sipush 33, .sipush 98, .bastore]) (pc2 := 372) (L2 := [(2, v0)]) (S2 := [(2, hNx h43), (2, v0)]) (h2 := h78) (by decide +kernel) (by subst he; rfl) (by exact hg) ?_
  clear hg he
  obtain ⟨h79, hg, he, hx⟩ := bgd hx
  refine Ev.blk (is := [.dup, .sipush 34, .sipush 121, .bastore]) (pc2 := 378) (L2 := [(2, v0)]) (S2 := [(2, hNx h43), (2, v0)]) (h2 := h79) (by decide +kernel) (by subst he; rfl) (by exact hg) ?_
  clear hg he
  obtain ⟨h80, hg, he, hx⟩ := bgd hx
  refine Ev.blk (is := [.dup, .sipush 35, .iconst 0, .bastore]) (pc2 := 383) (L2 := [(2, v0)]) (S2 := [(2, hNx h43), (2, v0)]) (h2 := h80) (by decide +kernel) (by subst he; rfl) (by exact hg) ?_
  clear hg he
  obtain ⟨h81, hg, he, hx⟩ := bgd hx
  refine Ev.blk (is := [.dup, .sipush 36, .sipush 119, .bastore]) (pc2 := 389) (L2 := [(2, v0)]) (S2 := [(2, hNx h43), (2, v0)]) (h2 := h81) (by decide +kernel) (by subst he; rfl) (by exact hg) ?_
  clear hg he
  obtain ⟨h82, hg, he, hx⟩ := bgd hx
  refine Ev.blk (is := [.dup, .sipush 37, .sipush 105, .bastore]) (pc2 := 395) (L2 := [(2, v0)]) (S2 := [(2, hNx h43), (2, v0)]) (h2 := h82) (by decide +kernel) (by subst he; rfl) (by exact hg) ?_
  clear hg he
  obtain ⟨h83, hg, he, hx⟩ := bgd hx
  refine Ev.blk (is := [.dup, .sipush 38, .sipush 116, .bastore]) (pc2 := 401) (L2 := [(2, v0)]) (S2 := [(2, hNx h43), (2, v0)]) (h2 := h83) (by decide +kernel) (by subst he; rfl) (by exact hg) ?_
  clear hg he
  obtain ⟨h84, hg, he, hx⟩ := bgd hx
  refine Ev.blk (is := [.dup, .sipush 39, .sipush 104, .bastore]) (pc2 := 407) (L2 := [(2, v0)]) (S2 := [(2, hNx h43), (2, v0)]) (h2 := h84) (by decide +kernel) (by subst he; rfl) (by exact hg) ?_
  clear hg he
  obtain ⟨h85, hg, he, hx⟩ := bgd hx
  refine Ev.blk (is := [.dup, .sipush 40, .iconst 0, .bastore]) (pc2 := 412) (L2 := [(2, v0)]) (S2 := [(2, hNx h43), (2, v0)]) (h2 := h85) (by decide +kernel) (by subst he; rfl) (by exact hg) ?_
  clear hg he
  obtain ⟨h86, hg, he, hx⟩ := bgd hx
  refine Ev.blk (is := [.dup, .sipush 41, .sipush 100, .bastore]) (pc2 := 418) (L2 := [(2, v0)]) (S2 := [(2, hNx h43), (2, v0)]) (h2 := h86) (by decide +kernel) (by subst he; rfl) (by exact hg) ?_
  clear hg he
  obtain ⟨h87, hg, he, hx⟩ := bgd hx
  refine Ev.blk (is := [.dup, .sipush 42, .sipush 111, .bastore]) (pc2 := 424) (L2 := [(2, v0)]) (S2 := [(2, hNx h43), (2, v0)]) (h2 := h87) (by decide +kernel) (by subst he; rfl) (by exact hg) ?_
  clear hg he
  obtain ⟨h88, hg, he, hx⟩ := bgd hx
  refine Ev.blk (is := [.dup, .sipush 43, .sipush 119, .bastore]) (pc2 := 430) (L2 := [(2, v0)]) (S2 := [(2, hNx h43), (2, v0)]) (h2 := h88) (by decide +kernel) (by subst he; rfl) (by exact hg) ?_
  clear hg he
  obtain ⟨h89, hg, he, hx⟩ := bgd hx
  refine Ev.blk (is := [.dup, .sipush 44, .sipush 110, .bastore]) (pc2 := 436) (L2 := [(2, v0)]) (S2 := [(2, hNx h43), (2, v0)]) (h2 := h89) (by decide +kernel) (by subst he; rfl) (by exact hg) ?_
  clear hg he
  obtain ⟨h90, hg, he, hx⟩ := bgd hx
  refine Ev.blk (is := [.dup, .sipush 45, .iconst 0, .bastore]) (pc2 := 441) (L2 := [(2, v0)]) (S2 := [(2, hNx h43), (2, v0)]) (h2 := h90) (by decide +kernel) (by subst he; rfl) (by exact hg) ?_
  clear hg he
  obtain ⟨h91, hg, he, hx⟩ := bgd hx
  refine Ev.blk (is := [.dup, .sipush 46, .sipush 117, .bastore]) (pc2 := 447) (L2 := [(2, v0)]) (S2 := [(2, hNx h43), (2, v0)]) (h2 := h91) (by decide +kernel) (by subst he; rfl) (by exact hg) ?_
  clear hg he
  obtain ⟨h92, hg, he, hx⟩ := bgd hx
  refine Ev.blk (is := [.dup, .sipush 47, .sipush 112, .bastore]) (pc2 := 453) (L2 := [(2, v0)]) (S2 := [(2, hNx h43), (2, v0)]) (h2 := h92) (by decide +kernel) (by subst he; rfl) (by exact hg) ?_
  clear hg he
  obtain ⟨h93, hg, he, hx⟩ := bgd hx
  refine Ev.blk (is := [.dup, .sipush 48, .iconst 0, .bastore]) (pc2 := 458) (L2 := [(2, v0)]) (S2 := [(2, hNx h43), (2, v0)]) (h2 := h93) (by decide +kernel) (by subst he; rfl) (by exact hg) ?_
  clear hg he
  obtain ⟨h94, hg, he, hx⟩ := bgd hx
  refine Ev.blk (is := [.putfield 9231]) (pc2 := 461) (L2 := [(2, v0)]) (S2 := []) (h2 := h94) (by decide +kernel) (by subst he; rfl) (by exact hg) ?_
  clear hg he
  obtain ⟨h95, hg, he, hx⟩ := bgd hx
  refine Ev.blk (is := [.aload_n 0, .sipush 600, .newarray .int]) (pc2 := 467) (L2 := [(2, v0)]) (S2 := [(2, hNx h94), (2, v0)]) (h2 := h95) (by decide +kernel) (by subst he; rfl) (by exact hg) ?_
  clear hg he
  obtain ⟨h96, hg, he, hx⟩ := bgd hx
  refine Ev.blk (is := [.putfield 9232]) (pc2 := 470) (L2 := [(2, v0)]) (S2 := []) (h2 := h96) (by decide +kernel) (by subst he; rfl) (by exact hg) ?_
  clear hg he
  obtain ⟨h97, hg, he, hx⟩ := bgd hx
  refine Ev.blk (is := [.aload_n 0, .sipush 60, .newarray .int]) (pc2 := 475) (L2 := [(2, v0)]) (S2 := [(2, hNx h96), (2, v0)]) (h2 := h97) (by decide +kernel) (by subst he; rfl) (by exact hg) ?_
  clear hg he
  obtain ⟨h98, hg, he, hx⟩ := bgd hx
  refine Ev.blk (is := [.putfield 9234]) (pc2 := 478) (L2 := [(2, v0)]) (S2 := []) (h2 := h98) (by decide +kernel) (by subst he; rfl) (by exact hg) ?_
  clear hg he
  cases hx
  exact Ev.ret (i := .return_) (len := 1) (by decide +kernel) rfl (finOf (t := none) rfl (trivial))
theorem x_R_in {sc : AS} {d : Nat} (hd : 1 ≤ d) {v0 : Int} {v2 : Int} {v4 : Int} {h : AH} {r : Int} (hx : R_in v0 v2 v4 = some r) : Runs sc d 162 [(1, v0), (1, v2), (1, v4)] h (some (0, r)) h := by
  obtain ⟨d, rfl⟩ : ∃ e, d = e + 1 := ⟨d - 1, by omega⟩
  have hd : 0 ≤ d := by omega
  unfold R_in at hx
  refine ⟨⟨aM_162, rfl, Nat.le_of_ble_eq_true rfl⟩, ?_⟩
  show Ev sc d 162 0 [(1, v0), (8, 0), (1, v2), (8, 0), (1, v4), (8, 0)] [] h (some (0, r)) h
  refine Ev.blk (is := [.lload_n 0, .lload_n 2, .lcmp]) (pc2 := 3) (L2 := [(1, v0), (8, 0), (1, v2), (8, 0), (1, v4), (8, 0)]) (S2 := [(0, cmpL v0 v2)]) (h2 := h) (by decide +kernel) rfl trivial ?_
  obtain ⟨ha, hb⟩ := bite hx
  clear hx
  refine Ev.br (i := .ifCond .lt 14) (len := 3) (a := 17) (b := 6) (by decide +kernel) rfl cmpL_lt (fun hc => ?_) (fun hc => ?_)
  · have hx := ha hc
    clear ha hb hc
    refine Ev.blk (is := [.iconst 0]) (pc2 := 18) (L2 := [(1, v0), (8, 0), (1, v2), (8, 0), (1, v4), (8, 0)]) (S2 := [(0, 0)]) (h2 := h) (by decide +kernel) rfl trivial ?_
    cases hx
    exact Ev.ret (i := .ireturn) (len := 1) (by decide +kernel) rfl (finOf (t := some .boolean) rfl (bz0))
  · have hx := hb hc
    clear ha hb hc
    refine Ev.blk (is := [.lload_n 0, .lload 4, .lcmp]) (pc2 := 10) (L2 := [(1, v0), (8, 0), (1, v2), (8, 0), (1, v4), (8, 0)]) (S2 := [(0, cmpL v0 v4)]) (h2 := h) (by decide +kernel) rfl trivial ?_
    obtain ⟨ha, hb⟩ := bite hx
    clear hx
    refine Ev.br (i := .ifCond .gt 7) (len := 3) (a := 17) (b := 13) (by decide +kernel) rfl cmpL_gt (fun hc => ?_) (fun hc => ?_)
    · have hx := ha hc
      clear ha hb hc
      refine Ev.blk (is := [.iconst 0]) (pc2 := 18) (L2 := [(1, v0), (8, 0), (1, v2), (8, 0), (1, v4), (8, 0)]) (S2 := [(0, 0)]) (h2 := h) (by decide +kernel) rfl trivial ?_
      cases hx
      exact Ev.ret (i := .ireturn) (len := 1) (by decide +kernel) rfl (finOf (t := some .boolean) rfl (bz0))
    · have hx := hb hc
      clear ha hb hc
      refine Ev.blk (is := [.iconst 1]) (pc2 := 14) (L2 := [(1, v0), (8, 0), (1, v2), (8, 0), (1, v4), (8, 0)]) (S2 := [(0, 1)]) (h2 := h) (by decide +kernel) rfl trivial ?_
      refine Ev.jp (i := .goto 4) (len := 3) (pc2 := 18) (by decide +kernel) rfl ?_
      cases hx
      exact Ev.ret (i := .ireturn) (len := 1) (by decide +kernel) rfl (finOf (t := some .boolean) rfl (bz1))
theorem x_R_isNumber {sc : AS} {d : Nat} (hd : 2 ≤ d) {v0 : Int} {h : AH} {r : Int} (hx : R_isNumber v0 = some r) : Runs sc d 163 [(1, v0)] h (some (0, r)) h := by
  obtain ⟨d, rfl⟩ : ∃ e, d = e + 1 := ⟨d - 1, by omega⟩
  have hd : 1 ≤ d := by omega
  unfold R_isNumber at hx
  refine ⟨⟨aM_163, rfl, Nat.le_of_ble_eq_true rfl⟩, ?_⟩
  show Ev sc d 163 0 [(1, v0), (8, 0)] [] h (some (0, r)) h
  refine Ev.blk (is := [.lload_n 0, .jsr_w 2, .jsr_w 1000000000]) (pc2 := 7) (L2 := [(1, v0), (8, 0)]) (S2 := [(1, 1000000000), (1, 2), (1, v0)]) (h2 := h) (by decide +kernel) rfl trivial ?_
  obtain ⟨u1, hc, hx⟩ := bca hx
  refine Ev.call (args := [(1, v0), (1, 2), (1, 1000000000)]) (S2 := []) (r1 := (some (0, u1))) (h1 := h) (i := .invokestatic 162) (by decide +kernel) rfl rfl (Nat.le_of_ble_eq_true rfl) (Or.inl rfl) (x_R_in (by omega) hc) ?_
  obtain ⟨_, hg, -, hx⟩ := bgd hx
  cases hx
  exact Ev.ret (i := .ireturn) (len := 1) (by decide +kernel) rfl (finOf (t := some .boolean) rfl (hg))
theorem y_R_isPrime_14 {sc : AS} {d : Nat} (hd : 0 ≤ d) : ∀ (fu : Nat) (v0 : Int) (v2 : Int) (h : AH) (r : Int), R_isPrime_14 fu v0 v2 = some r → Ev sc d 166 14 [(1, v0), (8, 0), (1, v2), (8, 0)] [] h (some (0, r)) h := by
  intro fu
  induction fu with
  | zero => intro v0 v2 h r hx; unfold R_isPrime_14 at hx; cases hx
  | succ fu ih =>
    intro v0 v2 h r hx
    unfold R_isPrime_14 at hx
    refine Ev.blk (is := [.lload_n 2, .lload_n 2, .lmul, .lload_n 0, .lcmp]) (pc2 := 19) (L2 := [(1, v0), (8, 0), (1, v2), (8, 0)]) (S2 := [(0, cmpL (w64 (v2 * v2)) v0)]) (h2 := h) (by decide +kernel) rfl trivial ?_
    obtain ⟨ha, hb⟩ := bite hx
    clear hx
    refine Ev.br (i := .ifCond .gt 20) (len := 3) (a := 39) (b := 22) (by decide +kernel) rfl cmpL_gt (fun hc => ?_) (fun hc => ?_)
    · have hx := ha hc
      clear ha hb hc
      refine Ev.blk (is := [.iconst 1]) (pc2 := 40) (L2 := [(1, v0), (8, 0), (1, v2), (8, 0)]) (S2 := [(0, 1)]) (h2 := h) (by decide +kernel) rfl trivial ?_
      cases hx
      exact Ev.ret (i := .ireturn) (len := 1) (by decide +kernel) rfl (finOf (t := some .boolean) rfl (bz1))
    · have hx := hb hc
      clear ha hb hc
      obtain ⟨u1, hg, he, hx⟩ := bgd hx
      refine Ev.blk (is := [.lload_n 0, .lload_n 2, .lrem]) (pc2 := 25) (L2 := [(1, v0), (8, 0), (1, v2), (8, 0)]) (S2 := [(1, u1)]) (h2 := h) (by decide +kernel) (by subst he; rfl) (by exact hg) ?_
      clear hg he
      refine Ev.blk (is := [.lconst 0, .lcmp]) (pc2 := 27) (L2 := [(1, v0), (8, 0), (1, v2), (8, 0)]) (S2 := [(0, cmpL u1 0)]) (h2 := h) (by decide +kernel) rfl trivial ?_
      obtain ⟨ha, hb⟩ := bite hx
      clear hx
      refine Ev.br (i := .ifCond .ne 5) (len := 3) (a := 30) (b := 32) (by decide +kernel) rfl cmpL_eq (fun hc => ?_) (fun hc => ?_)
      · have hx := ha hc
        clear ha hb hc
        refine Ev.blk (is := [.iconst 0]) (pc2 := 31) (L2 := [(1, v0), (8, 0), (1, v2), (8, 0)]) (S2 := [(0, 0)]) (h2 := h) (by decide +kernel) rfl trivial ?_
        cases hx
        exact Ev.ret (i := .ireturn) (len := 1) (by decide +kernel) rfl (finOf (t := some .boolean) rfl (bz0))
      · have hx := hb hc
        clear ha hb hc
        refine Ev.blk (is := [.lload_n 2, .lconst 1, .ladd, .lstore_n 2]) (pc2 := 36) (L2 := [(1, v0), (8, 0), (1, w64 (v2 + 1)), (8, 0)]) (S2 := []) (h2 := h) (by decide +kernel) rfl trivial ?_
        refine Ev.jp (i := .goto (-22)) (len := 3) (pc2 := 14) (by decide +kernel) rfl ?_
        exact ih v0 (w64 (v2 + 1)) h _ hx
theorem x_R_isPrime {sc : AS} {d : Nat} (hd : 1 ≤ d) {v0 : Int} {h : AH} {r : Int} (hx : R_isPrime v0 = some r) : Runs sc d 166 [(1, v0)] h (some (0, r)) h := by
  obtain ⟨d, rfl⟩ : ∃ e, d = e + 1 := ⟨d - 1, by omega⟩
  have hd : 0 ≤ d := by omega
  unfold R_isPrime at hx
  refine ⟨⟨aM_166, rfl, Nat.le_of_ble_eq_true rfl⟩, ?_⟩
  show Ev sc d 166 0 [(1, v0), (8, 0), (9, 0), (9, 0)] [] h (some (0, r)) h
  refine Ev.blk (is := [.lload_n 0, .jsr_w 2, .lcmp]) (pc2 := 5) (L2 := [(1, v0), (8, 0), (9, 0), (9, 0)]) (S2 := [(0, cmpL v0 2)]) (h2 := h) (by decide +kernel) rfl trivial ?_
  obtain ⟨ha, hb⟩ := bite hx
  clear hx
  refine Ev.br (i := .ifCond .ge 5) (len := 3) (a := 8) (b := 10) (by decide +kernel) rfl cmpL_lt (fun hc => ?_) (fun hc => ?_)
  · have hx := ha hc
    clear ha hb hc
    refine Ev.blk (is := [.iconst 0]) (pc2 := 9) (L2 := [(1, v0), (8, 0), (9, 0), (9, 0)]) (S2 := [(0, 0)]) (h2 := h) (by decide +kernel) rfl trivial ?_
    cases hx
    exact Ev.ret (i := .ireturn) (len := 1) (by decide +kernel) rfl (finOf (t := some .boolean) rfl (bz0))
  · have hx := hb hc
    clear ha hb hc
    refine Ev.blk (is := [.jsr_w 2, .lstore_n 2]) (pc2 := 14) (L2 := [(1, v0), (8, 0), (1, 2), (8, 0)]) (S2 := []) (h2 := h) (by decide +kernel) rfl trivial ?_
    exact y_R_isPrime_14 hd FU v0 2 h _ hx
theorem y_R_areTwice_12 {sc : AS} {d : Nat} (hd : 0 ≤ d) {k2 : Int → Int → Int → Int → AH → Option Int} (hk2 : ∀ (v0 : Int) (v1 : Int) (v2 : Int) (v3 : Int) (h : AH) (r : Int), k2 v0 v1 v2 v3 h = some r → Ev sc d 167 2 [(2, v0), (0, v1), (0, v2), (0, v3), (9, 0)] [] h (some (0, r)) h) : ∀ (fu : Nat) (v0 : Int) (v1 : Int) (v2 : Int) (v3 : Int) (v4 : Int) (h : AH) (r : Int), R_areTwice_12 k2 fu v0 v1 v2 v3 v4 h = some r → Ev sc d 167 12 [(2, v0), (0, v1), (0, v2), (0, v3), (0, v4)] [] h (some (0, r)) h := by
  intro fu
  induction fu with
  | zero => intro v0 v1 v2 v3 v4 h r hx; unfold R_areTwice_12 at hx; cases hx
  | succ fu ih =>
    intro v0 v1 v2 v3 v4 h r hx
    unfold R_areTwice_12 at hx
    refine Ev.blk (is := [.iload 4, .iload_n 3]) (pc2 := 15) (L2 := [(2, v0), (0, v1), (0, v2), (0, v3), (0, v4)]) (S2 := [(0, v3), (0, v4)]) (h2 := h) (by decide +kernel) rfl trivial ?_
    obtain ⟨ha, hb⟩ := bite hx
    clear hx
    refine Ev.br (i := .if_icmp .ge 21) (len := 3) (a := 18) (b := 36) (by decide +kernel) rfl Iff.rfl (fun hc => ?_) (fun hc => ?_)
    · have hx := ha hc
      clear ha hb hc
      obtain ⟨u1, hg, he, hx⟩ := bgd hx
      refine Ev.blk (is := [.aload_n 0, .iload_n 3, .iaload]) (pc2 := 21) (L2 := [(2, v0), (0, v1), (0, v2), (0, v3), (0, v4)]) (S2 := [(0, u1)]) (h2 := h) (by decide +kernel) (by subst he; rfl) (by exact hg) ?_
      clear hg he
      obtain ⟨u2, hg, he, hx⟩ := bgd hx
      refine Ev.blk (is := [.aload_n 0, .iload 4, .iaload]) (pc2 := 25) (L2 := [(2, v0), (0, v1), (0, v2), (0, v3), (0, v4)]) (S2 := [(0, u2), (0, u1)]) (h2 := h) (by decide +kernel) (by subst he; rfl) (by exact hg) ?_
      clear hg he
      obtain ⟨ha, hb⟩ := bite hx
      clear hx
      refine Ev.br (i := .if_icmp .ne 5) (len := 3) (a := 28) (b := 30) (by decide +kernel) rfl Iff.rfl (fun hc => ?_) (fun hc => ?_)
      · have hx := ha hc
        clear ha hb hc
        refine Ev.blk (is := [.iconst 1]) (pc2 := 29) (L2 := [(2, v0), (0, v1), (0, v2), (0, v3), (0, v4)]) (S2 := [(0, 1)]) (h2 := h) (by decide +kernel) rfl trivial ?_
        cases hx
        exact Ev.ret (i := .ireturn) (len := 1) (by decide +kernel) rfl (finOf (t := some .boolean) rfl (bz1))
      · have hx := hb hc
        clear ha hb hc
        refine Ev.blk (is := [.iinc 4 1]) (pc2 := 33) (L2 := [(2, v0), (0, v1), (0, v2), (0, v3), (0, w32 (v4 + 1))]) (S2 := []) (h2 := h) (by decide +kernel) rfl trivial ?_
        refine Ev.jp (i := .goto (-21)) (len := 3) (pc2 := 12) (by decide +kernel) rfl ?_
        exact ih v0 v1 v2 v3 (w32 (v4 + 1)) h _ hx
    · have hx := hb hc
      clear ha hb hc
      refine Ev.blk (is := [.iinc 3 1]) (pc2 := 39) (L2 := [(2, v0), (0, v1), (0, v2), (0, w32 (v3 + 1)), (0, v4)]) (S2 := []) (h2 := h) (by decide +kernel) rfl trivial ?_
      refine Ev.jp (i := .goto (-37)) (len := 3) (pc2 := 2) (by decide +kernel) rfl ?_
      refine Ev.wk (L2 := [(2, v0), (0, v1), (0, v2), (0, w32 (v3 + 1)), (9, 0)]) (wkL_of ⟨Or.inl rfl, ⟨Or.inl rfl, ⟨Or.inl rfl, ⟨Or.inl rfl, ⟨Or.inr rfl, trivial⟩⟩⟩⟩⟩) ?_
      exact hk2 v0 v1 v2 (w32 (v3 + 1)) h _ hx
theorem y_R_areTwice_2 {sc : AS} {d : Nat} (hd : 0 ≤ d) : ∀ (fu : Nat) (v0 : Int) (v1 : Int) (v2 : Int) (v3 : Int) (h : AH) (r : Int), R_areTwice_2 fu v0 v1 v2 v3 h = some r → Ev sc d 167 2 [(2, v0), (0, v1), (0, v2), (0, v3), (9, 0)] [] h (some (0, r)) h := by
  intro fu
  induction fu with
  | zero => intro v0 v1 v2 v3 h r hx; unfold R_areTwice_2 at hx; cases hx
  | succ fu ih =>
    intro v0 v1 v2 v3 h r hx
    unfold R_areTwice_2 at hx
    refine Ev.blk (is := [.iload_n 3, .iload_n 1, .iload_n 2, .iadd]) (pc2 := 6) (L2 := [(2, v0), (0, v1), (0, v2), (0, v3), (9, 0)]) (S2 := [(0, w32 (v1 + v2)), (0, v3)]) (h2 := h) (by decide +kernel) rfl trivial ?_
    obtain ⟨ha, hb⟩ := bite hx
    clear hx
    refine Ev.br (i := .if_icmp .ge 36) (len := 3) (a := 9) (b := 42) (by decide +kernel) rfl Iff.rfl (fun hc => ?_) (fun hc => ?_)
    · have hx := ha hc
      clear ha hb hc
      refine Ev.blk (is := [.iload_n 1, .istore 4]) (pc2 := 12) (L2 := [(2, v0), (0, v1), (0, v2), (0, v3), (0, v1)]) (S2 := []) (h2 := h) (by decide +kernel) rfl trivial ?_
      exact y_R_areTwice_12 hd ih FU v0 v1 v2 v3 v1 h _ hx
    · have hx := hb hc
      clear ha hb hc
      refine Ev.blk (is := [.iconst 0]) (pc2 := 43) (L2 := [(2, v0), (0, v1), (0, v2), (0, v3), (9, 0)]) (S2 := [(0, 0)]) (h2 := h) (by decide +kernel) rfl trivial ?_
      cases hx
      exact Ev.ret (i := .ireturn) (len := 1) (by decide +kernel) rfl (finOf (t := some .boolean) rfl (bz0))
theorem x_R_areTwice {sc : AS} {d : Nat} (hd : 1 ≤ d) {v0 : Int} {v1 : Int} {v2 : Int} {h : AH} {r : Int} (hx : R_areTwice v0 v1 v2 h = some r) : Runs sc d 167 [(2, v0), (0, v1), (0, v2)] h (some (0, r)) h := by
  obtain ⟨d, rfl⟩ : ∃ e, d = e + 1 := ⟨d - 1, by omega⟩
  have hd : 0 ≤ d := by omega
  unfold R_areTwice at hx
  refine ⟨⟨aM_167, rfl, Nat.le_of_ble_eq_true rfl⟩, ?_⟩
  show Ev sc d 167 0 [(2, v0), (0, v1), (0, v2), (9, 0), (9, 0)] [] h (some (0, r)) h
  refine Ev.blk (is := [.iload_n 1, .istore_n 3]) (pc2 := 2) (L2 := [(2, v0), (0, v1), (0, v2), (0, v1), (9, 0)]) (S2 := []) (h2 := h) (by decide +kernel) rfl trivial ?_
  exact y_R_areTwice_2 hd FU v0 v1 v2 v1 h _ hx
theorem y_R_lineFor_2 {sc : AS} {d : Nat} (hd : 0 ≤ d) : ∀ (fu : Nat) (v0 : Int) (v1 : Int) (v2 : Int) (v3 : Int) (h : AH) (r : Int), R_lineFor_2 fu v0 v1 v2 v3 h = some r → Ev sc d 169 2 [(2, v0), (0, v1), (0, v2), (0, v3)] [] h (some (0, r)) h := by
  intro fu
  induction fu with
  | zero => intro v0 v1 v2 v3 h r hx; unfold R_lineFor_2 at hx; cases hx
  | succ fu ih =>
    intro v0 v1 v2 v3 h r hx
    unfold R_lineFor_2 at hx
    refine Ev.blk (is := [.iload_n 3, .iload_n 2]) (pc2 := 4) (L2 := [(2, v0), (0, v1), (0, v2), (0, v3)]) (S2 := [(0, v2), (0, v3)]) (h2 := h) (by decide +kernel) rfl trivial ?_
    obtain ⟨ha, hb⟩ := bite hx
    clear hx
    refine Ev.br (i := .if_icmp .ge 30) (len := 3) (a := 7) (b := 34) (by decide +kernel) rfl Iff.rfl (fun hc => ?_) (fun hc => ?_)
    · have hx := ha hc
      clear ha hb hc
      obtain ⟨u1, hg, he, hx⟩ := bgd hx
      refine Ev.blk (is := [.aload_n 0, .getfield 9219]) (pc2 := 11) (L2 := [(2, v0), (0, v1), (0, v2), (0, v3)]) (S2 := [(2, u1)]) (h2 := h) (by decide +kernel) (by subst he; rfl) (by exact hg) ?_
      clear hg he
      obtain ⟨u2, hg, he, hx⟩ := bgd hx
      refine Ev.blk (is := [.iload_n 3, .baload]) (pc2 := 13) (L2 := [(2, v0), (0, v1), (0, v2), (0, v3)]) (S2 := [(0, u2)]) (h2 := h) (by decide +kernel) (by subst he; rfl) (by exact hg) ?_
      clear hg he
      obtain ⟨ha, hb⟩ := bite hx
      clear hx
      refine Ev.br (i := .ifCond .eq 15) (len := 3) (a := 28) (b := 16) (by decide +kernel) rfl Iff.rfl (fun hc => ?_) (fun hc => ?_)
      · have hx := ha hc
        clear ha hb hc
        refine Ev.blk (is := [.iinc 3 1]) (pc2 := 31) (L2 := [(2, v0), (0, v1), (0, v2), (0, w32 (v3 + 1))]) (S2 := []) (h2 := h) (by decide +kernel) rfl trivial ?_
        refine Ev.jp (i := .goto (-29)) (len := 3) (pc2 := 2) (by decide +kernel) rfl ?_
        exact ih v0 v1 v2 (w32 (v3 + 1)) h _ hx
      · have hx := hb hc
        clear ha hb hc
        obtain ⟨u3, hg, he, hx⟩ := bgd hx
        refine Ev.blk (is := [.aload_n 0, .getfield 9208]) (pc2 := 20) (L2 := [(2, v0), (0, v1), (0, v2), (0, v3)]) (S2 := [(2, u3)]) (h2 := h) (by decide +kernel) (by subst he; rfl) (by exact hg) ?_
        clear hg he
        obtain ⟨u4, hg, he, hx⟩ := bgd hx
        refine Ev.blk (is := [.iload_n 3, .iaload]) (pc2 := 22) (L2 := [(2, v0), (0, v1), (0, v2), (0, v3)]) (S2 := [(0, u4)]) (h2 := h) (by decide +kernel) (by subst he; rfl) (by exact hg) ?_
        clear hg he
        refine Ev.blk (is := [.iload_n 1]) (pc2 := 23) (L2 := [(2, v0), (0, v1), (0, v2), (0, v3)]) (S2 := [(0, v1), (0, u4)]) (h2 := h) (by decide +kernel) rfl trivial ?_
        obtain ⟨ha, hb⟩ := bite hx
        clear hx
        refine Ev.br (i := .if_icmp .ne 5) (len := 3) (a := 26) (b := 28) (by decide +kernel) rfl Iff.rfl (fun hc => ?_) (fun hc => ?_)
        · have hx := ha hc
          clear ha hb hc
          refine Ev.blk (is := [.iload_n 3]) (pc2 := 27) (L2 := [(2, v0), (0, v1), (0, v2), (0, v3)]) (S2 := [(0, v3)]) (h2 := h) (by decide +kernel) rfl trivial ?_
          cases hx
          exact Ev.ret (i := .ireturn) (len := 1) (by decide +kernel) rfl (finOf (t := some .int) rfl (trivial))
        · have hx := hb hc
          clear ha hb hc
          refine Ev.blk (is := [.iinc 3 1]) (pc2 := 31) (L2 := [(2, v0), (0, v1), (0, v2), (0, w32 (v3 + 1))]) (S2 := []) (h2 := h) (by decide +kernel) rfl trivial ?_
          refine Ev.jp (i := .goto (-29)) (len := 3) (pc2 := 2) (by decide +kernel) rfl ?_
          exact ih v0 v1 v2 (w32 (v3 + 1)) h _ hx
    · have hx := hb hc
      clear ha hb hc
      refine Ev.blk (is := [.iconst (-1)]) (pc2 := 35) (L2 := [(2, v0), (0, v1), (0, v2), (0, v3)]) (S2 := [(0, (-1))]) (h2 := h) (by decide +kernel) rfl trivial ?_
      cases hx
      exact Ev.ret (i := .ireturn) (len := 1) (by decide +kernel) rfl (finOf (t := some .int) rfl (trivial))
theorem x_R_lineFor {sc : AS} {d : Nat} (hd : 1 ≤ d) {v0 : Int} {v1 : Int} {v2 : Int} {h : AH} {r : Int} (hx : R_lineFor v0 v1 v2 h = some r) : Runs sc d 169 [(2, v0), (0, v1), (0, v2)] h (some (0, r)) h := by
  obtain ⟨d, rfl⟩ : ∃ e, d = e + 1 := ⟨d - 1, by omega⟩
  have hd : 0 ≤ d := by omega
  unfold R_lineFor at hx
  refine ⟨⟨aM_169, rfl, Nat.le_of_ble_eq_true rfl⟩, ?_⟩
  show Ev sc d 169 0 [(2, v0), (0, v1), (0, v2), (9, 0)] [] h (some (0, r)) h
  refine Ev.blk (is := [.iconst 0, .istore_n 3]) (pc2 := 2) (L2 := [(2, v0), (0, v1), (0, v2), (0, 0)]) (S2 := []) (h2 := h) (by decide +kernel) rfl trivial ?_
  exact y_R_lineFor_2 hd FU v0 v1 v2 0 h _ hx
theorem y_R_hasAll_3 {sc : AS} {d : Nat} (hd : 1 ≤ d) : ∀ (fu : Nat) (v0 : Int) (v1 : Int) (v2 : Int) (v3 : Int) (v4 : Int) (v5 : Int) (h : AH) (r : Int), R_hasAll_3 fu v0 v1 v2 v3 v4 v5 h = some r → Ev sc d 168 3 [(2, v0), (2, v1), (0, v2), (0, v3), (0, v4), (0, v5)] [] h (some (0, r)) h := by
  intro fu
  induction fu with
  | zero => intro v0 v1 v2 v3 v4 v5 h r hx; unfold R_hasAll_3 at hx; cases hx
  | succ fu ih =>
    intro v0 v1 v2 v3 v4 v5 h r hx
    unfold R_hasAll_3 at hx
    refine Ev.blk (is := [.iload 5, .iload_n 2, .iload_n 3, .iadd]) (pc2 := 8) (L2 := [(2, v0), (2, v1), (0, v2), (0, v3), (0, v4), (0, v5)]) (S2 := [(0, w32 (v2 + v3)), (0, v5)]) (h2 := h) (by decide +kernel) rfl trivial ?_
    obtain ⟨ha, hb⟩ := bite hx
    clear hx
    refine Ev.br (i := .if_icmp .ge 25) (len := 3) (a := 11) (b := 33) (by decide +kernel) rfl Iff.rfl (fun hc => ?_) (fun hc => ?_)
    · have hx := ha hc
      clear ha hb hc
      obtain ⟨u1, hg, he, hx⟩ := bgd hx
      refine Ev.blk (is := [.aload_n 0, .aload_n 1, .iload 5, .iaload]) (pc2 := 16) (L2 := [(2, v0), (2, v1), (0, v2), (0, v3), (0, v4), (0, v5)]) (S2 := [(0, u1), (2, v0)]) (h2 := h) (by decide +kernel) (by subst he; rfl) (by exact hg) ?_
      clear hg he
      refine Ev.blk (is := [.iload 4]) (pc2 := 18) (L2 := [(2, v0), (2, v1), (0, v2), (0, v3), (0, v4), (0, v5)]) (S2 := [(0, v4), (0, u1), (2, v0)]) (h2 := h) (by decide +kernel) rfl trivial ?_
      obtain ⟨_, hg, -, hx⟩ := bgd hx
      obtain ⟨u2, hc, hx⟩ := bca hx
      refine Ev.call (args := [(2, v0), (0, u1), (0, v4)]) (S2 := []) (r1 := (some (0, u2))) (h1 := h) (i := .invokevirtual 169) (by decide +kernel) rfl rfl (Nat.le_of_ble_eq_true rfl) (Or.inr (Or.inl ⟨rfl, hg, by decide +kernel⟩)) (x_R_lineFor (by omega) hc) ?_
      refine Ev.blk (is := [.iconst (-1)]) (pc2 := 22) (L2 := [(2, v0), (2, v1), (0, v2), (0, v3), (0, v4), (0, v5)]) (S2 := [(0, (-1)), (0, u2)]) (h2 := h) (by decide +kernel) rfl trivial ?_
      obtain ⟨ha, hb⟩ := bite hx
      clear hx
      refine Ev.br (i := .if_icmp .ne 5) (len := 3) (a := 25) (b := 27) (by decide +kernel) rfl Iff.rfl (fun hc => ?_) (fun hc => ?_)
      · have hx := ha hc
        clear ha hb hc
        refine Ev.blk (is := [.iconst 0]) (pc2 := 26) (L2 := [(2, v0), (2, v1), (0, v2), (0, v3), (0, v4), (0, v5)]) (S2 := [(0, 0)]) (h2 := h) (by decide +kernel) rfl trivial ?_
        cases hx
        exact Ev.ret (i := .ireturn) (len := 1) (by decide +kernel) rfl (finOf (t := some .boolean) rfl (bz0))
      · have hx := hb hc
        clear ha hb hc
        refine Ev.blk (is := [.iinc 5 1]) (pc2 := 30) (L2 := [(2, v0), (2, v1), (0, v2), (0, v3), (0, v4), (0, w32 (v5 + 1))]) (S2 := []) (h2 := h) (by decide +kernel) rfl trivial ?_
        refine Ev.jp (i := .goto (-27)) (len := 3) (pc2 := 3) (by decide +kernel) rfl ?_
        exact ih v0 v1 v2 v3 v4 (w32 (v5 + 1)) h _ hx
    · have hx := hb hc
      clear ha hb hc
      refine Ev.blk (is := [.iconst 1]) (pc2 := 34) (L2 := [(2, v0), (2, v1), (0, v2), (0, v3), (0, v4), (0, v5)]) (S2 := [(0, 1)]) (h2 := h) (by decide +kernel) rfl trivial ?_
      cases hx
      exact Ev.ret (i := .ireturn) (len := 1) (by decide +kernel) rfl (finOf (t := some .boolean) rfl (bz1))
theorem x_R_hasAll {sc : AS} {d : Nat} (hd : 2 ≤ d) {v0 : Int} {v1 : Int} {v2 : Int} {v3 : Int} {v4 : Int} {h : AH} {r : Int} (hx : R_hasAll v0 v1 v2 v3 v4 h = some r) : Runs sc d 168 [(2, v0), (2, v1), (0, v2), (0, v3), (0, v4)] h (some (0, r)) h := by
  obtain ⟨d, rfl⟩ : ∃ e, d = e + 1 := ⟨d - 1, by omega⟩
  have hd : 1 ≤ d := by omega
  unfold R_hasAll at hx
  refine ⟨⟨aM_168, rfl, Nat.le_of_ble_eq_true rfl⟩, ?_⟩
  show Ev sc d 168 0 [(2, v0), (2, v1), (0, v2), (0, v3), (0, v4), (9, 0)] [] h (some (0, r)) h
  refine Ev.blk (is := [.iload_n 2, .istore 5]) (pc2 := 3) (L2 := [(2, v0), (2, v1), (0, v2), (0, v3), (0, v4), (0, v2)]) (S2 := []) (h2 := h) (by decide +kernel) rfl trivial ?_
  exact y_R_hasAll_3 hd FU v0 v1 v2 v3 v4 v2 h _ hx
theorem y_R_product_18 {sc : AS} {d : Nat} (hd : 0 ≤ d) {k6 : Int → Int → Int → Int → Int → Int → AH → Option Int} (hk6 : ∀ (v1 : Int) (v2 : Int) (v3 : Int) (v4 : Int) (v5 : Int) (v7 : Int) (h : AH) (r : Int), k6 v1 v2 v3 v4 v5 v7 h = some r → Ev sc d 172 6 [(9, 0), (2, v1), (2, v2), (0, v3), (0, v4), (1, v5), (8, 0), (0, v7), (9, 0)] [] h (some (1, r)) h) : ∀ (fu : Nat) (v1 : Int) (v2 : Int) (v3 : Int) (v4 : Int) (v5 : Int) (v7 : Int) (v8 : Int) (h : AH) (r : Int), R_product_18 k6 fu v1 v2 v3 v4 v5 v7 v8 h = some r → Ev sc d 172 18 [(9, 0), (2, v1), (2, v2), (0, v3), (0, v4), (1, v5), (8, 0), (0, v7), (0, v8)] [] h (some (1, r)) h := by
  intro fu
  induction fu with
  | zero => intro v1 v2 v3 v4 v5 v7 v8 h r hx; unfold R_product_18 at hx; cases hx
  | succ fu ih =>
    intro v1 v2 v3 v4 v5 v7 v8 h r hx
    unfold R_product_18 at hx
    obtain ⟨u1, hg, he, hx⟩ := bgd hx
    refine Ev.blk (is := [.iload 8, .aload_n 2, .iload 7, .iaload]) (pc2 := 24) (L2 := [(9, 0), (2, v1), (2, v2), (0, v3), (0, v4), (1, v5), (8, 0), (0, v7), (0, v8)]) (S2 := [(0, u1), (0, v8)]) (h2 := h) (by decide +kernel) (by subst he; rfl) (by exact hg) ?_
    clear hg he
    obtain ⟨ha, hb⟩ := bite hx
    clear hx
    refine Ev.br (i := .if_icmp .ge 40) (len := 3) (a := 27) (b := 64) (by decide +kernel) rfl Iff.rfl (fun hc => ?_) (fun hc => ?_)
    · have hx := ha hc
      clear ha hb hc
      obtain ⟨u2, hg, he, hx⟩ := bgd hx
      refine Ev.blk (is := [.lload 5, .jsr_w 4000000000, .aload_n 1, .iload 7, .iaload]) (pc2 := 36) (L2 := [(9, 0), (2, v1), (2, v2), (0, v3), (0, v4), (1, v5), (8, 0), (0, v7), (0, v8)]) (S2 := [(0, u2), (1, 4000000000), (1, v5)]) (h2 := h) (by decide +kernel) (by subst he; rfl) (by exact hg) ?_
      clear hg he
      obtain ⟨u3, hg, he, hx⟩ := bgd hx
      refine Ev.blk (is := [.i2l, .ldiv]) (pc2 := 38) (L2 := [(9, 0), (2, v1), (2, v2), (0, v3), (0, v4), (1, v5), (8, 0), (0, v7), (0, v8)]) (S2 := [(1, u3), (1, v5)]) (h2 := h) (by decide +kernel) (by subst he; rfl) (by exact hg) ?_
      clear hg he
      refine Ev.blk (is := [.lcmp]) (pc2 := 39) (L2 := [(9, 0), (2, v1), (2, v2), (0, v3), (0, v4), (1, v5), (8, 0), (0, v7), (0, v8)]) (S2 := [(0, cmpL v5 u3)]) (h2 := h) (by decide +kernel) rfl trivial ?_
      obtain ⟨ha, hb⟩ := bite hx
      clear hx
      refine Ev.br (i := .ifCond .le 9) (len := 3) (a := 42) (b := 48) (by decide +kernel) rfl cmpL_gt (fun hc => ?_) (fun hc => ?_)
      · have hx := ha hc
        clear ha hb hc
        refine Ev.blk (is := [.jsr_w 4000000000]) (pc2 := 45) (L2 := [(9, 0), (2, v1), (2, v2), (0, v3), (0, v4), (1, v5), (8, 0), (0, v7), (0, v8)]) (S2 := [(1, 4000000000)]) (h2 := h) (by decide +kernel) rfl trivial ?_
        refine Ev.jp (i := .goto 11) (len := 3) (pc2 := 56) (by decide +kernel) rfl ?_
        refine Ev.blk (is := [.lstore 5, .iinc 8 1]) (pc2 := 61) (L2 := [(9, 0), (2, v1), (2, v2), (0, v3), (0, v4), (1, 4000000000), (8, 0), (0, v7), (0, w32 (v8 + 1))]) (S2 := []) (h2 := h) (by decide +kernel) rfl trivial ?_
        refine Ev.jp (i := .goto (-43)) (len := 3) (pc2 := 18) (by decide +kernel) rfl ?_
        exact ih v1 v2 v3 v4 4000000000 v7 (w32 (v8 + 1)) h _ hx
      · have hx := hb hc
        clear ha hb hc
        obtain ⟨u4, hg, he, hx⟩ := bgd hx
        refine Ev.blk (is := [.lload 5, .aload_n 1, .iload 7, .iaload]) (pc2 := 54) (L2 := [(9, 0), (2, v1), (2, v2), (0, v3), (0, v4), (1, v5), (8, 0), (0, v7), (0, v8)]) (S2 := [(0, u4), (1, v5)]) (h2 := h) (by decide +kernel) (by subst he; rfl) (by exact hg) ?_
        clear hg he
        refine Ev.blk (is := [.i2l, .lmul, .lstore 5, .iinc 8 1]) (pc2 := 61) (L2 := [(9, 0), (2, v1), (2, v2), (0, v3), (0, v4), (1, w64 (v5 * u4)), (8, 0), (0, v7), (0, w32 (v8 + 1))]) (S2 := []) (h2 := h) (by decide +kernel) rfl trivial ?_
        refine Ev.jp (i := .goto (-43)) (len := 3) (pc2 := 18) (by decide +kernel) rfl ?_
        exact ih v1 v2 v3 v4 (w64 (v5 * u4)) v7 (w32 (v8 + 1)) h _ hx
    · have hx := hb hc
      clear ha hb hc
      refine Ev.blk (is := [.iinc 7 1]) (pc2 := 67) (L2 := [(9, 0), (2, v1), (2, v2), (0, v3), (0, v4), (1, v5), (8, 0), (0, w32 (v7 + 1)), (0, v8)]) (S2 := []) (h2 := h) (by decide +kernel) rfl trivial ?_
      refine Ev.jp (i := .goto (-61)) (len := 3) (pc2 := 6) (by decide +kernel) rfl ?_
      refine Ev.wk (L2 := [(9, 0), (2, v1), (2, v2), (0, v3), (0, v4), (1, v5), (8, 0), (0, w32 (v7 + 1)), (9, 0)]) (wkL_of ⟨Or.inl rfl, ⟨Or.inl rfl, ⟨Or.inl rfl, ⟨Or.inl rfl, ⟨Or.inl rfl, ⟨Or.inl rfl, ⟨Or.inl rfl, ⟨Or.inl rfl, ⟨Or.inr rfl, trivial⟩⟩⟩⟩⟩⟩⟩⟩⟩) ?_
      exact hk6 v1 v2 v3 v4 v5 (w32 (v7 + 1)) h _ hx
theorem y_R_product_6 {sc : AS} {d : Nat} (hd : 0 ≤ d) : ∀ (fu : Nat) (v1 : Int) (v2 : Int) (v3 : Int) (v4 : Int) (v5 : Int) (v7 : Int) (h : AH) (r : Int), R_product_6 fu v1 v2 v3 v4 v5 v7 h = some r → Ev sc d 172 6 [(9, 0), (2, v1), (2, v2), (0, v3), (0, v4), (1, v5), (8, 0), (0, v7), (9, 0)] [] h (some (1, r)) h := by
  intro fu
  induction fu with
  | zero => intro v1 v2 v3 v4 v5 v7 h r hx; unfold R_product_6 at hx; cases hx
  | succ fu ih =>
    intro v1 v2 v3 v4 v5 v7 h r hx
    unfold R_product_6 at hx
    refine Ev.blk (is := [.iload 7, .iload_n 3, .iload 4, .iadd]) (pc2 := 12) (L2 := [(9, 0), (2, v1), (2, v2), (0, v3), (0, v4), (1, v5), (8, 0), (0, v7), (9, 0)]) (S2 := [(0, w32 (v3 + v4)), (0, v7)]) (h2 := h) (by decide +kernel) rfl trivial ?_
    obtain ⟨ha, hb⟩ := bite hx
    clear hx
    refine Ev.br (i := .if_icmp .ge 58) (len := 3) (a := 15) (b := 70) (by decide +kernel) rfl Iff.rfl (fun hc => ?_) (fun hc => ?_)
    · have hx := ha hc
      clear ha hb hc
      refine Ev.blk (is := [.iconst 0, .istore 8]) (pc2 := 18) (L2 := [(9, 0), (2, v1), (2, v2), (0, v3), (0, v4), (1, v5), (8, 0), (0, v7), (0, 0)]) (S2 := []) (h2 := h) (by decide +kernel) rfl trivial ?_
      exact y_R_product_18 hd ih FU v1 v2 v3 v4 v5 v7 0 h _ hx
    · have hx := hb hc
      clear ha hb hc
      refine Ev.blk (is := [.lload 5]) (pc2 := 72) (L2 := [(9, 0), (2, v1), (2, v2), (0, v3), (0, v4), (1, v5), (8, 0), (0, v7), (9, 0)]) (S2 := [(1, v5)]) (h2 := h) (by decide +kernel) rfl trivial ?_
      cases hx
      exact Ev.ret (i := .lreturn) (len := 1) (by decide +kernel) rfl (finOf (t := some .long) rfl (trivial))
theorem x_R_product {sc : AS} {d : Nat} (hd : 1 ≤ d) {v0 : Int} {v1 : Int} {v2 : Int} {v3 : Int} {v4 : Int} {h : AH} {r : Int} (hx : R_product v0 v1 v2 v3 v4 h = some r) : Runs sc d 172 [(2, v0), (2, v1), (2, v2), (0, v3), (0, v4)] h (some (1, r)) h := by
  obtain ⟨d, rfl⟩ : ∃ e, d = e + 1 := ⟨d - 1, by omega⟩
  have hd : 0 ≤ d := by omega
  unfold R_product at hx
  refine ⟨⟨aM_172, rfl, Nat.le_of_ble_eq_true rfl⟩, ?_⟩
  show Ev sc d 172 0 [(2, v0), (2, v1), (2, v2), (0, v3), (0, v4), (9, 0), (9, 0), (9, 0), (9, 0)] [] h (some (1, r)) h
  refine Ev.blk (is := [.lconst 1, .lstore 5, .iload_n 3, .istore 7]) (pc2 := 6) (L2 := [(2, v0), (2, v1), (2, v2), (0, v3), (0, v4), (1, 1), (8, 0), (0, v3), (9, 0)]) (S2 := []) (h2 := h) (by decide +kernel) rfl trivial ?_
  refine Ev.wk (L2 := [(9, 0), (2, v1), (2, v2), (0, v3), (0, v4), (1, 1), (8, 0), (0, v3), (9, 0)]) (wkL_of ⟨Or.inr rfl, ⟨Or.inl rfl, ⟨Or.inl rfl, ⟨Or.inl rfl, ⟨Or.inl rfl, ⟨Or.inl rfl, ⟨Or.inl rfl, ⟨Or.inl rfl, ⟨Or.inl rfl, trivial⟩⟩⟩⟩⟩⟩⟩⟩⟩) ?_
  exact y_R_product_6 hd FU v1 v2 v3 v4 1 v3 h _ hx
theorem x_R_below {sc : AS} {d : Nat} (hd : 2 ≤ d) {v0 : Int} {v1 : Int} {h : AH} {r : Int} (hx : R_below v0 v1 h = some r) : Runs sc d 171 [(2, v0), (0, v1)] h (some (1, r)) h := by
  obtain ⟨d, rfl⟩ : ∃ e, d = e + 1 := ⟨d - 1, by omega⟩
  have hd : 1 ≤ d := by omega
  unfold R_below at hx
  refine ⟨⟨aM_171, rfl, Nat.le_of_ble_eq_true rfl⟩, ?_⟩
  show Ev sc d 171 0 [(2, v0), (0, v1)] [] h (some (1, r)) h
  obtain ⟨u1, hg, he, hx⟩ := bgd hx
  refine Ev.blk (is := [.aload_n 0, .aload_n 0, .getfield 9214]) (pc2 := 5) (L2 := [(2, v0), (0, v1)]) (S2 := [(2, u1), (2, v0)]) (h2 := h) (by decide +kernel) (by subst he; rfl) (by exact hg) ?_
  clear hg he
  obtain ⟨u2, hg, he, hx⟩ := bgd hx
  refine Ev.blk (is := [.aload_n 0, .getfield 9215]) (pc2 := 9) (L2 := [(2, v0), (0, v1)]) (S2 := [(2, u2), (2, u1), (2, v0)]) (h2 := h) (by decide +kernel) (by subst he; rfl) (by exact hg) ?_
  clear hg he
  obtain ⟨u3, hg, he, hx⟩ := bgd hx
  refine Ev.blk (is := [.sipush 9, .iload_n 1, .imul, .aload_n 0, .getfield 9212]) (pc2 := 17) (L2 := [(2, v0), (0, v1)]) (S2 := [(2, u3), (0, w32 (9 * v1)), (2, u2), (2, u1), (2, v0)]) (h2 := h) (by decide +kernel) (by subst he; rfl) (by exact hg) ?_
  clear hg he
  obtain ⟨u4, hg, he, hx⟩ := bgd hx
  refine Ev.blk (is := [.iload_n 1, .iaload]) (pc2 := 19) (L2 := [(2, v0), (0, v1)]) (S2 := [(0, u4), (0, w32 (9 * v1)), (2, u2), (2, u1), (2, v0)]) (h2 := h) (by decide +kernel) (by subst he; rfl) (by exact hg) ?_
  clear hg he
  obtain ⟨_, hg, -, hx⟩ := bgd hx
  obtain ⟨u5, hc, hx⟩ := bca hx
  refine Ev.call (args := [(2, v0), (2, u1), (2, u2), (0, w32 (9 * v1)), (0, u4)]) (S2 := []) (r1 := (some (1, u5))) (h1 := h) (i := .invokevirtual 172) (by decide +kernel) rfl rfl (Nat.le_of_ble_eq_true rfl) (Or.inr (Or.inl ⟨rfl, hg, by decide +kernel⟩)) (x_R_product (by omega) hc) ?_
  cases hx
  exact Ev.ret (i := .lreturn) (len := 1) (by decide +kernel) rfl (finOf (t := some .long) rfl (trivial))
theorem x_R_above {sc : AS} {d : Nat} (hd : 2 ≤ d) {v0 : Int} {v1 : Int} {h : AH} {r : Int} (hx : R_above v0 v1 h = some r) : Runs sc d 173 [(2, v0), (0, v1)] h (some (1, r)) h := by
  obtain ⟨d, rfl⟩ : ∃ e, d = e + 1 := ⟨d - 1, by omega⟩
  have hd : 1 ≤ d := by omega
  unfold R_above at hx
  refine ⟨⟨aM_173, rfl, Nat.le_of_ble_eq_true rfl⟩, ?_⟩
  show Ev sc d 173 0 [(2, v0), (0, v1)] [] h (some (1, r)) h
  obtain ⟨u1, hg, he, hx⟩ := bgd hx
  refine Ev.blk (is := [.aload_n 0, .aload_n 0, .getfield 9217]) (pc2 := 5) (L2 := [(2, v0), (0, v1)]) (S2 := [(2, u1), (2, v0)]) (h2 := h) (by decide +kernel) (by subst he; rfl) (by exact hg) ?_
  clear hg he
  obtain ⟨u2, hg, he, hx⟩ := bgd hx
  refine Ev.blk (is := [.aload_n 0, .getfield 9218]) (pc2 := 9) (L2 := [(2, v0), (0, v1)]) (S2 := [(2, u2), (2, u1), (2, v0)]) (h2 := h) (by decide +kernel) (by subst he; rfl) (by exact hg) ?_
  clear hg he
  obtain ⟨u3, hg, he, hx⟩ := bgd hx
  refine Ev.blk (is := [.sipush 9, .iload_n 1, .imul, .aload_n 0, .getfield 9213]) (pc2 := 17) (L2 := [(2, v0), (0, v1)]) (S2 := [(2, u3), (0, w32 (9 * v1)), (2, u2), (2, u1), (2, v0)]) (h2 := h) (by decide +kernel) (by subst he; rfl) (by exact hg) ?_
  clear hg he
  obtain ⟨u4, hg, he, hx⟩ := bgd hx
  refine Ev.blk (is := [.iload_n 1, .iaload]) (pc2 := 19) (L2 := [(2, v0), (0, v1)]) (S2 := [(0, u4), (0, w32 (9 * v1)), (2, u2), (2, u1), (2, v0)]) (h2 := h) (by decide +kernel) (by subst he; rfl) (by exact hg) ?_
  clear hg he
  obtain ⟨_, hg, -, hx⟩ := bgd hx
  obtain ⟨u5, hc, hx⟩ := bca hx
  refine Ev.call (args := [(2, v0), (2, u1), (2, u2), (0, w32 (9 * v1)), (0, u4)]) (S2 := []) (r1 := (some (1, u5))) (h1 := h) (i := .invokevirtual 172) (by decide +kernel) rfl rfl (Nat.le_of_ble_eq_true rfl) (Or.inr (Or.inl ⟨rfl, hg, by decide +kernel⟩)) (x_R_product (by omega) hc) ?_
  cases hx
  exact Ev.ret (i := .lreturn) (len := 1) (by decide +kernel) rfl (finOf (t := some .long) rfl (trivial))
theorem x_R_isFit {sc : AS} {d : Nat} (hd : 3 ≤ d) {v0 : Int} {v1 : Int} {h : AH} {r : Int} (hx : R_isFit v0 v1 h = some r) : Runs sc d 170 [(2, v0), (0, v1)] h (some (0, r)) h := by
  obtain ⟨d, rfl⟩ : ∃ e, d = e + 1 := ⟨d - 1, by omega⟩
  have hd : 2 ≤ d := by omega
  unfold R_isFit at hx
  refine ⟨⟨aM_170, rfl, Nat.le_of_ble_eq_true rfl⟩, ?_⟩
  show Ev sc d 170 0 [(2, v0), (0, v1), (9, 0), (9, 0), (9, 0), (9, 0), (9, 0), (9, 0)] [] h (some (0, r)) h
  obtain ⟨u1, hg, he, hx⟩ := bgd hx
  refine Ev.blk (is := [.aload_n 0, .getfield 9208]) (pc2 := 4) (L2 := [(2, v0), (0, v1), (9, 0), (9, 0), (9, 0), (9, 0), (9, 0), (9, 0)]) (S2 := [(2, u1)]) (h2 := h) (by decide +kernel) (by subst he; rfl) (by exact hg) ?_
  clear hg he
  obtain ⟨u2, hg, he, hx⟩ := bgd hx
  refine Ev.blk (is := [.iload_n 1, .iaload]) (pc2 := 6) (L2 := [(2, v0), (0, v1), (9, 0), (9, 0), (9, 0), (9, 0), (9, 0), (9, 0)]) (S2 := [(0, u2)]) (h2 := h) (by decide +kernel) (by subst he; rfl) (by exact hg) ?_
  clear hg he
  refine Ev.blk (is := [.i2l, .lstore_n 2, .aload_n 0, .iload_n 1]) (pc2 := 10) (L2 := [(2, v0), (0, v1), (1, u2), (8, 0), (9, 0), (9, 0), (9, 0), (9, 0)]) (S2 := [(0, v1), (2, v0)]) (h2 := h) (by decide +kernel) rfl trivial ?_
  obtain ⟨_, hg, -, hx⟩ := bgd hx
  obtain ⟨u3, hc, hx⟩ := bca hx
  refine Ev.call (args := [(2, v0), (0, v1)]) (S2 := []) (r1 := (some (1, u3))) (h1 := h) (i := .invokevirtual 171) (by decide +kernel) rfl rfl (Nat.le_of_ble_eq_true rfl) (Or.inr (Or.inl ⟨rfl, hg, by decide +kernel⟩)) (x_R_below (by omega) hc) ?_
  refine Ev.blk (is := [.lstore 4, .aload_n 0, .iload_n 1]) (pc2 := 17) (L2 := [(2, v0), (0, v1), (1, u2), (8, 0), (1, u3), (8, 0), (9, 0), (9, 0)]) (S2 := [(0, v1), (2, v0)]) (h2 := h) (by decide +kernel) rfl trivial ?_
  obtain ⟨_, hg, -, hx⟩ := bgd hx
  obtain ⟨u4, hc, hx⟩ := bca hx
  refine Ev.call (args := [(2, v0), (0, v1)]) (S2 := []) (r1 := (some (1, u4))) (h1 := h) (i := .invokevirtual 173) (by decide +kernel) rfl rfl (Nat.le_of_ble_eq_true rfl) (Or.inr (Or.inl ⟨rfl, hg, by decide +kernel⟩)) (x_R_above (by omega) hc) ?_
  obtain ⟨u5, hg, he, hx⟩ := bgd hx
  refine Ev.blk (is := [.lstore 6, .aload_n 0, .getfield 9209]) (pc2 := 26) (L2 := [(2, v0), (0, v1), (1, u2), (8, 0), (1, u3), (8, 0), (1, u4), (8, 0)]) (S2 := [(2, u5)]) (h2 := h) (by decide +kernel) (by subst he; rfl) (by exact hg) ?_
  clear hg he
  obtain ⟨u6, hg, he, hx⟩ := bgd hx
  refine Ev.blk (is := [.iload_n 1, .iaload]) (pc2 := 28) (L2 := [(2, v0), (0, v1), (1, u2), (8, 0), (1, u3), (8, 0), (1, u4), (8, 0)]) (S2 := [(0, u6)]) (h2 := h) (by decide +kernel) (by subst he; rfl) (by exact hg) ?_
  clear hg he
  obtain ⟨ha, hb⟩ := bite hx
  clear hx
  by_cases hc0 : u6 = 1
  · have hx := ha hc0
    clear ha hb
    refine Ev.jp (i := .tableswitch 75 1 3 #[28, 43, 60]) (len := 28) (pc2 := 56) (by decide +kernel) (by rw [hc0]; rfl) ?_
    clear hc0
    refine Ev.blk (is := [.lload 4, .lload_n 2, .lconst 1, .lsub, .lcmp]) (pc2 := 62) (L2 := [(2, v0), (0, v1), (1, u2), (8, 0), (1, u3), (8, 0), (1, u4), (8, 0)]) (S2 := [(0, cmpL u3 (w64 (u2 - 1)))]) (h2 := h) (by decide +kernel) rfl trivial ?_
    obtain ⟨ha, hb⟩ := bite hx
    clear hx
    refine Ev.br (i := .ifCond .ne 7) (len := 3) (a := 65) (b := 69) (by decide +kernel) rfl cmpL_eq (fun hc => ?_) (fun hc => ?_)
    · have hx := ha hc
      clear ha hb hc
      refine Ev.blk (is := [.iconst 1]) (pc2 := 66) (L2 := [(2, v0), (0, v1), (1, u2), (8, 0), (1, u3), (8, 0), (1, u4), (8, 0)]) (S2 := [(0, 1)]) (h2 := h) (by decide +kernel) rfl trivial ?_
      refine Ev.jp (i := .goto 4) (len := 3) (pc2 := 70) (by decide +kernel) rfl ?_
      cases hx
      exact Ev.ret (i := .ireturn) (len := 1) (by decide +kernel) rfl (finOf (t := some .boolean) rfl (bz1))
    · have hx := hb hc
      clear ha hb hc
      refine Ev.blk (is := [.iconst 0]) (pc2 := 70) (L2 := [(2, v0), (0, v1), (1, u2), (8, 0), (1, u3), (8, 0), (1, u4), (8, 0)]) (S2 := [(0, 0)]) (h2 := h) (by decide +kernel) rfl trivial ?_
      cases hx
      exact Ev.ret (i := .ireturn) (len := 1) (by decide +kernel) rfl (finOf (t := some .boolean) rfl (bz0))
  have hx := hb hc0
  clear ha hb
  obtain ⟨ha, hb⟩ := bite hx
  clear hx
  by_cases hc1 : u6 = 2
  · have hx := ha hc1
    clear ha hb
    refine Ev.jp (i := .tableswitch 75 1 3 #[28, 43, 60]) (len := 28) (pc2 := 71) (by decide +kernel) (by rw [hc1]; rfl) ?_
    clear hc1
    obtain ⟨u7, hg, he, hx⟩ := bgd hx
    refine Ev.blk (is := [.lload_n 2, .lconst 1, .lsub, .lload 4, .lrem]) (pc2 := 77) (L2 := [(2, v0), (0, v1), (1, u2), (8, 0), (1, u3), (8, 0), (1, u4), (8, 0)]) (S2 := [(1, u7)]) (h2 := h) (by decide +kernel) (by subst he; rfl) (by exact hg) ?_
    clear hg he
    refine Ev.blk (is := [.lconst 0, .lcmp]) (pc2 := 79) (L2 := [(2, v0), (0, v1), (1, u2), (8, 0), (1, u3), (8, 0), (1, u4), (8, 0)]) (S2 := [(0, cmpL u7 0)]) (h2 := h) (by decide +kernel) rfl trivial ?_
    obtain ⟨ha, hb⟩ := bite hx
    clear hx
    refine Ev.br (i := .ifCond .ne 7) (len := 3) (a := 82) (b := 86) (by decide +kernel) rfl cmpL_eq (fun hc => ?_) (fun hc => ?_)
    · have hx := ha hc
      clear ha hb hc
      refine Ev.blk (is := [.iconst 1]) (pc2 := 83) (L2 := [(2, v0), (0, v1), (1, u2), (8, 0), (1, u3), (8, 0), (1, u4), (8, 0)]) (S2 := [(0, 1)]) (h2 := h) (by decide +kernel) rfl trivial ?_
      refine Ev.jp (i := .goto 4) (len := 3) (pc2 := 87) (by decide +kernel) rfl ?_
      cases hx
      exact Ev.ret (i := .ireturn) (len := 1) (by decide +kernel) rfl (finOf (t := some .boolean) rfl (bz1))
    · have hx := hb hc
      clear ha hb hc
      refine Ev.blk (is := [.iconst 0]) (pc2 := 87) (L2 := [(2, v0), (0, v1), (1, u2), (8, 0), (1, u3), (8, 0), (1, u4), (8, 0)]) (S2 := [(0, 0)]) (h2 := h) (by decide +kernel) rfl trivial ?_
      cases hx
      exact Ev.ret (i := .ireturn) (len := 1) (by decide +kernel) rfl (finOf (t := some .boolean) rfl (bz0))
  have hx := hb hc1
  clear ha hb
  obtain ⟨ha, hb⟩ := bite hx
  clear hx
  by_cases hc2 : u6 = 3
  · have hx := ha hc2
    clear ha hb
    refine Ev.jp (i := .tableswitch 75 1 3 #[28, 43, 60]) (len := 28) (pc2 := 88) (by decide +kernel) (by rw [hc2]; rfl) ?_
    clear hc2
    refine Ev.blk (is := [.lload 6, .lload_n 2, .lconst 1, .ladd, .lcmp]) (pc2 := 94) (L2 := [(2, v0), (0, v1), (1, u2), (8, 0), (1, u3), (8, 0), (1, u4), (8, 0)]) (S2 := [(0, cmpL u4 (w64 (u2 + 1)))]) (h2 := h) (by decide +kernel) rfl trivial ?_
    obtain ⟨ha, hb⟩ := bite hx
    clear hx
    refine Ev.br (i := .ifCond .ne 7) (len := 3) (a := 97) (b := 101) (by decide +kernel) rfl cmpL_eq (fun hc => ?_) (fun hc => ?_)
    · have hx := ha hc
      clear ha hb hc
      refine Ev.blk (is := [.iconst 1]) (pc2 := 98) (L2 := [(2, v0), (0, v1), (1, u2), (8, 0), (1, u3), (8, 0), (1, u4), (8, 0)]) (S2 := [(0, 1)]) (h2 := h) (by decide +kernel) rfl trivial ?_
      refine Ev.jp (i := .goto 4) (len := 3) (pc2 := 102) (by decide +kernel) rfl ?_
      cases hx
      exact Ev.ret (i := .ireturn) (len := 1) (by decide +kernel) rfl (finOf (t := some .boolean) rfl (bz1))
    · have hx := hb hc
      clear ha hb hc
      refine Ev.blk (is := [.iconst 0]) (pc2 := 102) (L2 := [(2, v0), (0, v1), (1, u2), (8, 0), (1, u3), (8, 0), (1, u4), (8, 0)]) (S2 := [(0, 0)]) (h2 := h) (by decide +kernel) rfl trivial ?_
      cases hx
      exact Ev.ret (i := .ireturn) (len := 1) (by decide +kernel) rfl (finOf (t := some .boolean) rfl (bz0))
  have hx := hb hc2
  clear ha hb
  refine Ev.jp (i := .tableswitch 75 1 3 #[28, 43, 60]) (len := 28) (pc2 := 103) (by decide +kernel) (jsw (by omega)) ?_
  clear hc0 hc1 hc2
  obtain ⟨u8, hg, he, hx⟩ := bgd hx
  refine Ev.blk (is := [.lload_n 2, .lconst 1, .lsub, .lload 4, .lrem]) (pc2 := 109) (L2 := [(2, v0), (0, v1), (1, u2), (8, 0), (1, u3), (8, 0), (1, u4), (8, 0)]) (S2 := [(1, u8)]) (h2 := h) (by decide +kernel) (by subst he; rfl) (by exact hg) ?_
  clear hg he
  refine Ev.blk (is := [.lconst 0, .lcmp]) (pc2 := 111) (L2 := [(2, v0), (0, v1), (1, u2), (8, 0), (1, u3), (8, 0), (1, u4), (8, 0)]) (S2 := [(0, cmpL u8 0)]) (h2 := h) (by decide +kernel) rfl trivial ?_
  obtain ⟨ha, hb⟩ := bite hx
  clear hx
  refine Ev.br (i := .ifCond .ne 18) (len := 3) (a := 114) (b := 129) (by decide +kernel) rfl cmpL_eq (fun hc => ?_) (fun hc => ?_)
  · have hx := ha hc
    clear ha hb hc
    obtain ⟨u9, hg, he, hx⟩ := bgd hx
    refine Ev.blk (is := [.lload_n 2, .lconst 1, .ladd, .lload 6, .lrem]) (pc2 := 120) (L2 := [(2, v0), (0, v1), (1, u2), (8, 0), (1, u3), (8, 0), (1, u4), (8, 0)]) (S2 := [(1, u9)]) (h2 := h) (by decide +kernel) (by subst he; rfl) (by exact hg) ?_
    clear hg he
    refine Ev.blk (is := [.lconst 0, .lcmp]) (pc2 := 122) (L2 := [(2, v0), (0, v1), (1, u2), (8, 0), (1, u3), (8, 0), (1, u4), (8, 0)]) (S2 := [(0, cmpL u9 0)]) (h2 := h) (by decide +kernel) rfl trivial ?_
    obtain ⟨ha, hb⟩ := bite hx
    clear hx
    refine Ev.br (i := .ifCond .ne 7) (len := 3) (a := 125) (b := 129) (by decide +kernel) rfl cmpL_eq (fun hc => ?_) (fun hc => ?_)
    · have hx := ha hc
      clear ha hb hc
      refine Ev.blk (is := [.iconst 1]) (pc2 := 126) (L2 := [(2, v0), (0, v1), (1, u2), (8, 0), (1, u3), (8, 0), (1, u4), (8, 0)]) (S2 := [(0, 1)]) (h2 := h) (by decide +kernel) rfl trivial ?_
      refine Ev.jp (i := .goto 4) (len := 3) (pc2 := 130) (by decide +kernel) rfl ?_
      cases hx
      exact Ev.ret (i := .ireturn) (len := 1) (by decide +kernel) rfl (finOf (t := some .boolean) rfl (bz1))
    · have hx := hb hc
      clear ha hb hc
      refine Ev.blk (is := [.iconst 0]) (pc2 := 130) (L2 := [(2, v0), (0, v1), (1, u2), (8, 0), (1, u3), (8, 0), (1, u4), (8, 0)]) (S2 := [(0, 0)]) (h2 := h) (by decide +kernel) rfl trivial ?_
      cases hx
      exact Ev.ret (i := .ireturn) (len := 1) (by decide +kernel) rfl (finOf (t := some .boolean) rfl (bz0))
  · have hx := hb hc
    clear ha hb hc
    refine Ev.blk (is := [.iconst 0]) (pc2 := 130) (L2 := [(2, v0), (0, v1), (1, u2), (8, 0), (1, u3), (8, 0), (1, u4), (8, 0)]) (S2 := [(0, 0)]) (h2 := h) (by decide +kernel) rfl trivial ?_
    cases hx
    exact Ev.ret (i := .ireturn) (len := 1) (by decide +kernel) rfl (finOf (t := some .boolean) rfl (bz0))
