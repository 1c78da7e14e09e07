/-! the part of the heap that never moves: 52 objects and arrays; behind them blocks of five, a line each -/
def shT : List Nat := [9, 3, 26, 21, 22, 21, 2, 1, 21, 21, 1, 21, 21, 26, 8, 24, 5, 4, 6, 21, 6, 21, 7, 24, 1, 21, 21, 10, 22, 22, 22, 21, 21, 21, 21, 21, 21, 21, 21, 21, 21, 21, 21, 21, 25, 21, 21, 21, 21, 23, 21, 21]
def shL : List Int := [6, 6, 60, 60, 60, 60, 4, 3, 9, 9, 3, 9, 9, 40, 2, 400, 6, 7, 2, 27, 2, 27, 2, 400, 3, 9, 9, 35, 4, 4, 4, 12, 12, 116, 116, 116, 116, 116, 116, 1044, 1044, 1044, 1044, 1044, 60, 60, 70, 70, 400, 49, 600, 60]
def shP : List (Nat × Nat × Int) := [(0, 0, 1), (0, 1, 6), (0, 2, 14), (0, 3, 16), (0, 4, 22), (0, 5, 24), (1, 0, 2), (1, 1, 3), (1, 2, 4), (1, 3, 5), (6, 0, 1), (6, 1, 7), (6, 2, 10), (6, 3, 13), (7, 0, 8), (7, 1, 9), (10, 0, 11), (10, 1, 12), (14, 0, 15), (16, 0, 14), (16, 1, 1), (16, 2, 17), (17, 0, 18), (17, 1, 20), (18, 0, 19), (20, 0, 21), (22, 0, 23), (24, 0, 25), (24, 1, 26), (27, 1, 28), (27, 2, 29), (27, 3, 30), (27, 4, 31), (27, 5, 32), (27, 8, 33), (27, 9, 34), (27, 10, 35), (27, 11, 36), (27, 12, 37), (27, 13, 38), (27, 14, 39), (27, 15, 40), (27, 16, 41), (27, 17, 42), (27, 18, 43), (27, 19, 44), (27, 20, 45), (27, 21, 46), (27, 22, 47), (27, 23, 48), (27, 31, 49), (27, 32, 50), (27, 34, 51)]
def wdT : List Int := [115, 109, 97, 108, 108, 0, 112, 114, 97, 116, 116, 0, 112, 97, 114, 116, 0, 108, 117, 99, 97, 115, 0, 98, 111, 116, 104, 0, 98, 97, 115, 101, 0, 98, 121, 0, 119, 105, 116, 104, 0, 100, 111, 119, 110, 0, 117, 112, 0]
/-- a line's block: at a the line, then its sides with their cells -/
def Blk (h : AH) (a : Int) : Prop := hTy h a = 4 ∧ hTy h (a + 1) = 6 ∧ hTy h (a + 2) = 21 ∧ hTy h (a + 3) = 6 ∧ hTy h (a + 4) = 21 ∧ hLn h (a + 2) = 27 ∧ hLn h (a + 4) = 27 ∧ hCe h a 0 = a + 1 ∧ hCe h a 1 = a + 3 ∧ hCe h (a + 1) 0 = a + 2 ∧ hCe h (a + 3) 0 = a + 4
def blkA (b : Nat) : Int := 52 + 5 * (b : Int)
def Sh (h : AH) : Prop := (∀ k : Nat, k < 52 → hTy h k = shT.getD k 0 ∧ hLn h k = shL.getD k 0) ∧ (∀ e ∈ shP, hCe h (e.1 : Int) (e.2.1 : Int) = e.2.2) ∧ (∀ j : Nat, j < 49 → hCe h 49 j = wdT.getD j 0) ∧ ∃ n : Nat, hNx h = blkA n ∧ n ≤ 110 ∧ hWd h = 8590 + 65 * (n : Int) ∧ ∀ b, b < n → Blk h (blkA b)
section SH
variable {h : AH}
theorem Sh.t0 (H : Sh h) : hTy h 0 = 9 := (H.1 0 (by decide)).1
theorem Sh.t1 (H : Sh h) : hTy h 1 = 3 := (H.1 1 (by decide)).1
theorem Sh.t2 (H : Sh h) : hTy h 2 = 26 := (H.1 2 (by decide)).1
theorem Sh.l2 (H : Sh h) : hLn h 2 = 60 := (H.1 2 (by decide)).2
theorem Sh.t3 (H : Sh h) : hTy h 3 = 21 := (H.1 3 (by decide)).1
theorem Sh.l3 (H : Sh h) : hLn h 3 = 60 := (H.1 3 (by decide)).2
theorem Sh.t4 (H : Sh h) : hTy h 4 = 22 := (H.1 4 (by decide)).1
theorem Sh.l4 (H : Sh h) : hLn h 4 = 60 := (H.1 4 (by decide)).2
theorem Sh.t5 (H : Sh h) : hTy h 5 = 21 := (H.1 5 (by decide)).1
theorem Sh.l5 (H : Sh h) : hLn h 5 = 60 := (H.1 5 (by decide)).2
theorem Sh.t6 (H : Sh h) : hTy h 6 = 2 := (H.1 6 (by decide)).1
theorem Sh.t7 (H : Sh h) : hTy h 7 = 1 := (H.1 7 (by decide)).1
theorem Sh.t8 (H : Sh h) : hTy h 8 = 21 := (H.1 8 (by decide)).1
theorem Sh.l8 (H : Sh h) : hLn h 8 = 9 := (H.1 8 (by decide)).2
theorem Sh.t9 (H : Sh h) : hTy h 9 = 21 := (H.1 9 (by decide)).1
theorem Sh.l9 (H : Sh h) : hLn h 9 = 9 := (H.1 9 (by decide)).2
theorem Sh.t10 (H : Sh h) : hTy h 10 = 1 := (H.1 10 (by decide)).1
theorem Sh.t11 (H : Sh h) : hTy h 11 = 21 := (H.1 11 (by decide)).1
theorem Sh.l11 (H : Sh h) : hLn h 11 = 9 := (H.1 11 (by decide)).2
theorem Sh.t12 (H : Sh h) : hTy h 12 = 21 := (H.1 12 (by decide)).1
theorem Sh.l12 (H : Sh h) : hLn h 12 = 9 := (H.1 12 (by decide)).2
theorem Sh.t13 (H : Sh h) : hTy h 13 = 26 := (H.1 13 (by decide)).1
theorem Sh.l13 (H : Sh h) : hLn h 13 = 40 := (H.1 13 (by decide)).2
theorem Sh.t14 (H : Sh h) : hTy h 14 = 8 := (H.1 14 (by decide)).1
theorem Sh.t15 (H : Sh h) : hTy h 15 = 24 := (H.1 15 (by decide)).1
theorem Sh.l15 (H : Sh h) : hLn h 15 = 400 := (H.1 15 (by decide)).2
theorem Sh.t16 (H : Sh h) : hTy h 16 = 5 := (H.1 16 (by decide)).1
theorem Sh.t17 (H : Sh h) : hTy h 17 = 4 := (H.1 17 (by decide)).1
theorem Sh.t18 (H : Sh h) : hTy h 18 = 6 := (H.1 18 (by decide)).1
theorem Sh.t19 (H : Sh h) : hTy h 19 = 21 := (H.1 19 (by decide)).1
theorem Sh.l19 (H : Sh h) : hLn h 19 = 27 := (H.1 19 (by decide)).2
theorem Sh.t20 (H : Sh h) : hTy h 20 = 6 := (H.1 20 (by decide)).1
theorem Sh.t21 (H : Sh h) : hTy h 21 = 21 := (H.1 21 (by decide)).1
theorem Sh.l21 (H : Sh h) : hLn h 21 = 27 := (H.1 21 (by decide)).2
theorem Sh.t22 (H : Sh h) : hTy h 22 = 7 := (H.1 22 (by decide)).1
theorem Sh.t23 (H : Sh h) : hTy h 23 = 24 := (H.1 23 (by decide)).1
theorem Sh.l23 (H : Sh h) : hLn h 23 = 400 := (H.1 23 (by decide)).2
theorem Sh.t24 (H : Sh h) : hTy h 24 = 1 := (H.1 24 (by decide)).1
theorem Sh.t25 (H : Sh h) : hTy h 25 = 21 := (H.1 25 (by decide)).1
theorem Sh.l25 (H : Sh h) : hLn h 25 = 9 := (H.1 25 (by decide)).2
theorem Sh.t26 (H : Sh h) : hTy h 26 = 21 := (H.1 26 (by decide)).1
theorem Sh.l26 (H : Sh h) : hLn h 26 = 9 := (H.1 26 (by decide)).2
theorem Sh.t27 (H : Sh h) : hTy h 27 = 10 := (H.1 27 (by decide)).1
theorem Sh.t28 (H : Sh h) : hTy h 28 = 22 := (H.1 28 (by decide)).1
theorem Sh.l28 (H : Sh h) : hLn h 28 = 4 := (H.1 28 (by decide)).2
theorem Sh.t29 (H : Sh h) : hTy h 29 = 22 := (H.1 29 (by decide)).1
theorem Sh.l29 (H : Sh h) : hLn h 29 = 4 := (H.1 29 (by decide)).2
theorem Sh.t30 (H : Sh h) : hTy h 30 = 22 := (H.1 30 (by decide)).1
theorem Sh.l30 (H : Sh h) : hLn h 30 = 4 := (H.1 30 (by decide)).2
theorem Sh.t31 (H : Sh h) : hTy h 31 = 21 := (H.1 31 (by decide)).1
theorem Sh.l31 (H : Sh h) : hLn h 31 = 12 := (H.1 31 (by decide)).2
theorem Sh.t32 (H : Sh h) : hTy h 32 = 21 := (H.1 32 (by decide)).1
theorem Sh.l32 (H : Sh h) : hLn h 32 = 12 := (H.1 32 (by decide)).2
theorem Sh.t33 (H : Sh h) : hTy h 33 = 21 := (H.1 33 (by decide)).1
theorem Sh.l33 (H : Sh h) : hLn h 33 = 116 := (H.1 33 (by decide)).2
theorem Sh.t34 (H : Sh h) : hTy h 34 = 21 := (H.1 34 (by decide)).1
theorem Sh.l34 (H : Sh h) : hLn h 34 = 116 := (H.1 34 (by decide)).2
theorem Sh.t35 (H : Sh h) : hTy h 35 = 21 := (H.1 35 (by decide)).1
theorem Sh.l35 (H : Sh h) : hLn h 35 = 116 := (H.1 35 (by decide)).2
theorem Sh.t36 (H : Sh h) : hTy h 36 = 21 := (H.1 36 (by decide)).1
theorem Sh.l36 (H : Sh h) : hLn h 36 = 116 := (H.1 36 (by decide)).2
theorem Sh.t37 (H : Sh h) : hTy h 37 = 21 := (H.1 37 (by decide)).1
theorem Sh.l37 (H : Sh h) : hLn h 37 = 116 := (H.1 37 (by decide)).2
theorem Sh.t38 (H : Sh h) : hTy h 38 = 21 := (H.1 38 (by decide)).1
theorem Sh.l38 (H : Sh h) : hLn h 38 = 116 := (H.1 38 (by decide)).2
theorem Sh.t39 (H : Sh h) : hTy h 39 = 21 := (H.1 39 (by decide)).1
theorem Sh.l39 (H : Sh h) : hLn h 39 = 1044 := (H.1 39 (by decide)).2
theorem Sh.t40 (H : Sh h) : hTy h 40 = 21 := (H.1 40 (by decide)).1
theorem Sh.l40 (H : Sh h) : hLn h 40 = 1044 := (H.1 40 (by decide)).2
theorem Sh.t41 (H : Sh h) : hTy h 41 = 21 := (H.1 41 (by decide)).1
theorem Sh.l41 (H : Sh h) : hLn h 41 = 1044 := (H.1 41 (by decide)).2
theorem Sh.t42 (H : Sh h) : hTy h 42 = 21 := (H.1 42 (by decide)).1
theorem Sh.l42 (H : Sh h) : hLn h 42 = 1044 := (H.1 42 (by decide)).2
theorem Sh.t43 (H : Sh h) : hTy h 43 = 21 := (H.1 43 (by decide)).1
theorem Sh.l43 (H : Sh h) : hLn h 43 = 1044 := (H.1 43 (by decide)).2
theorem Sh.t44 (H : Sh h) : hTy h 44 = 25 := (H.1 44 (by decide)).1
theorem Sh.l44 (H : Sh h) : hLn h 44 = 60 := (H.1 44 (by decide)).2
theorem Sh.t45 (H : Sh h) : hTy h 45 = 21 := (H.1 45 (by decide)).1
theorem Sh.l45 (H : Sh h) : hLn h 45 = 60 := (H.1 45 (by decide)).2
theorem Sh.t46 (H : Sh h) : hTy h 46 = 21 := (H.1 46 (by decide)).1
theorem Sh.l46 (H : Sh h) : hLn h 46 = 70 := (H.1 46 (by decide)).2
theorem Sh.t47 (H : Sh h) : hTy h 47 = 21 := (H.1 47 (by decide)).1
theorem Sh.l47 (H : Sh h) : hLn h 47 = 70 := (H.1 47 (by decide)).2
theorem Sh.t48 (H : Sh h) : hTy h 48 = 21 := (H.1 48 (by decide)).1
theorem Sh.l48 (H : Sh h) : hLn h 48 = 400 := (H.1 48 (by decide)).2
theorem Sh.t49 (H : Sh h) : hTy h 49 = 23 := (H.1 49 (by decide)).1
theorem Sh.l49 (H : Sh h) : hLn h 49 = 49 := (H.1 49 (by decide)).2
theorem Sh.t50 (H : Sh h) : hTy h 50 = 21 := (H.1 50 (by decide)).1
theorem Sh.l50 (H : Sh h) : hLn h 50 = 600 := (H.1 50 (by decide)).2
theorem Sh.t51 (H : Sh h) : hTy h 51 = 21 := (H.1 51 (by decide)).1
theorem Sh.l51 (H : Sh h) : hLn h 51 = 60 := (H.1 51 (by decide)).2
theorem Sh.p0_0 (H : Sh h) : hCe h 0 0 = 1 := H.2.1 (0, 0, 1) (by decide)
theorem Sh.p0_1 (H : Sh h) : hCe h 0 1 = 6 := H.2.1 (0, 1, 6) (by decide)
theorem Sh.p0_2 (H : Sh h) : hCe h 0 2 = 14 := H.2.1 (0, 2, 14) (by decide)
theorem Sh.p0_3 (H : Sh h) : hCe h 0 3 = 16 := H.2.1 (0, 3, 16) (by decide)
theorem Sh.p0_4 (H : Sh h) : hCe h 0 4 = 22 := H.2.1 (0, 4, 22) (by decide)
theorem Sh.p0_5 (H : Sh h) : hCe h 0 5 = 24 := H.2.1 (0, 5, 24) (by decide)
theorem Sh.p1_0 (H : Sh h) : hCe h 1 0 = 2 := H.2.1 (1, 0, 2) (by decide)
theorem Sh.p1_1 (H : Sh h) : hCe h 1 1 = 3 := H.2.1 (1, 1, 3) (by decide)
theorem Sh.p1_2 (H : Sh h) : hCe h 1 2 = 4 := H.2.1 (1, 2, 4) (by decide)
theorem Sh.p1_3 (H : Sh h) : hCe h 1 3 = 5 := H.2.1 (1, 3, 5) (by decide)
theorem Sh.p6_0 (H : Sh h) : hCe h 6 0 = 1 := H.2.1 (6, 0, 1) (by decide)
theorem Sh.p6_1 (H : Sh h) : hCe h 6 1 = 7 := H.2.1 (6, 1, 7) (by decide)
theorem Sh.p6_2 (H : Sh h) : hCe h 6 2 = 10 := H.2.1 (6, 2, 10) (by decide)
theorem Sh.p6_3 (H : Sh h) : hCe h 6 3 = 13 := H.2.1 (6, 3, 13) (by decide)
theorem Sh.p7_0 (H : Sh h) : hCe h 7 0 = 8 := H.2.1 (7, 0, 8) (by decide)
theorem Sh.p7_1 (H : Sh h) : hCe h 7 1 = 9 := H.2.1 (7, 1, 9) (by decide)
theorem Sh.p10_0 (H : Sh h) : hCe h 10 0 = 11 := H.2.1 (10, 0, 11) (by decide)
theorem Sh.p10_1 (H : Sh h) : hCe h 10 1 = 12 := H.2.1 (10, 1, 12) (by decide)
theorem Sh.p14_0 (H : Sh h) : hCe h 14 0 = 15 := H.2.1 (14, 0, 15) (by decide)
theorem Sh.p16_0 (H : Sh h) : hCe h 16 0 = 14 := H.2.1 (16, 0, 14) (by decide)
theorem Sh.p16_1 (H : Sh h) : hCe h 16 1 = 1 := H.2.1 (16, 1, 1) (by decide)
theorem Sh.p16_2 (H : Sh h) : hCe h 16 2 = 17 := H.2.1 (16, 2, 17) (by decide)
theorem Sh.p17_0 (H : Sh h) : hCe h 17 0 = 18 := H.2.1 (17, 0, 18) (by decide)
theorem Sh.p17_1 (H : Sh h) : hCe h 17 1 = 20 := H.2.1 (17, 1, 20) (by decide)
theorem Sh.p18_0 (H : Sh h) : hCe h 18 0 = 19 := H.2.1 (18, 0, 19) (by decide)
theorem Sh.p20_0 (H : Sh h) : hCe h 20 0 = 21 := H.2.1 (20, 0, 21) (by decide)
theorem Sh.p22_0 (H : Sh h) : hCe h 22 0 = 23 := H.2.1 (22, 0, 23) (by decide)
theorem Sh.p24_0 (H : Sh h) : hCe h 24 0 = 25 := H.2.1 (24, 0, 25) (by decide)
theorem Sh.p24_1 (H : Sh h) : hCe h 24 1 = 26 := H.2.1 (24, 1, 26) (by decide)
theorem Sh.p27_1 (H : Sh h) : hCe h 27 1 = 28 := H.2.1 (27, 1, 28) (by decide)
theorem Sh.p27_2 (H : Sh h) : hCe h 27 2 = 29 := H.2.1 (27, 2, 29) (by decide)
theorem Sh.p27_3 (H : Sh h) : hCe h 27 3 = 30 := H.2.1 (27, 3, 30) (by decide)
theorem Sh.p27_4 (H : Sh h) : hCe h 27 4 = 31 := H.2.1 (27, 4, 31) (by decide)
theorem Sh.p27_5 (H : Sh h) : hCe h 27 5 = 32 := H.2.1 (27, 5, 32) (by decide)
theorem Sh.p27_8 (H : Sh h) : hCe h 27 8 = 33 := H.2.1 (27, 8, 33) (by decide)
theorem Sh.p27_9 (H : Sh h) : hCe h 27 9 = 34 := H.2.1 (27, 9, 34) (by decide)
theorem Sh.p27_10 (H : Sh h) : hCe h 27 10 = 35 := H.2.1 (27, 10, 35) (by decide)
theorem Sh.p27_11 (H : Sh h) : hCe h 27 11 = 36 := H.2.1 (27, 11, 36) (by decide)
theorem Sh.p27_12 (H : Sh h) : hCe h 27 12 = 37 := H.2.1 (27, 12, 37) (by decide)
theorem Sh.p27_13 (H : Sh h) : hCe h 27 13 = 38 := H.2.1 (27, 13, 38) (by decide)
theorem Sh.p27_14 (H : Sh h) : hCe h 27 14 = 39 := H.2.1 (27, 14, 39) (by decide)
theorem Sh.p27_15 (H : Sh h) : hCe h 27 15 = 40 := H.2.1 (27, 15, 40) (by decide)
theorem Sh.p27_16 (H : Sh h) : hCe h 27 16 = 41 := H.2.1 (27, 16, 41) (by decide)
theorem Sh.p27_17 (H : Sh h) : hCe h 27 17 = 42 := H.2.1 (27, 17, 42) (by decide)
theorem Sh.p27_18 (H : Sh h) : hCe h 27 18 = 43 := H.2.1 (27, 18, 43) (by decide)
theorem Sh.p27_19 (H : Sh h) : hCe h 27 19 = 44 := H.2.1 (27, 19, 44) (by decide)
theorem Sh.p27_20 (H : Sh h) : hCe h 27 20 = 45 := H.2.1 (27, 20, 45) (by decide)
theorem Sh.p27_21 (H : Sh h) : hCe h 27 21 = 46 := H.2.1 (27, 21, 46) (by decide)
theorem Sh.p27_22 (H : Sh h) : hCe h 27 22 = 47 := H.2.1 (27, 22, 47) (by decide)
theorem Sh.p27_23 (H : Sh h) : hCe h 27 23 = 48 := H.2.1 (27, 23, 48) (by decide)
theorem Sh.p27_31 (H : Sh h) : hCe h 27 31 = 49 := H.2.1 (27, 31, 49) (by decide)
theorem Sh.p27_32 (H : Sh h) : hCe h 27 32 = 50 := H.2.1 (27, 32, 50) (by decide)
theorem Sh.p27_34 (H : Sh h) : hCe h 27 34 = 51 := H.2.1 (27, 34, 51) (by decide)
end SH
/-! writes and frames -/
theorem tS (h : AH) (a i v b : Int) : hTy (hSet h a i v) b = hTy h b := rfl
theorem lS (h : AH) (a i v b : Int) : hLn (hSet h a i v) b = hLn h b := rfl
theorem nS (h : AH) (a i v : Int) : hNx (hSet h a i v) = hNx h := rfl
theorem wS (h : AH) (a i v : Int) : hWd (hSet h a i v) = hWd h := rfl
theorem cS (h : AH) (a i v : Int) : hCe (hSet h a i v) a i = v := by
  show (if a = a ∧ i = i then v else _) = v
  rw [if_pos ⟨rfl, rfl⟩]
theorem cN {h : AH} {a i v b j : Int} (q : b ≠ a ∨ j ≠ i) : hCe (hSet h a i v) b j = hCe h b j := by
  show (if b = a ∧ j = i then v else hCe h b j) = _
  rw [if_neg (fun z => by rcases q with q | q <;> omega)]
theorem gdT {α β : Type} {x : α} {f : α → Option β} : (gd True x).bind f = f x := by unfold gd; rw [if_pos trivial]; rfl
theorem gdS {α β : Type} {g : Prop} [Decidable g] {x : α} {f : α → Option β} (hg : g) : (gd g x).bind f = f x := by unfold gd; rw [if_pos hg]; rfl
def Same (h h' : AH) : Prop := h'.1 = h.1 ∧ h'.2.1 = h.2.1 ∧ h'.2.2.2 = h.2.2.2
theorem Same.ty {h h' : AH} (S : Same h h') (a : Int) : hTy h' a = hTy h a := by show h'.1 a = h.1 a; rw [S.1]
theorem Same.ln {h h' : AH} (S : Same h h') (a : Int) : hLn h' a = hLn h a := by show h'.2.1 a = h.2.1 a; rw [S.2.1]
theorem Same.nx {h h' : AH} (S : Same h h') : hNx h' = hNx h := by show h'.2.2.2.1 = _; rw [S.2.2]; rfl
theorem Same.wd {h h' : AH} (S : Same h h') : hWd h' = hWd h := by show h'.2.2.2.2 = _; rw [S.2.2]; rfl
theorem Same.rf {h : AH} : Same h h := ⟨rfl, rfl, rfl⟩
theorem Same.tr {h h1 h2 : AH} (S : Same h h1) (T : Same h1 h2) : Same h h2 := ⟨T.1.trans S.1, T.2.1.trans S.2.1, T.2.2.trans S.2.2⟩
theorem Same.set {h : AH} {a i v : Int} : Same h (hSet h a i v) := ⟨rfl, rfl, rfl⟩
/-- only cells of P change -/
def Fr (P : Int → Int → Prop) (h h' : AH) : Prop := Same h h' ∧ ∀ b j, ¬ P b j → hCe h' b j = hCe h b j
theorem Fr.rf {P : Int → Int → Prop} {h : AH} : Fr P h h := ⟨Same.rf, fun _ _ _ => rfl⟩
theorem Fr.tr {P : Int → Int → Prop} {h h1 h2 : AH} (A : Fr P h h1) (B : Fr P h1 h2) : Fr P h h2 := ⟨A.1.tr B.1, fun b j q => (B.2 b j q).trans (A.2 b j q)⟩
theorem Fr.mo {P Q : Int → Int → Prop} {h h' : AH} (A : Fr P h h') (q : ∀ b j, P b j → Q b j) : Fr Q h h' := ⟨A.1, fun b j z => A.2 b j fun y => z (q b j y)⟩
theorem Fr.set {P : Int → Int → Prop} {h : AH} {a i v : Int} (q : P a i) : Fr P h (hSet h a i v) := ⟨Same.set, fun b j z => cN (by
  by_cases y : b = a
  · by_cases x : j = i
    · subst y; subst x; exact absurd q z
    · exact Or.inr x
  · exact Or.inl y)⟩
theorem Fr.setT {P : Int → Int → Prop} {h h1 : AH} {a i v : Int} (A : Fr P h h1) (q : P a i) : Fr P h (hSet h1 a i v) := A.tr (Fr.set q)
/-- cells that hold no reference that stays -/
def MutA (b j : Int) : Prop := (b = 1 ∧ 4 ≤ j) ∨ (2 ≤ b ∧ b ≤ 5)
def MutB (b j : Int) : Prop := (b = 7 ∧ 2 ≤ j) ∨ b = 8 ∨ b = 9 ∨ (b = 10 ∧ 2 ≤ j) ∨ (11 ≤ b ∧ b ≤ 13) ∨ (b = 14 ∧ 1 ≤ j) ∨ b = 15 ∨ (b = 16 ∧ 3 ≤ j) ∨ (b = 17 ∧ 2 ≤ j) ∨ (b = 18 ∧ 1 ≤ j) ∨ b = 19 ∨ (b = 20 ∧ 1 ≤ j) ∨ b = 21 ∨ (b = 22 ∧ 1 ≤ j) ∨ b = 23 ∨ (b = 24 ∧ 2 ≤ j) ∨ b = 25 ∨ b = 26
def MutM (b j : Int) : Prop := (b = 27 ∧ (j = 0 ∨ j = 6 ∨ j = 7 ∨ (24 ≤ j ∧ j ≤ 30) ∨ j = 33)) ∨ (28 ≤ b ∧ b ≤ 48) ∨ b = 50 ∨ b = 51
def MutL (b j : Int) : Prop := 52 ≤ b ∧ (((b - 52) % 5 = 0 ∧ 2 ≤ j) ∨ ((b - 52) % 5 = 1 ∧ 1 ≤ j) ∨ (b - 52) % 5 = 2 ∨ ((b - 52) % 5 = 3 ∧ 1 ≤ j) ∨ (b - 52) % 5 = 4)
def Mut (b j : Int) : Prop := MutA b j ∨ MutB b j ∨ MutM b j ∨ MutL b j
theorem mutA {b j : Int} (h : MutA b j) : Mut b j := Or.inl h
theorem mutB {b j : Int} (h : MutB b j) : Mut b j := Or.inr (Or.inl h)
theorem mutM {b j : Int} (h : MutM b j) : Mut b j := Or.inr (Or.inr (Or.inl h))
theorem mutL {b j : Int} (h : MutL b j) : Mut b j := Or.inr (Or.inr (Or.inr h))
theorem mut_ptr : ∀ e ∈ shP, ¬ Mut (e.1 : Int) (e.2.1 : Int) := by
  have h : ∀ e ∈ shP, (e.1 = 0 ∨ (e.1 = 1 ∧ e.2.1 < 4) ∨ e.1 = 6 ∨ (e.1 = 7 ∧ e.2.1 < 2) ∨ (e.1 = 10 ∧ e.2.1 < 2) ∨ (e.1 = 14 ∧ e.2.1 < 1) ∨ (e.1 = 16 ∧ e.2.1 < 3) ∨ (e.1 = 17 ∧ e.2.1 < 2) ∨ (e.1 = 18 ∧ e.2.1 < 1) ∨ (e.1 = 20 ∧ e.2.1 < 1) ∨ (e.1 = 22 ∧ e.2.1 < 1) ∨ (e.1 = 24 ∧ e.2.1 < 2) ∨ (e.1 = 27 ∧ (e.2.1 = 1 ∨ e.2.1 = 2 ∨ e.2.1 = 3 ∨ e.2.1 = 4 ∨ e.2.1 = 5 ∨ (8 ≤ e.2.1 ∧ e.2.1 ≤ 23) ∨ e.2.1 = 31 ∨ e.2.1 = 32 ∨ e.2.1 = 34))) := by decide
  intro e he
  have := h e he
  unfold Mut MutA MutB MutM MutL
  omega
theorem Sh.fr {P : Int → Int → Prop} {h h' : AH} (H : Sh h) (F : Fr P h h') (q : ∀ b j, P b j → Mut b j) : Sh h' := by
  have c : ∀ b j, ¬ Mut b j → hCe h' b j = hCe h b j := fun b j z => F.2 b j fun y => z (q b j y)
  obtain ⟨h1, h2, h3, n, h4, h5, h6, h7⟩ := H
  refine ⟨fun k hk => ⟨(F.1.ty _).trans (h1 k hk).1, (F.1.ln _).trans (h1 k hk).2⟩, fun e he => (c _ _ (mut_ptr e he)).trans (h2 e he), fun j hj => (c _ _ (by unfold Mut MutA MutB MutM MutL; omega)).trans (h3 j hj), n, F.1.nx.trans h4, h5, F.1.wd.trans h6, fun b hb => ?_⟩
  have B := h7 b hb
  unfold Blk at B ⊢
  rw [F.1.ty, F.1.ty, F.1.ty, F.1.ty, F.1.ty, F.1.ln, F.1.ln, c _ _ (by unfold Mut MutA MutB MutM MutL blkA; omega), c _ _ (by unfold Mut MutA MutB MutM MutL blkA; omega), c _ _ (by unfold Mut MutA MutB MutM MutL blkA; omega), c _ _ (by unfold Mut MutA MutB MutM MutL blkA; omega)]
  exact B
theorem Sh.b17 {h : AH} (H : Sh h) : Blk h 17 := ⟨H.t17, H.t18, H.t19, H.t20, H.t21, H.l19, H.l21, H.p17_0, H.p17_1, H.p18_0, H.p20_0⟩
