/-! the law itself -/
/-- PrimeProofsLaw.law([I)Z -/
def Law_law_1500 (sc : AS) (k18 : Int → Int → Int → AH → Option (Int × AH)) (v1 : Int) (v2 : Int) (v3 : Int) (h : AH) : Option (Int × AH) :=
  k18 v1 v2 (w32 (v3 + 6)) h
def Law_law_208 (sc : AS) (k18 : Int → Int → Int → AH → Option (Int × AH)) (v1 : Int) (v2 : Int) (v3 : Int) (h : AH) : Option (Int × AH) :=
  (gd (0 ≤ (w32 (v3 + 1)) ∧ (w32 (v3 + 1)) < sc.1) (sc.2 (w32 (v3 + 1)))).bind fun u1 =>
  (gd (0 ≤ (w32 (v3 + 2)) ∧ (w32 (v3 + 2)) < sc.1) (sc.2 (w32 (v3 + 2)))).bind fun u2 =>
  (gd (hTy h v1 = 9) 0).bind fun _ =>
  (X_find v1 u1 u2 h).bind fun u3 =>
  (gd (0 ≤ (w32 (v3 + 1)) ∧ (w32 (v3 + 1)) < sc.1) (sc.2 (w32 (v3 + 1)))).bind fun u4 =>
  (gd (0 ≤ (w32 (v3 + 2)) ∧ (w32 (v3 + 2)) < sc.1) (sc.2 (w32 (v3 + 2)))).bind fun u5 =>
  (gd (hTy u3.2 v2 = 10) 0).bind fun _ =>
  (R_find v2 u4 u5 u3.2).bind fun u6 =>
  if u3.1 = u6.1 then
    Law_law_1500 sc k18 v1 v2 v3 u6.2
  else
    some (0, u6.2)
def Law_law_241 (sc : AS) (k18 : Int → Int → Int → AH → Option (Int × AH)) (v1 : Int) (v2 : Int) (v3 : Int) (h : AH) : Option (Int × AH) :=
  (gd (0 ≤ (w32 (v3 + 1)) ∧ (w32 (v3 + 1)) < sc.1) (sc.2 (w32 (v3 + 1)))).bind fun u1 =>
  (gd (0 ≤ (w32 (v3 + 2)) ∧ (w32 (v3 + 2)) < sc.1) (sc.2 (w32 (v3 + 2)))).bind fun u2 =>
  (gd (0 ≤ (w32 (v3 + 3)) ∧ (w32 (v3 + 3)) < sc.1) (sc.2 (w32 (v3 + 3)))).bind fun u3 =>
  (gd (0 ≤ (w32 (v3 + 4)) ∧ (w32 (v3 + 4)) < sc.1) (sc.2 (w32 (v3 + 4)))).bind fun u4 =>
  (gd (0 ≤ (w32 (v3 + 5)) ∧ (w32 (v3 + 5)) < sc.1) (sc.2 (w32 (v3 + 5)))).bind fun u5 =>
  (gd (hTy h v1 = 9) 0).bind fun _ =>
  (X_feed v1 u1 u2 u3 u4 u5 h).bind fun u6 =>
  (gd (0 ≤ (w32 (v3 + 1)) ∧ (w32 (v3 + 1)) < sc.1) (sc.2 (w32 (v3 + 1)))).bind fun u7 =>
  (gd (0 ≤ (w32 (v3 + 2)) ∧ (w32 (v3 + 2)) < sc.1) (sc.2 (w32 (v3 + 2)))).bind fun u8 =>
  (gd (0 ≤ (w32 (v3 + 3)) ∧ (w32 (v3 + 3)) < sc.1) (sc.2 (w32 (v3 + 3)))).bind fun u9 =>
  (gd (0 ≤ (w32 (v3 + 4)) ∧ (w32 (v3 + 4)) < sc.1) (sc.2 (w32 (v3 + 4)))).bind fun u10 =>
  (gd (0 ≤ (w32 (v3 + 5)) ∧ (w32 (v3 + 5)) < sc.1) (sc.2 (w32 (v3 + 5)))).bind fun u11 =>
  (gd (hTy u6.2 v2 = 10) 0).bind fun _ =>
  (R_feed v2 u7 u8 u9 u10 u11 u6.2).bind fun u12 =>
  if u6.1 = u12.1 then
    Law_law_1500 sc k18 v1 v2 v3 u12.2
  else
    some (0, u12.2)
def Law_law_304 (sc : AS) (k18 : Int → Int → Int → AH → Option (Int × AH)) (v1 : Int) (v2 : Int) (v3 : Int) (h : AH) : Option (Int × AH) :=
  (gd (0 ≤ (w32 (v3 + 1)) ∧ (w32 (v3 + 1)) < sc.1) (sc.2 (w32 (v3 + 1)))).bind fun u1 =>
  (gd (hTy h v1 = 9) 0).bind fun _ =>
  (X_back v1 u1 h).bind fun u2 =>
  (gd (0 ≤ (w32 (v3 + 1)) ∧ (w32 (v3 + 1)) < sc.1) (sc.2 (w32 (v3 + 1)))).bind fun u3 =>
  (gd (hTy u2.2 v2 = 10) 0).bind fun _ =>
  (R_back v2 u3 u2.2).bind fun u4 =>
  if u2.1 = u4.1 then
    Law_law_1500 sc k18 v1 v2 v3 u4.2
  else
    some (0, u4.2)
def Law_law_327 (sc : AS) (k18 : Int → Int → Int → AH → Option (Int × AH)) (v1 : Int) (v2 : Int) (v3 : Int) (h : AH) : Option (Int × AH) :=
  (gd (hTy h v1 = 9) 0).bind fun _ =>
  (X_read v1 h).bind fun u1 =>
  (gd (hTy u1.2 v2 = 10) 0).bind fun _ =>
  (R_read v2 u1.2).bind fun u2 =>
  if u1.1 = u2.1 then
    Law_law_1500 sc k18 v1 v2 v3 u2.2
  else
    some (0, u2.2)
def Law_law_340 (sc : AS) (k18 : Int → Int → Int → AH → Option (Int × AH)) (v1 : Int) (v2 : Int) (v3 : Int) (h : AH) : Option (Int × AH) :=
  (gd (0 ≤ (w32 (v3 + 1)) ∧ (w32 (v3 + 1)) < sc.1) (sc.2 (w32 (v3 + 1)))).bind fun u1 =>
  (gd (0 ≤ (w32 (v3 + 2)) ∧ (w32 (v3 + 2)) < sc.1) (sc.2 (w32 (v3 + 2)))).bind fun u2 =>
  (gd (0 ≤ (w32 (v3 + 3)) ∧ (w32 (v3 + 3)) < sc.1) (sc.2 (w32 (v3 + 3)))).bind fun u3 =>
  (gd (hTy h v1 = 9) 0).bind fun _ =>
  (X_set v1 u1 u2 u3 h).bind fun u4 =>
  (gd (0 ≤ (w32 (v3 + 1)) ∧ (w32 (v3 + 1)) < sc.1) (sc.2 (w32 (v3 + 1)))).bind fun u5 =>
  (gd (0 ≤ (w32 (v3 + 2)) ∧ (w32 (v3 + 2)) < sc.1) (sc.2 (w32 (v3 + 2)))).bind fun u6 =>
  (gd (0 ≤ (w32 (v3 + 3)) ∧ (w32 (v3 + 3)) < sc.1) (sc.2 (w32 (v3 + 3)))).bind fun u7 =>
  (gd (hTy u4.2 v2 = 10) 0).bind fun _ =>
  (R_set v2 u5 u6 u7 u4.2).bind fun u8 =>
  if u4.1 = u8.1 then
    Law_law_1500 sc k18 v1 v2 v3 u8.2
  else
    some (0, u8.2)
def Law_law_439 (sc : AS) (k18 : Int → Int → Int → AH → Option (Int × AH)) (v1 : Int) (v2 : Int) (v3 : Int) (s0 : Int) (s1 : Int) (s2 : Int) (s3 : Int) (h : AH) : Option (Int × AH) :=
  (gd (0 ≤ (w32 (v3 + 3)) ∧ (w32 (v3 + 3)) < sc.1) (sc.2 (w32 (v3 + 3)))).bind fun u1 =>
  (gd (0 ≤ (w32 (v3 + 4)) ∧ (w32 (v3 + 4)) < sc.1) (sc.2 (w32 (v3 + 4)))).bind fun u2 =>
  (gd (0 ≤ (w32 (v3 + 5)) ∧ (w32 (v3 + 5)) < sc.1) (sc.2 (w32 (v3 + 5)))).bind fun u3 =>
  (gd (hTy h s2 = 10) 0).bind fun _ =>
  (R_alter s2 s1 s0 u1 u2 u3 h).bind fun u4 =>
  if s3 = u4.1 then
    Law_law_1500 sc k18 v1 v2 v3 u4.2
  else
    some (0, u4.2)
def Law_law_402 (sc : AS) (k18 : Int → Int → Int → AH → Option (Int × AH)) (v1 : Int) (v2 : Int) (v3 : Int) (s0 : Int) (s1 : Int) (s2 : Int) (h : AH) : Option (Int × AH) :=
  (gd (0 ≤ (w32 (v3 + 3)) ∧ (w32 (v3 + 3)) < sc.1) (sc.2 (w32 (v3 + 3)))).bind fun u1 =>
  (gd (0 ≤ (w32 (v3 + 4)) ∧ (w32 (v3 + 4)) < sc.1) (sc.2 (w32 (v3 + 4)))).bind fun u2 =>
  (gd (0 ≤ (w32 (v3 + 5)) ∧ (w32 (v3 + 5)) < sc.1) (sc.2 (w32 (v3 + 5)))).bind fun u3 =>
  (gd (hTy h s2 = 9) 0).bind fun _ =>
  (X_alter s2 s1 s0 u1 u2 u3 h).bind fun u4 =>
  (gd (0 ≤ (w32 (v3 + 1)) ∧ (w32 (v3 + 1)) < sc.1) (sc.2 (w32 (v3 + 1)))).bind fun u5 =>
  (gd (0 ≤ (w32 (v3 + 2)) ∧ (w32 (v3 + 2)) < sc.1) (sc.2 (w32 (v3 + 2)))).bind fun u6 =>
  if u6 = 0 then
    Law_law_439 sc k18 v1 v2 v3 0 u5 v2 u4.1 u4.2
  else
    Law_law_439 sc k18 v1 v2 v3 1 u5 v2 u4.1 u4.2
def Law_law_383 (sc : AS) (k18 : Int → Int → Int → AH → Option (Int × AH)) (v1 : Int) (v2 : Int) (v3 : Int) (h : AH) : Option (Int × AH) :=
  (gd (0 ≤ (w32 (v3 + 1)) ∧ (w32 (v3 + 1)) < sc.1) (sc.2 (w32 (v3 + 1)))).bind fun u1 =>
  (gd (0 ≤ (w32 (v3 + 2)) ∧ (w32 (v3 + 2)) < sc.1) (sc.2 (w32 (v3 + 2)))).bind fun u2 =>
  if u2 = 0 then
    Law_law_402 sc k18 v1 v2 v3 0 u1 v1 h
  else
    Law_law_402 sc k18 v1 v2 v3 1 u1 v1 h
def Law_law_508 (sc : AS) (k18 : Int → Int → Int → AH → Option (Int × AH)) (v1 : Int) (v2 : Int) (v3 : Int) (s0 : Int) (s1 : Int) (s2 : Int) (s3 : Int) (h : AH) : Option (Int × AH) :=
  (gd (0 ≤ (w32 (v3 + 3)) ∧ (w32 (v3 + 3)) < sc.1) (sc.2 (w32 (v3 + 3)))).bind fun u1 =>
  (gd (hTy h s2 = 10) 0).bind fun _ =>
  (R_cut s2 s1 s0 u1 h).bind fun u2 =>
  if s3 = u2.1 then
    Law_law_1500 sc k18 v1 v2 v3 u2.2
  else
    some (0, u2.2)
def Law_law_481 (sc : AS) (k18 : Int → Int → Int → AH → Option (Int × AH)) (v1 : Int) (v2 : Int) (v3 : Int) (s0 : Int) (s1 : Int) (s2 : Int) (h : AH) : Option (Int × AH) :=
  (gd (0 ≤ (w32 (v3 + 3)) ∧ (w32 (v3 + 3)) < sc.1) (sc.2 (w32 (v3 + 3)))).bind fun u1 =>
  (gd (hTy h s2 = 9) 0).bind fun _ =>
  (X_cut s2 s1 s0 u1 h).bind fun u2 =>
  (gd (0 ≤ (w32 (v3 + 1)) ∧ (w32 (v3 + 1)) < sc.1) (sc.2 (w32 (v3 + 1)))).bind fun u3 =>
  (gd (0 ≤ (w32 (v3 + 2)) ∧ (w32 (v3 + 2)) < sc.1) (sc.2 (w32 (v3 + 2)))).bind fun u4 =>
  if u4 = 0 then
    Law_law_508 sc k18 v1 v2 v3 0 u3 v2 u2.1 u2.2
  else
    Law_law_508 sc k18 v1 v2 v3 1 u3 v2 u2.1 u2.2
def Law_law_462 (sc : AS) (k18 : Int → Int → Int → AH → Option (Int × AH)) (v1 : Int) (v2 : Int) (v3 : Int) (h : AH) : Option (Int × AH) :=
  (gd (0 ≤ (w32 (v3 + 1)) ∧ (w32 (v3 + 1)) < sc.1) (sc.2 (w32 (v3 + 1)))).bind fun u1 =>
  (gd (0 ≤ (w32 (v3 + 2)) ∧ (w32 (v3 + 2)) < sc.1) (sc.2 (w32 (v3 + 2)))).bind fun u2 =>
  if u2 = 0 then
    Law_law_481 sc k18 v1 v2 v3 0 u1 v1 h
  else
    Law_law_481 sc k18 v1 v2 v3 1 u1 v1 h
def Law_law_521 (sc : AS) (k18 : Int → Int → Int → AH → Option (Int × AH)) (v1 : Int) (v2 : Int) (v3 : Int) (h : AH) : Option (Int × AH) :=
  (gd (0 ≤ (w32 (v3 + 1)) ∧ (w32 (v3 + 1)) < sc.1) (sc.2 (w32 (v3 + 1)))).bind fun u1 =>
  (gd (0 ≤ (w32 (v3 + 2)) ∧ (w32 (v3 + 2)) < sc.1) (sc.2 (w32 (v3 + 2)))).bind fun u2 =>
  (gd (hTy h v1 = 9) 0).bind fun _ =>
  (X_move v1 u1 u2 h).bind fun u3 =>
  (gd (0 ≤ (w32 (v3 + 1)) ∧ (w32 (v3 + 1)) < sc.1) (sc.2 (w32 (v3 + 1)))).bind fun u4 =>
  (gd (0 ≤ (w32 (v3 + 2)) ∧ (w32 (v3 + 2)) < sc.1) (sc.2 (w32 (v3 + 2)))).bind fun u5 =>
  (gd (hTy u3.2 v2 = 10) 0).bind fun _ =>
  (R_move v2 u4 u5 u3.2).bind fun u6 =>
  if u3.1 = u6.1 then
    Law_law_1500 sc k18 v1 v2 v3 u6.2
  else
    some (0, u6.2)
def Law_law_554 (sc : AS) (k18 : Int → Int → Int → AH → Option (Int × AH)) (v1 : Int) (v2 : Int) (v3 : Int) (h : AH) : Option (Int × AH) :=
  (gd (0 ≤ (w32 (v3 + 1)) ∧ (w32 (v3 + 1)) < sc.1) (sc.2 (w32 (v3 + 1)))).bind fun u1 =>
  (gd (hTy h v1 = 9) 0).bind fun _ =>
  (X_mend v1 u1 h).bind fun u2 =>
  (gd (0 ≤ (w32 (v3 + 1)) ∧ (w32 (v3 + 1)) < sc.1) (sc.2 (w32 (v3 + 1)))).bind fun u3 =>
  (gd (hTy u2.2 v2 = 10) 0).bind fun _ =>
  (R_mend v2 u3 u2.2).bind fun u4 =>
  if u2.1 = u4.1 then
    Law_law_1500 sc k18 v1 v2 v3 u4.2
  else
    some (0, u4.2)
def Law_law_577 (sc : AS) (k18 : Int → Int → Int → AH → Option (Int × AH)) (v1 : Int) (v2 : Int) (v3 : Int) (h : AH) : Option (Int × AH) :=
  (gd (0 ≤ (w32 (v3 + 1)) ∧ (w32 (v3 + 1)) < sc.1) (sc.2 (w32 (v3 + 1)))).bind fun u1 =>
  (gd (hTy h v1 = 9) 0).bind fun _ =>
  (X_prune v1 u1 h).bind fun u2 =>
  (gd (0 ≤ (w32 (v3 + 1)) ∧ (w32 (v3 + 1)) < sc.1) (sc.2 (w32 (v3 + 1)))).bind fun u3 =>
  (gd (hTy u2.2 v2 = 10) 0).bind fun _ =>
  (R_prune v2 u3 u2.2).bind fun u4 =>
  if u2.1 = u4.1 then
    Law_law_1500 sc k18 v1 v2 v3 u4.2
  else
    some (0, u4.2)
def Law_law_600 (sc : AS) (k18 : Int → Int → Int → AH → Option (Int × AH)) (v1 : Int) (v2 : Int) (v3 : Int) (h : AH) : Option (Int × AH) :=
  (gd (hTy h v1 = 9) 0).bind fun _ =>
  (X_drop v1 h).bind fun u1 =>
  (gd (hTy u1.2 v2 = 10) 0).bind fun _ =>
  (R_drop v2 u1.2).bind fun u2 =>
  if u1.1 = u2.1 then
    Law_law_1500 sc k18 v1 v2 v3 u2.2
  else
    some (0, u2.2)
def Law_law_613 (sc : AS) (k18 : Int → Int → Int → AH → Option (Int × AH)) (v1 : Int) (v2 : Int) (v3 : Int) (h : AH) : Option (Int × AH) :=
  (gd (hTy h v1 = 9) 0).bind fun _ =>
  (X_clear v1 h).bind fun u1 =>
  (gd (hTy u1.2 v2 = 10) 0).bind fun _ =>
  (R_clear v2 u1.2).bind fun u2 =>
  if u1.1 = u2.1 then
    Law_law_1500 sc k18 v1 v2 v3 u2.2
  else
    some (0, u2.2)
def Law_law_626 (sc : AS) (k18 : Int → Int → Int → AH → Option (Int × AH)) (v1 : Int) (v2 : Int) (v3 : Int) (h : AH) : Option (Int × AH) :=
  (gd (0 ≤ (w32 (v3 + 1)) ∧ (w32 (v3 + 1)) < sc.1) (sc.2 (w32 (v3 + 1)))).bind fun u1 =>
  (gd (0 ≤ (w32 (v3 + 2)) ∧ (w32 (v3 + 2)) < sc.1) (sc.2 (w32 (v3 + 2)))).bind fun u2 =>
  (gd (hTy h v1 = 9) 0).bind fun _ =>
  (X_line v1 u1 u2 h).bind fun u3 =>
  (gd (0 ≤ (w32 (v3 + 1)) ∧ (w32 (v3 + 1)) < sc.1) (sc.2 (w32 (v3 + 1)))).bind fun u4 =>
  (gd (0 ≤ (w32 (v3 + 2)) ∧ (w32 (v3 + 2)) < sc.1) (sc.2 (w32 (v3 + 2)))).bind fun u5 =>
  (gd (hTy h v2 = 10) 0).bind fun _ =>
  (R_line v2 u4 u5 h).bind fun u6 =>
  if u3 = u6.1 then
    Law_law_1500 sc k18 v1 v2 v3 u6.2
  else
    some (0, u6.2)
def Law_law_710 (sc : AS) (k18 : Int → Int → Int → AH → Option (Int × AH)) (v1 : Int) (v2 : Int) (v3 : Int) (s0 : Int) (s1 : Int) (s2 : Int) (s3 : Int) (h : AH) : Option (Int × AH) :=
  (gd (0 ≤ (w32 (v3 + 3)) ∧ (w32 (v3 + 3)) < sc.1) (sc.2 (w32 (v3 + 3)))).bind fun u1 =>
  (gd (0 ≤ (w32 (v3 + 4)) ∧ (w32 (v3 + 4)) < sc.1) (sc.2 (w32 (v3 + 4)))).bind fun u2 =>
  (gd (hTy h s2 = 10) 0).bind fun _ =>
  (R_row s2 s1 s0 u1 u2 h).bind fun u3 =>
  if s3 = u3.1 then
    Law_law_1500 sc k18 v1 v2 v3 u3.2
  else
    some (0, u3.2)
def Law_law_678 (sc : AS) (k18 : Int → Int → Int → AH → Option (Int × AH)) (v1 : Int) (v2 : Int) (v3 : Int) (s0 : Int) (s1 : Int) (s2 : Int) (h : AH) : Option (Int × AH) :=
  (gd (0 ≤ (w32 (v3 + 3)) ∧ (w32 (v3 + 3)) < sc.1) (sc.2 (w32 (v3 + 3)))).bind fun u1 =>
  (gd (0 ≤ (w32 (v3 + 4)) ∧ (w32 (v3 + 4)) < sc.1) (sc.2 (w32 (v3 + 4)))).bind fun u2 =>
  (gd (hTy h s2 = 9) 0).bind fun _ =>
  (X_row s2 s1 s0 u1 u2 h).bind fun u3 =>
  (gd (0 ≤ (w32 (v3 + 1)) ∧ (w32 (v3 + 1)) < sc.1) (sc.2 (w32 (v3 + 1)))).bind fun u4 =>
  (gd (0 ≤ (w32 (v3 + 2)) ∧ (w32 (v3 + 2)) < sc.1) (sc.2 (w32 (v3 + 2)))).bind fun u5 =>
  if u5 = 0 then
    Law_law_710 sc k18 v1 v2 v3 0 u4 v2 u3 h
  else
    Law_law_710 sc k18 v1 v2 v3 1 u4 v2 u3 h
def Law_law_659 (sc : AS) (k18 : Int → Int → Int → AH → Option (Int × AH)) (v1 : Int) (v2 : Int) (v3 : Int) (h : AH) : Option (Int × AH) :=
  (gd (0 ≤ (w32 (v3 + 1)) ∧ (w32 (v3 + 1)) < sc.1) (sc.2 (w32 (v3 + 1)))).bind fun u1 =>
  (gd (0 ≤ (w32 (v3 + 2)) ∧ (w32 (v3 + 2)) < sc.1) (sc.2 (w32 (v3 + 2)))).bind fun u2 =>
  if u2 = 0 then
    Law_law_678 sc k18 v1 v2 v3 0 u1 v1 h
  else
    Law_law_678 sc k18 v1 v2 v3 1 u1 v1 h
def Law_law_728 (sc : AS) (k18 : Int → Int → Int → AH → Option (Int × AH)) (v1 : Int) (v2 : Int) (v3 : Int) (h : AH) : Option (Int × AH) :=
  (gd (hTy h v1 = 9) 0).bind fun _ =>
  (X_right v1 h).bind fun u1 =>
  (gd (hTy h v2 = 10) 0).bind fun _ =>
  (R_right v2 h).bind fun u2 =>
  if u1 = u2.1 then
    Law_law_1500 sc k18 v1 v2 v3 u2.2
  else
    some (0, u2.2)
def Law_law_742 (sc : AS) (k18 : Int → Int → Int → AH → Option (Int × AH)) (v1 : Int) (v2 : Int) (v3 : Int) (h : AH) : Option (Int × AH) :=
  (gd (0 ≤ (w32 (v3 + 1)) ∧ (w32 (v3 + 1)) < sc.1) (sc.2 (w32 (v3 + 1)))).bind fun u1 =>
  (gd (hTy h v1 = 9) 0).bind fun _ =>
  (X_rests v1 u1 h).bind fun u2 =>
  (gd (0 ≤ (w32 (v3 + 1)) ∧ (w32 (v3 + 1)) < sc.1) (sc.2 (w32 (v3 + 1)))).bind fun u3 =>
  (gd (hTy h v2 = 10) 0).bind fun _ =>
  (R_rests v2 u3 h).bind fun u4 =>
  if u2 = u4.1 then
    Law_law_1500 sc k18 v1 v2 v3 u4.2
  else
    some (0, u4.2)
def Law_law_766 (sc : AS) (k18 : Int → Int → Int → AH → Option (Int × AH)) (v1 : Int) (v2 : Int) (v3 : Int) (h : AH) : Option (Int × AH) :=
  (gd (0 ≤ (w32 (v3 + 1)) ∧ (w32 (v3 + 1)) < sc.1) (sc.2 (w32 (v3 + 1)))).bind fun u1 =>
  (gd (hTy h v1 = 9) 0).bind fun _ =>
  (X_deep v1 u1 h).bind fun u2 =>
  (gd (0 ≤ (w32 (v3 + 1)) ∧ (w32 (v3 + 1)) < sc.1) (sc.2 (w32 (v3 + 1)))).bind fun u3 =>
  (gd (hTy h v2 = 10) 0).bind fun _ =>
  (R_deep v2 u3 h).bind fun u4 =>
  if u2 = u4.1 then
    Law_law_1500 sc k18 v1 v2 v3 u4.2
  else
    some (0, u4.2)
def Law_law_789 (sc : AS) (k18 : Int → Int → Int → AH → Option (Int × AH)) (v1 : Int) (v2 : Int) (v3 : Int) (h : AH) : Option (Int × AH) :=
  (gd (0 ≤ (w32 (v3 + 1)) ∧ (w32 (v3 + 1)) < sc.1) (sc.2 (w32 (v3 + 1)))).bind fun u1 =>
  (gd (hTy h v1 = 9) 0).bind fun _ =>
  (X_falls v1 u1 h).bind fun u2 =>
  (gd (0 ≤ (w32 (v3 + 1)) ∧ (w32 (v3 + 1)) < sc.1) (sc.2 (w32 (v3 + 1)))).bind fun u3 =>
  (gd (hTy h v2 = 10) 0).bind fun _ =>
  (R_falls v2 u3 h).bind fun u4 =>
  if u2 = u4.1 then
    Law_law_1500 sc k18 v1 v2 v3 u4.2
  else
    some (0, u4.2)
def Law_law_813 (sc : AS) (k18 : Int → Int → Int → AH → Option (Int × AH)) (v1 : Int) (v2 : Int) (v3 : Int) (h : AH) : Option (Int × AH) :=
  (gd (0 ≤ (w32 (v3 + 1)) ∧ (w32 (v3 + 1)) < sc.1) (sc.2 (w32 (v3 + 1)))).bind fun u1 =>
  (gd (hTy h v1 = 9) 0).bind fun _ =>
  (X_cost v1 u1 h).bind fun u2 =>
  (gd (0 ≤ (w32 (v3 + 1)) ∧ (w32 (v3 + 1)) < sc.1) (sc.2 (w32 (v3 + 1)))).bind fun u3 =>
  (gd (hTy h v2 = 10) 0).bind fun _ =>
  (R_cost v2 u3 h).bind fun u4 =>
  if u2 = u4.1 then
    Law_law_1500 sc k18 v1 v2 v3 u4.2
  else
    some (0, u4.2)
def Law_law_836 (sc : AS) (k18 : Int → Int → Int → AH → Option (Int × AH)) (v1 : Int) (v2 : Int) (v3 : Int) (h : AH) : Option (Int × AH) :=
  (gd (0 ≤ (w32 (v3 + 1)) ∧ (w32 (v3 + 1)) < sc.1) (sc.2 (w32 (v3 + 1)))).bind fun u1 =>
  (gd (0 ≤ (w32 (v3 + 2)) ∧ (w32 (v3 + 2)) < sc.1) (sc.2 (w32 (v3 + 2)))).bind fun u2 =>
  (gd (hTy h v1 = 9) 0).bind fun _ =>
  (X_loose v1 u1 u2 h).bind fun u3 =>
  (gd (0 ≤ (w32 (v3 + 1)) ∧ (w32 (v3 + 1)) < sc.1) (sc.2 (w32 (v3 + 1)))).bind fun u4 =>
  (gd (0 ≤ (w32 (v3 + 2)) ∧ (w32 (v3 + 2)) < sc.1) (sc.2 (w32 (v3 + 2)))).bind fun u5 =>
  (gd (hTy h v2 = 10) 0).bind fun _ =>
  (R_loose v2 u4 u5 h).bind fun u6 =>
  if u3 = u6.1 then
    Law_law_1500 sc k18 v1 v2 v3 u6.2
  else
    some (0, u6.2)
def Law_law_869 (sc : AS) (k18 : Int → Int → Int → AH → Option (Int × AH)) (v1 : Int) (v2 : Int) (v3 : Int) (h : AH) : Option (Int × AH) :=
  (gd (0 ≤ (w32 (v3 + 1)) ∧ (w32 (v3 + 1)) < sc.1) (sc.2 (w32 (v3 + 1)))).bind fun u1 =>
  (gd (0 ≤ (w32 (v3 + 2)) ∧ (w32 (v3 + 2)) < sc.1) (sc.2 (w32 (v3 + 2)))).bind fun u2 =>
  (gd (hTy h v1 = 9) 0).bind fun _ =>
  (X_shared v1 u1 u2 h).bind fun u3 =>
  (gd (0 ≤ (w32 (v3 + 1)) ∧ (w32 (v3 + 1)) < sc.1) (sc.2 (w32 (v3 + 1)))).bind fun u4 =>
  (gd (0 ≤ (w32 (v3 + 2)) ∧ (w32 (v3 + 2)) < sc.1) (sc.2 (w32 (v3 + 2)))).bind fun u5 =>
  (gd (hTy h v2 = 10) 0).bind fun _ =>
  (R_shared v2 u4 u5 h).bind fun u6 =>
  if u3 = u6.1 then
    Law_law_1500 sc k18 v1 v2 v3 u6.2
  else
    some (0, u6.2)
def Law_law_903 (sc : AS) (k18 : Int → Int → Int → AH → Option (Int × AH)) (v1 : Int) (v2 : Int) (v3 : Int) (h : AH) : Option (Int × AH) :=
  (gd (0 ≤ (w32 (v3 + 1)) ∧ (w32 (v3 + 1)) < sc.1) (sc.2 (w32 (v3 + 1)))).bind fun u1 =>
  (gd (0 ≤ (w32 (v3 + 2)) ∧ (w32 (v3 + 2)) < sc.1) (sc.2 (w32 (v3 + 2)))).bind fun u2 =>
  (gd (hTy h v1 = 9) 0).bind fun _ =>
  (X_spell v1 u1 u2 h).bind fun u3 =>
  (gd (0 ≤ (w32 (v3 + 1)) ∧ (w32 (v3 + 1)) < sc.1) (sc.2 (w32 (v3 + 1)))).bind fun u4 =>
  (gd (0 ≤ (w32 (v3 + 2)) ∧ (w32 (v3 + 2)) < sc.1) (sc.2 (w32 (v3 + 2)))).bind fun u5 =>
  (gd (hTy u3.2 v2 = 10) 0).bind fun _ =>
  (R_spell v2 u4 u5 u3.2).bind fun u6 =>
  if u3.1 = u6.1 then
    Law_law_1500 sc k18 v1 v2 v3 u6.2
  else
    some (0, u6.2)
def Law_law_936 (sc : AS) (k18 : Int → Int → Int → AH → Option (Int × AH)) (v1 : Int) (v2 : Int) (v3 : Int) (h : AH) : Option (Int × AH) :=
  (gd (0 ≤ (w32 (v3 + 1)) ∧ (w32 (v3 + 1)) < sc.1) (sc.2 (w32 (v3 + 1)))).bind fun u1 =>
  (gd (hTy h v1 = 9) 0).bind fun _ =>
  (X_proof v1 u1 h).bind fun u2 =>
  (gd (0 ≤ (w32 (v3 + 1)) ∧ (w32 (v3 + 1)) < sc.1) (sc.2 (w32 (v3 + 1)))).bind fun u3 =>
  (gd (hTy h v2 = 10) 0).bind fun _ =>
  (R_proof v2 u3 h).bind fun u4 =>
  if u2 = u4.1 then
    Law_law_1500 sc k18 v1 v2 v3 u4.2
  else
    some (0, u4.2)
def Law_law_959 (sc : AS) (k18 : Int → Int → Int → AH → Option (Int × AH)) (v1 : Int) (v2 : Int) (v3 : Int) (h : AH) : Option (Int × AH) :=
  (gd (0 ≤ (w32 (v3 + 1)) ∧ (w32 (v3 + 1)) < sc.1) (sc.2 (w32 (v3 + 1)))).bind fun u1 =>
  (gd (0 ≤ (w32 (v3 + 2)) ∧ (w32 (v3 + 2)) < sc.1) (sc.2 (w32 (v3 + 2)))).bind fun u2 =>
  (gd (hTy h v1 = 9) 0).bind fun _ =>
  (X_prime v1 u1 u2 h).bind fun u3 =>
  (gd (0 ≤ (w32 (v3 + 1)) ∧ (w32 (v3 + 1)) < sc.1) (sc.2 (w32 (v3 + 1)))).bind fun u4 =>
  (gd (0 ≤ (w32 (v3 + 2)) ∧ (w32 (v3 + 2)) < sc.1) (sc.2 (w32 (v3 + 2)))).bind fun u5 =>
  (gd (hTy u3.2 v2 = 10) 0).bind fun _ =>
  (R_prime v2 u4 u5 u3.2).bind fun u6 =>
  if u3.1 = u6.1 then
    Law_law_1500 sc k18 v1 v2 v3 u6.2
  else
    some (0, u6.2)
def Law_law_992 (sc : AS) (k18 : Int → Int → Int → AH → Option (Int × AH)) (v1 : Int) (v2 : Int) (v3 : Int) (h : AH) : Option (Int × AH) :=
  (gd (0 ≤ (w32 (v3 + 1)) ∧ (w32 (v3 + 1)) < sc.1) (sc.2 (w32 (v3 + 1)))).bind fun u1 =>
  (gd (0 ≤ (w32 (v3 + 2)) ∧ (w32 (v3 + 2)) < sc.1) (sc.2 (w32 (v3 + 2)))).bind fun u2 =>
  (gd (hTy h v1 = 9) 0).bind fun _ =>
  (X_often v1 u1 u2).bind fun u3 =>
  (gd (0 ≤ (w32 (v3 + 1)) ∧ (w32 (v3 + 1)) < sc.1) (sc.2 (w32 (v3 + 1)))).bind fun u4 =>
  (gd (0 ≤ (w32 (v3 + 2)) ∧ (w32 (v3 + 2)) < sc.1) (sc.2 (w32 (v3 + 2)))).bind fun u5 =>
  (gd (hTy h v2 = 10) 0).bind fun _ =>
  (R_often v2 u4 u5).bind fun u6 =>
  if u3 = u6 then
    Law_law_1500 sc k18 v1 v2 v3 h
  else
    some (0, h)
def Law_law_1025 (sc : AS) (k18 : Int → Int → Int → AH → Option (Int × AH)) (v1 : Int) (v2 : Int) (v3 : Int) (h : AH) : Option (Int × AH) :=
  (gd (0 ≤ (w32 (v3 + 1)) ∧ (w32 (v3 + 1)) < sc.1) (sc.2 (w32 (v3 + 1)))).bind fun u1 =>
  (gd (0 ≤ (w32 (v3 + 2)) ∧ (w32 (v3 + 2)) < sc.1) (sc.2 (w32 (v3 + 2)))).bind fun u2 =>
  (gd (hTy h v1 = 9) 0).bind fun _ =>
  (X_needs v1 u1 u2 h).bind fun u3 =>
  (gd (0 ≤ (w32 (v3 + 1)) ∧ (w32 (v3 + 1)) < sc.1) (sc.2 (w32 (v3 + 1)))).bind fun u4 =>
  (gd (0 ≤ (w32 (v3 + 2)) ∧ (w32 (v3 + 2)) < sc.1) (sc.2 (w32 (v3 + 2)))).bind fun u5 =>
  (gd (hTy u3.2 v2 = 10) 0).bind fun _ =>
  (R_needs v2 u4 u5 u3.2).bind fun u6 =>
  if u3.1 = u6.1 then
    Law_law_1500 sc k18 v1 v2 v3 u6.2
  else
    some (0, u6.2)
def Law_law_1058 (sc : AS) (k18 : Int → Int → Int → AH → Option (Int × AH)) (v1 : Int) (v2 : Int) (v3 : Int) (h : AH) : Option (Int × AH) :=
  (gd (0 ≤ (w32 (v3 + 1)) ∧ (w32 (v3 + 1)) < sc.1) (sc.2 (w32 (v3 + 1)))).bind fun u1 =>
  (gd (hTy h v1 = 9) 0).bind fun _ =>
  (X_fewest v1 u1 h).bind fun u2 =>
  (gd (0 ≤ (w32 (v3 + 1)) ∧ (w32 (v3 + 1)) < sc.1) (sc.2 (w32 (v3 + 1)))).bind fun u3 =>
  (gd (hTy u2.2 v2 = 10) 0).bind fun _ =>
  (R_fewest v2 u3 u2.2).bind fun u4 =>
  if u2.1 = u4.1 then
    Law_law_1500 sc k18 v1 v2 v3 u4.2
  else
    some (0, u4.2)
def Law_law_1081 (sc : AS) (k18 : Int → Int → Int → AH → Option (Int × AH)) (v1 : Int) (v2 : Int) (v3 : Int) (h : AH) : Option (Int × AH) :=
  (gd (0 ≤ (w32 (v3 + 1)) ∧ (w32 (v3 + 1)) < sc.1) (sc.2 (w32 (v3 + 1)))).bind fun u1 =>
  (gd (hTy h v1 = 9) 0).bind fun _ =>
  (X_next v1 u1).bind fun u2 =>
  (gd (0 ≤ (w32 (v3 + 1)) ∧ (w32 (v3 + 1)) < sc.1) (sc.2 (w32 (v3 + 1)))).bind fun u3 =>
  (gd (hTy h v2 = 10) 0).bind fun _ =>
  (R_next v2 u3).bind fun u4 =>
  if u2 = u4 then
    Law_law_1500 sc k18 v1 v2 v3 h
  else
    some (0, h)
def Law_law_1104 (sc : AS) (k18 : Int → Int → Int → AH → Option (Int × AH)) (v1 : Int) (v2 : Int) (v3 : Int) (h : AH) : Option (Int × AH) :=
  (gd (0 ≤ (w32 (v3 + 1)) ∧ (w32 (v3 + 1)) < sc.1) (sc.2 (w32 (v3 + 1)))).bind fun u1 =>
  (gd (0 ≤ (w32 (v3 + 2)) ∧ (w32 (v3 + 2)) < sc.1) (sc.2 (w32 (v3 + 2)))).bind fun u2 =>
  (gd (hTy h v1 = 9) 0).bind fun _ =>
  (X_smooth v1 u1 u2 h).bind fun u3 =>
  (gd (0 ≤ (w32 (v3 + 1)) ∧ (w32 (v3 + 1)) < sc.1) (sc.2 (w32 (v3 + 1)))).bind fun u4 =>
  (gd (0 ≤ (w32 (v3 + 2)) ∧ (w32 (v3 + 2)) < sc.1) (sc.2 (w32 (v3 + 2)))).bind fun u5 =>
  (gd (hTy u3.2 v2 = 10) 0).bind fun _ =>
  (R_smooth v2 u4 u5 u3.2).bind fun u6 =>
  if u3.1 = u6.1 then
    Law_law_1500 sc k18 v1 v2 v3 u6.2
  else
    some (0, u6.2)
def Law_law_1137 (sc : AS) (k18 : Int → Int → Int → AH → Option (Int × AH)) (v1 : Int) (v2 : Int) (v3 : Int) (h : AH) : Option (Int × AH) :=
  (gd (0 ≤ (w32 (v3 + 1)) ∧ (w32 (v3 + 1)) < sc.1) (sc.2 (w32 (v3 + 1)))).bind fun u1 =>
  (gd (hTy h v1 = 9) 0).bind fun _ =>
  (X_bound v1 u1 h).bind fun u2 =>
  (gd (0 ≤ (w32 (v3 + 1)) ∧ (w32 (v3 + 1)) < sc.1) (sc.2 (w32 (v3 + 1)))).bind fun u3 =>
  (gd (hTy u2.2 v2 = 10) 0).bind fun _ =>
  (R_bound v2 u3 u2.2).bind fun u4 =>
  if u2.1 = u4.1 then
    Law_law_1500 sc k18 v1 v2 v3 u4.2
  else
    some (0, u4.2)
def Law_law_1160 (sc : AS) (k18 : Int → Int → Int → AH → Option (Int × AH)) (v1 : Int) (v2 : Int) (v3 : Int) (h : AH) : Option (Int × AH) :=
  (gd (0 ≤ (w32 (v3 + 1)) ∧ (w32 (v3 + 1)) < sc.1) (sc.2 (w32 (v3 + 1)))).bind fun u1 =>
  (gd (0 ≤ (w32 (v3 + 2)) ∧ (w32 (v3 + 2)) < sc.1) (sc.2 (w32 (v3 + 2)))).bind fun u2 =>
  (gd (hTy h v1 = 9) 0).bind fun _ =>
  (X_chase v1 u1 u2).bind fun u3 =>
  (gd (0 ≤ (w32 (v3 + 1)) ∧ (w32 (v3 + 1)) < sc.1) (sc.2 (w32 (v3 + 1)))).bind fun u4 =>
  (gd (0 ≤ (w32 (v3 + 2)) ∧ (w32 (v3 + 2)) < sc.1) (sc.2 (w32 (v3 + 2)))).bind fun u5 =>
  (gd (hTy h v2 = 10) 0).bind fun _ =>
  (R_chase v2 u4 u5).bind fun u6 =>
  if u3 = u6 then
    Law_law_1500 sc k18 v1 v2 v3 h
  else
    some (0, h)
def Law_law_1193 (sc : AS) (k18 : Int → Int → Int → AH → Option (Int × AH)) (v1 : Int) (v2 : Int) (v3 : Int) (h : AH) : Option (Int × AH) :=
  (gd (0 ≤ (w32 (v3 + 1)) ∧ (w32 (v3 + 1)) < sc.1) (sc.2 (w32 (v3 + 1)))).bind fun u1 =>
  (gd (0 ≤ (w32 (v3 + 2)) ∧ (w32 (v3 + 2)) < sc.1) (sc.2 (w32 (v3 + 2)))).bind fun u2 =>
  (gd (hTy h v1 = 9) 0).bind fun _ =>
  (X_primes v1 u1 u2).bind fun u3 =>
  (gd (0 ≤ (w32 (v3 + 1)) ∧ (w32 (v3 + 1)) < sc.1) (sc.2 (w32 (v3 + 1)))).bind fun u4 =>
  (gd (0 ≤ (w32 (v3 + 2)) ∧ (w32 (v3 + 2)) < sc.1) (sc.2 (w32 (v3 + 2)))).bind fun u5 =>
  (gd (hTy h v2 = 10) 0).bind fun _ =>
  (R_primes v2 u4 u5).bind fun u6 =>
  if u3 = u6 then
    Law_law_1500 sc k18 v1 v2 v3 h
  else
    some (0, h)
def Law_law_1226 (sc : AS) (k18 : Int → Int → Int → AH → Option (Int × AH)) (v1 : Int) (v2 : Int) (v3 : Int) (h : AH) : Option (Int × AH) :=
  (gd (0 ≤ (w32 (v3 + 1)) ∧ (w32 (v3 + 1)) < sc.1) (sc.2 (w32 (v3 + 1)))).bind fun u1 =>
  (gd (0 ≤ (w32 (v3 + 2)) ∧ (w32 (v3 + 2)) < sc.1) (sc.2 (w32 (v3 + 2)))).bind fun u2 =>
  (gd (hTy h v1 = 9) 0).bind fun _ =>
  (X_passes v1 u1 u2).bind fun u3 =>
  (gd (0 ≤ (w32 (v3 + 1)) ∧ (w32 (v3 + 1)) < sc.1) (sc.2 (w32 (v3 + 1)))).bind fun u4 =>
  (gd (0 ≤ (w32 (v3 + 2)) ∧ (w32 (v3 + 2)) < sc.1) (sc.2 (w32 (v3 + 2)))).bind fun u5 =>
  (gd (hTy h v2 = 10) 0).bind fun _ =>
  (R_passes v2 u4 u5).bind fun u6 =>
  if u3 = u6 then
    Law_law_1500 sc k18 v1 v2 v3 h
  else
    some (0, h)
def Law_law_1259 (sc : AS) (k18 : Int → Int → Int → AH → Option (Int × AH)) (v1 : Int) (v2 : Int) (v3 : Int) (h : AH) : Option (Int × AH) :=
  (gd (0 ≤ (w32 (v3 + 1)) ∧ (w32 (v3 + 1)) < sc.1) (sc.2 (w32 (v3 + 1)))).bind fun u1 =>
  (gd (0 ≤ (w32 (v3 + 2)) ∧ (w32 (v3 + 2)) < sc.1) (sc.2 (w32 (v3 + 2)))).bind fun u2 =>
  (gd (hTy h v1 = 9) 0).bind fun _ =>
  (X_fools v1 u1 u2).bind fun u3 =>
  (gd (0 ≤ (w32 (v3 + 1)) ∧ (w32 (v3 + 1)) < sc.1) (sc.2 (w32 (v3 + 1)))).bind fun u4 =>
  (gd (0 ≤ (w32 (v3 + 2)) ∧ (w32 (v3 + 2)) < sc.1) (sc.2 (w32 (v3 + 2)))).bind fun u5 =>
  (gd (hTy h v2 = 10) 0).bind fun _ =>
  (R_fools v2 u4 u5).bind fun u6 =>
  if u3 = u6 then
    Law_law_1500 sc k18 v1 v2 v3 h
  else
    some (0, h)
def Law_law_1292 (sc : AS) (k18 : Int → Int → Int → AH → Option (Int × AH)) (v1 : Int) (v2 : Int) (v3 : Int) (h : AH) : Option (Int × AH) :=
  (gd (0 ≤ (w32 (v3 + 1)) ∧ (w32 (v3 + 1)) < sc.1) (sc.2 (w32 (v3 + 1)))).bind fun u1 =>
  (gd (0 ≤ (w32 (v3 + 2)) ∧ (w32 (v3 + 2)) < sc.1) (sc.2 (w32 (v3 + 2)))).bind fun u2 =>
  (gd (0 ≤ (w32 (v3 + 3)) ∧ (w32 (v3 + 3)) < sc.1) (sc.2 (w32 (v3 + 3)))).bind fun u3 =>
  (gd (hTy h v1 = 9) 0).bind fun _ =>
  (X_power v1 u1 u2 u3).bind fun u4 =>
  (gd (0 ≤ (w32 (v3 + 1)) ∧ (w32 (v3 + 1)) < sc.1) (sc.2 (w32 (v3 + 1)))).bind fun u5 =>
  (gd (0 ≤ (w32 (v3 + 2)) ∧ (w32 (v3 + 2)) < sc.1) (sc.2 (w32 (v3 + 2)))).bind fun u6 =>
  (gd (0 ≤ (w32 (v3 + 3)) ∧ (w32 (v3 + 3)) < sc.1) (sc.2 (w32 (v3 + 3)))).bind fun u7 =>
  (gd (hTy h v2 = 10) 0).bind fun _ =>
  (R_power v2 u5 u6 u7).bind fun u8 =>
  if u4 = u8 then
    Law_law_1500 sc k18 v1 v2 v3 h
  else
    some (0, h)
def Law_law_1335 (sc : AS) (k18 : Int → Int → Int → AH → Option (Int × AH)) (v1 : Int) (v2 : Int) (v3 : Int) (h : AH) : Option (Int × AH) :=
  (gd (0 ≤ (w32 (v3 + 1)) ∧ (w32 (v3 + 1)) < sc.1) (sc.2 (w32 (v3 + 1)))).bind fun u1 =>
  (gd (0 ≤ (w32 (v3 + 2)) ∧ (w32 (v3 + 2)) < sc.1) (sc.2 (w32 (v3 + 2)))).bind fun u2 =>
  (gd (hTy h v1 = 9) 0).bind fun _ =>
  (X_order v1 u1 u2 h).bind fun u3 =>
  (gd (0 ≤ (w32 (v3 + 1)) ∧ (w32 (v3 + 1)) < sc.1) (sc.2 (w32 (v3 + 1)))).bind fun u4 =>
  (gd (0 ≤ (w32 (v3 + 2)) ∧ (w32 (v3 + 2)) < sc.1) (sc.2 (w32 (v3 + 2)))).bind fun u5 =>
  (gd (hTy u3.2 v2 = 10) 0).bind fun _ =>
  (R_order v2 u4 u5).bind fun u6 =>
  if u3.1 = u6 then
    Law_law_1500 sc k18 v1 v2 v3 u3.2
  else
    some (0, u3.2)
def Law_law_1368 (sc : AS) (k18 : Int → Int → Int → AH → Option (Int × AH)) (v1 : Int) (v2 : Int) (v3 : Int) (h : AH) : Option (Int × AH) :=
  (gd (0 ≤ (w32 (v3 + 1)) ∧ (w32 (v3 + 1)) < sc.1) (sc.2 (w32 (v3 + 1)))).bind fun u1 =>
  (gd (0 ≤ (w32 (v3 + 2)) ∧ (w32 (v3 + 2)) < sc.1) (sc.2 (w32 (v3 + 2)))).bind fun u2 =>
  (gd (hTy h v1 = 9) 0).bind fun _ =>
  (X_jacobi v1 u1 u2).bind fun u3 =>
  (gd (0 ≤ (w32 (v3 + 1)) ∧ (w32 (v3 + 1)) < sc.1) (sc.2 (w32 (v3 + 1)))).bind fun u4 =>
  (gd (0 ≤ (w32 (v3 + 2)) ∧ (w32 (v3 + 2)) < sc.1) (sc.2 (w32 (v3 + 2)))).bind fun u5 =>
  (gd (hTy h v2 = 10) 0).bind fun _ =>
  (R_jacobi v2 u4 u5).bind fun u6 =>
  if u3 = u6 then
    Law_law_1500 sc k18 v1 v2 v3 h
  else
    some (0, h)
def Law_law_1401 (sc : AS) (k18 : Int → Int → Int → AH → Option (Int × AH)) (v1 : Int) (v2 : Int) (v3 : Int) (h : AH) : Option (Int × AH) :=
  (gd (0 ≤ (w32 (v3 + 1)) ∧ (w32 (v3 + 1)) < sc.1) (sc.2 (w32 (v3 + 1)))).bind fun u1 =>
  (gd (0 ≤ (w32 (v3 + 2)) ∧ (w32 (v3 + 2)) < sc.1) (sc.2 (w32 (v3 + 2)))).bind fun u2 =>
  (gd (0 ≤ (w32 (v3 + 3)) ∧ (w32 (v3 + 3)) < sc.1) (sc.2 (w32 (v3 + 3)))).bind fun u3 =>
  (gd (0 ≤ (w32 (v3 + 4)) ∧ (w32 (v3 + 4)) < sc.1) (sc.2 (w32 (v3 + 4)))).bind fun u4 =>
  (gd (hTy h v1 = 9) 0).bind fun _ =>
  (X_u v1 u1 u2 u3 u4).bind fun u5 =>
  (gd (0 ≤ (w32 (v3 + 1)) ∧ (w32 (v3 + 1)) < sc.1) (sc.2 (w32 (v3 + 1)))).bind fun u6 =>
  (gd (0 ≤ (w32 (v3 + 2)) ∧ (w32 (v3 + 2)) < sc.1) (sc.2 (w32 (v3 + 2)))).bind fun u7 =>
  (gd (0 ≤ (w32 (v3 + 3)) ∧ (w32 (v3 + 3)) < sc.1) (sc.2 (w32 (v3 + 3)))).bind fun u8 =>
  (gd (0 ≤ (w32 (v3 + 4)) ∧ (w32 (v3 + 4)) < sc.1) (sc.2 (w32 (v3 + 4)))).bind fun u9 =>
  (gd (hTy h v2 = 10) 0).bind fun _ =>
  (R_u v2 u6 u7 u8 u9 h).bind fun u10 =>
  if u5 = u10.1 then
    Law_law_1500 sc k18 v1 v2 v3 u10.2
  else
    some (0, u10.2)
def Law_law_1454 (sc : AS) (k18 : Int → Int → Int → AH → Option (Int × AH)) (v1 : Int) (v2 : Int) (v3 : Int) (h : AH) : Option (Int × AH) :=
  (gd (0 ≤ (w32 (v3 + 1)) ∧ (w32 (v3 + 1)) < sc.1) (sc.2 (w32 (v3 + 1)))).bind fun u1 =>
  (gd (hTy h v1 = 9) 0).bind fun _ =>
  (X_units v1 u1 h).bind fun u2 =>
  (gd (0 ≤ (w32 (v3 + 1)) ∧ (w32 (v3 + 1)) < sc.1) (sc.2 (w32 (v3 + 1)))).bind fun u3 =>
  (gd (hTy u2.2 v2 = 10) 0).bind fun _ =>
  (R_units v2 u3 u2.2).bind fun u4 =>
  if u2.1 = u4.1 then
    Law_law_1500 sc k18 v1 v2 v3 u4.2
  else
    some (0, u4.2)
def Law_law_1477 (sc : AS) (k18 : Int → Int → Int → AH → Option (Int × AH)) (v1 : Int) (v2 : Int) (v3 : Int) (h : AH) : Option (Int × AH) :=
  (gd (0 ≤ (w32 (v3 + 1)) ∧ (w32 (v3 + 1)) < sc.1) (sc.2 (w32 (v3 + 1)))).bind fun u1 =>
  (gd (hTy h v1 = 9) 0).bind fun _ =>
  (X_count v1 u1 h).bind fun u2 =>
  (gd (0 ≤ (w32 (v3 + 1)) ∧ (w32 (v3 + 1)) < sc.1) (sc.2 (w32 (v3 + 1)))).bind fun u3 =>
  (gd (hTy h v2 = 10) 0).bind fun _ =>
  (R_count v2 u3 h).bind fun u4 =>
  if u2 = u4.1 then
    Law_law_1500 sc k18 v1 v2 v3 u4.2
  else
    some (0, u4.2)
def Law_law_18 (sc : AS) : Nat → Int → Int → Int → AH → Option (Int × AH)
  | 0, _, _, _, _ => none
  | fu + 1, v1, v2, v3, h =>
    if (w32 (sc.1 - 6)) < v3 then
      some (1, h)
    else
      (gd (0 ≤ v3 ∧ v3 < sc.1) (sc.2 v3)).bind fun u1 =>
      if (andI u1 63) = 0 then
        Law_law_208 sc (fun a0 a1 a2 h0 => Law_law_18 sc fu a0 a1 a2 h0) v1 v2 v3 h
      else if (andI u1 63) = 1 then
        Law_law_241 sc (fun a0 a1 a2 h0 => Law_law_18 sc fu a0 a1 a2 h0) v1 v2 v3 h
      else if (andI u1 63) = 2 then
        Law_law_304 sc (fun a0 a1 a2 h0 => Law_law_18 sc fu a0 a1 a2 h0) v1 v2 v3 h
      else if (andI u1 63) = 3 then
        Law_law_327 sc (fun a0 a1 a2 h0 => Law_law_18 sc fu a0 a1 a2 h0) v1 v2 v3 h
      else if (andI u1 63) = 4 then
        Law_law_340 sc (fun a0 a1 a2 h0 => Law_law_18 sc fu a0 a1 a2 h0) v1 v2 v3 h
      else if (andI u1 63) = 5 then
        Law_law_383 sc (fun a0 a1 a2 h0 => Law_law_18 sc fu a0 a1 a2 h0) v1 v2 v3 h
      else if (andI u1 63) = 6 then
        Law_law_462 sc (fun a0 a1 a2 h0 => Law_law_18 sc fu a0 a1 a2 h0) v1 v2 v3 h
      else if (andI u1 63) = 7 then
        Law_law_521 sc (fun a0 a1 a2 h0 => Law_law_18 sc fu a0 a1 a2 h0) v1 v2 v3 h
      else if (andI u1 63) = 8 then
        Law_law_554 sc (fun a0 a1 a2 h0 => Law_law_18 sc fu a0 a1 a2 h0) v1 v2 v3 h
      else if (andI u1 63) = 9 then
        Law_law_577 sc (fun a0 a1 a2 h0 => Law_law_18 sc fu a0 a1 a2 h0) v1 v2 v3 h
      else if (andI u1 63) = 10 then
        Law_law_600 sc (fun a0 a1 a2 h0 => Law_law_18 sc fu a0 a1 a2 h0) v1 v2 v3 h
      else if (andI u1 63) = 11 then
        Law_law_613 sc (fun a0 a1 a2 h0 => Law_law_18 sc fu a0 a1 a2 h0) v1 v2 v3 h
      else if (andI u1 63) = 12 then
        Law_law_626 sc (fun a0 a1 a2 h0 => Law_law_18 sc fu a0 a1 a2 h0) v1 v2 v3 h
      else if (andI u1 63) = 13 then
        Law_law_659 sc (fun a0 a1 a2 h0 => Law_law_18 sc fu a0 a1 a2 h0) v1 v2 v3 h
      else if (andI u1 63) = 14 then
        Law_law_728 sc (fun a0 a1 a2 h0 => Law_law_18 sc fu a0 a1 a2 h0) v1 v2 v3 h
      else if (andI u1 63) = 15 then
        Law_law_742 sc (fun a0 a1 a2 h0 => Law_law_18 sc fu a0 a1 a2 h0) v1 v2 v3 h
      else if (andI u1 63) = 16 then
        Law_law_766 sc (fun a0 a1 a2 h0 => Law_law_18 sc fu a0 a1 a2 h0) v1 v2 v3 h
      else if (andI u1 63) = 17 then
        Law_law_789 sc (fun a0 a1 a2 h0 => Law_law_18 sc fu a0 a1 a2 h0) v1 v2 v3 h
      else if (andI u1 63) = 18 then
        Law_law_813 sc (fun a0 a1 a2 h0 => Law_law_18 sc fu a0 a1 a2 h0) v1 v2 v3 h
      else if (andI u1 63) = 19 then
        Law_law_836 sc (fun a0 a1 a2 h0 => Law_law_18 sc fu a0 a1 a2 h0) v1 v2 v3 h
      else if (andI u1 63) = 20 then
        Law_law_869 sc (fun a0 a1 a2 h0 => Law_law_18 sc fu a0 a1 a2 h0) v1 v2 v3 h
      else if (andI u1 63) = 21 then
        Law_law_903 sc (fun a0 a1 a2 h0 => Law_law_18 sc fu a0 a1 a2 h0) v1 v2 v3 h
      else if (andI u1 63) = 22 then
        Law_law_936 sc (fun a0 a1 a2 h0 => Law_law_18 sc fu a0 a1 a2 h0) v1 v2 v3 h
      else if (andI u1 63) = 23 then
        Law_law_959 sc (fun a0 a1 a2 h0 => Law_law_18 sc fu a0 a1 a2 h0) v1 v2 v3 h
      else if (andI u1 63) = 24 then
        Law_law_992 sc (fun a0 a1 a2 h0 => Law_law_18 sc fu a0 a1 a2 h0) v1 v2 v3 h
      else if (andI u1 63) = 25 then
        Law_law_1025 sc (fun a0 a1 a2 h0 => Law_law_18 sc fu a0 a1 a2 h0) v1 v2 v3 h
      else if (andI u1 63) = 26 then
        Law_law_1058 sc (fun a0 a1 a2 h0 => Law_law_18 sc fu a0 a1 a2 h0) v1 v2 v3 h
      else if (andI u1 63) = 27 then
        Law_law_1081 sc (fun a0 a1 a2 h0 => Law_law_18 sc fu a0 a1 a2 h0) v1 v2 v3 h
      else if (andI u1 63) = 28 then
        Law_law_1104 sc (fun a0 a1 a2 h0 => Law_law_18 sc fu a0 a1 a2 h0) v1 v2 v3 h
      else if (andI u1 63) = 29 then
        Law_law_1137 sc (fun a0 a1 a2 h0 => Law_law_18 sc fu a0 a1 a2 h0) v1 v2 v3 h
      else if (andI u1 63) = 30 then
        Law_law_1160 sc (fun a0 a1 a2 h0 => Law_law_18 sc fu a0 a1 a2 h0) v1 v2 v3 h
      else if (andI u1 63) = 31 then
        Law_law_1193 sc (fun a0 a1 a2 h0 => Law_law_18 sc fu a0 a1 a2 h0) v1 v2 v3 h
      else if (andI u1 63) = 32 then
        Law_law_1226 sc (fun a0 a1 a2 h0 => Law_law_18 sc fu a0 a1 a2 h0) v1 v2 v3 h
      else if (andI u1 63) = 33 then
        Law_law_1259 sc (fun a0 a1 a2 h0 => Law_law_18 sc fu a0 a1 a2 h0) v1 v2 v3 h
      else if (andI u1 63) = 34 then
        Law_law_1292 sc (fun a0 a1 a2 h0 => Law_law_18 sc fu a0 a1 a2 h0) v1 v2 v3 h
      else if (andI u1 63) = 35 then
        Law_law_1335 sc (fun a0 a1 a2 h0 => Law_law_18 sc fu a0 a1 a2 h0) v1 v2 v3 h
      else if (andI u1 63) = 36 then
        Law_law_1368 sc (fun a0 a1 a2 h0 => Law_law_18 sc fu a0 a1 a2 h0) v1 v2 v3 h
      else if (andI u1 63) = 37 then
        Law_law_1401 sc (fun a0 a1 a2 h0 => Law_law_18 sc fu a0 a1 a2 h0) v1 v2 v3 h
      else if (andI u1 63) = 38 then
        Law_law_1454 sc (fun a0 a1 a2 h0 => Law_law_18 sc fu a0 a1 a2 h0) v1 v2 v3 h
      else if (andI u1 63) = 39 then
        Law_law_1477 sc (fun a0 a1 a2 h0 => Law_law_18 sc fu a0 a1 a2 h0) v1 v2 v3 h
      else 
        Law_law_1500 sc (fun a0 a1 a2 h0 => Law_law_18 sc fu a0 a1 a2 h0) v1 v2 v3 h
def Law_law (sc : AS) (h : AH) : Option (Int × AH) :=
  (gd (True) (hNew h 9 6 (dfO 8))).bind fun h1 =>
  (gd (0 ≤ (hNx h)) 0).bind fun _ =>
  (X_init (hNx h) h1).bind fun h3 =>
  (gd (True) (hNew h3 10 35 (dfO 9))).bind fun h4 =>
  (gd (0 ≤ (hNx h3)) 0).bind fun _ =>
  (R_init (hNx h3) h4).bind fun h6 =>
  Law_law_18 sc FU (hNx h) (hNx h3) 0 h6
theorem y_Law_law_1500 {sc : AS} {d : Nat} (hd : 53 ≤ d) {k18 : Int → Int → Int → AH → Option (Int × AH)} (hk18 : ∀ (v1 : Int) (v2 : Int) (v3 : Int) (h : AH) (r : (Int × AH)), k18 v1 v2 v3 h = some r → Ev sc d 265 18 [(4, 1), (2, v1), (2, v2), (0, v3)] [] h (some (0, r.1)) r.2) : ∀ (v1 : Int) (v2 : Int) (v3 : Int) (h : AH) (r : (Int × AH)), Law_law_1500 sc k18 v1 v2 v3 h = some r → Ev sc d 265 1500 [(4, 1), (2, v1), (2, v2), (0, v3)] [] h (some (0, r.1)) r.2 := by
  intro v1 v2 v3 h r hx
  unfold Law_law_1500 at hx
  refine Ev.blk (is := [.iinc 3 6]) (pc2 := 1503) (L2 := [(4, 1), (2, v1), (2, v2), (0, w32 (v3 + 6))]) (S2 := []) (h2 := h) (by decide +kernel) rfl trivial ?_
  refine Ev.jp (i := .goto (-1485)) (len := 3) (pc2 := 18) (by decide +kernel) rfl ?_
  exact hk18 v1 v2 (w32 (v3 + 6)) h _ hx
theorem y_Law_law_208 {sc : AS} {d : Nat} (hd : 53 ≤ d) {k18 : Int → Int → Int → AH → Option (Int × AH)} (hk18 : ∀ (v1 : Int) (v2 : Int) (v3 : Int) (h : AH) (r : (Int × AH)), k18 v1 v2 v3 h = some r → Ev sc d 265 18 [(4, 1), (2, v1), (2, v2), (0, v3)] [] h (some (0, r.1)) r.2) : ∀ (v1 : Int) (v2 : Int) (v3 : Int) (h : AH) (r : (Int × AH)), Law_law_208 sc k18 v1 v2 v3 h = some r → Ev sc d 265 208 [(4, 1), (2, v1), (2, v2), (0, v3)] [] h (some (0, r.1)) r.2 := by
  intro v1 v2 v3 h r hx
  unfold Law_law_208 at hx
  obtain ⟨u1, hg, he, hx⟩ := bgd hx
  refine Ev.blk (is := [.aload_n 1, .aload_n 0, .iload_n 3, .iconst 1, .iadd, .iaload]) (pc2 := 214) (L2 := [(4, 1), (2, v1), (2, v2), (0, v3)]) (S2 := [(0, u1), (2, v1)]) (h2 := h) (by decide +kernel) (by subst he; rfl) (by exact hg) ?_
  clear hg he
  obtain ⟨u2, hg, he, hx⟩ := bgd hx
  refine Ev.blk (is := [.aload_n 0, .iload_n 3, .iconst 2, .iadd, .iaload]) (pc2 := 219) (L2 := [(4, 1), (2, v1), (2, v2), (0, v3)]) (S2 := [(0, u2), (0, u1), (2, v1)]) (h2 := h) (by decide +kernel) (by subst he; rfl) (by exact hg) ?_
  clear hg he
  obtain ⟨_, hg, -, hx⟩ := bgd hx
  obtain ⟨u3, hc, hx⟩ := bca hx
  refine Ev.call (args := [(2, v1), (0, u1), (0, u2)]) (S2 := []) (r1 := (some (0, u3.1))) (h1 := u3.2) (i := .invokevirtual 9) (by decide +kernel) rfl rfl (Nat.le_of_ble_eq_true rfl) (Or.inr (Or.inl ⟨rfl, hg, by decide +kernel⟩)) (x_X_find (by omega) hc) ?_
  obtain ⟨u4, hg, he, hx⟩ := bgd hx
  refine Ev.blk (is := [.aload_n 2, .aload_n 0, .iload_n 3, .iconst 1, .iadd, .iaload]) (pc2 := 228) (L2 := [(4, 1), (2, v1), (2, v2), (0, v3)]) (S2 := [(0, u4), (2, v2), (0, u3.1)]) (h2 := u3.2) (by decide +kernel) (by subst he; rfl) (by exact hg) ?_
  clear hg he
  obtain ⟨u5, hg, he, hx⟩ := bgd hx
  refine Ev.blk (is := [.aload_n 0, .iload_n 3, .iconst 2, .iadd, .iaload]) (pc2 := 233) (L2 := [(4, 1), (2, v1), (2, v2), (0, v3)]) (S2 := [(0, u5), (0, u4), (2, v2), (0, u3.1)]) (h2 := u3.2) (by decide +kernel) (by subst he; rfl) (by exact hg) ?_
  clear hg he
  obtain ⟨_, hg, -, hx⟩ := bgd hx
  obtain ⟨u6, hc, hx⟩ := bca hx
  refine Ev.call (args := [(2, v2), (0, u4), (0, u5)]) (S2 := [(0, u3.1)]) (r1 := (some (0, u6.1))) (h1 := u6.2) (i := .invokevirtual 161) (by decide +kernel) rfl rfl (Nat.le_of_ble_eq_true rfl) (Or.inr (Or.inl ⟨rfl, hg, by decide +kernel⟩)) (x_R_find (by omega) hc) ?_
  obtain ⟨ha, hb⟩ := bite hx
  clear hx
  refine Ev.br (i := .if_icmp .eq 1264) (len := 3) (a := 1500) (b := 239) (by decide +kernel) rfl Iff.rfl (fun hc => ?_) (fun hc => ?_)
  · have hx := ha hc
    clear ha hb hc
    exact y_Law_law_1500 hd hk18 v1 v2 v3 u6.2 _ hx
  · have hx := hb hc
    clear ha hb hc
    refine Ev.blk (is := [.iconst 0]) (pc2 := 240) (L2 := [(4, 1), (2, v1), (2, v2), (0, v3)]) (S2 := [(0, 0)]) (h2 := u6.2) (by decide +kernel) rfl trivial ?_
    cases hx
    exact Ev.ret (i := .ireturn) (len := 1) (by decide +kernel) rfl (finOf (t := some .boolean) rfl (bz0))
theorem y_Law_law_241 {sc : AS} {d : Nat} (hd : 53 ≤ d) {k18 : Int → Int → Int → AH → Option (Int × AH)} (hk18 : ∀ (v1 : Int) (v2 : Int) (v3 : Int) (h : AH) (r : (Int × AH)), k18 v1 v2 v3 h = some r → Ev sc d 265 18 [(4, 1), (2, v1), (2, v2), (0, v3)] [] h (some (0, r.1)) r.2) : ∀ (v1 : Int) (v2 : Int) (v3 : Int) (h : AH) (r : (Int × AH)), Law_law_241 sc k18 v1 v2 v3 h = some r → Ev sc d 265 241 [(4, 1), (2, v1), (2, v2), (0, v3)] [] h (some (0, r.1)) r.2 := by
  intro v1 v2 v3 h r hx
  unfold Law_law_241 at hx
  obtain ⟨u1, hg, he, hx⟩ := bgd hx
  refine Ev.blk (is := [.aload_n 1, .aload_n 0, .iload_n 3, .iconst 1, .iadd, .iaload]) (pc2 := 247) (L2 := [(4, 1), (2, v1), (2, v2), (0, v3)]) (S2 := [(0, u1), (2, v1)]) (h2 := h) (by decide +kernel) (by subst he; rfl) (by exact hg) ?_
  clear hg he
  obtain ⟨u2, hg, he, hx⟩ := bgd hx
  refine Ev.blk (is := [.aload_n 0, .iload_n 3, .iconst 2, .iadd, .iaload]) (pc2 := 252) (L2 := [(4, 1), (2, v1), (2, v2), (0, v3)]) (S2 := [(0, u2), (0, u1), (2, v1)]) (h2 := h) (by decide +kernel) (by subst he; rfl) (by exact hg) ?_
  clear hg he
  obtain ⟨u3, hg, he, hx⟩ := bgd hx
  refine Ev.blk (is := [.aload_n 0, .iload_n 3, .iconst 3, .iadd, .iaload]) (pc2 := 257) (L2 := [(4, 1), (2, v1), (2, v2), (0, v3)]) (S2 := [(0, u3), (0, u2), (0, u1), (2, v1)]) (h2 := h) (by decide +kernel) (by subst he; rfl) (by exact hg) ?_
  clear hg he
  obtain ⟨u4, hg, he, hx⟩ := bgd hx
  refine Ev.blk (is := [.aload_n 0, .iload_n 3, .iconst 4, .iadd, .iaload]) (pc2 := 262) (L2 := [(4, 1), (2, v1), (2, v2), (0, v3)]) (S2 := [(0, u4), (0, u3), (0, u2), (0, u1), (2, v1)]) (h2 := h) (by decide +kernel) (by subst he; rfl) (by exact hg) ?_
  clear hg he
  obtain ⟨u5, hg, he, hx⟩ := bgd hx
  refine Ev.blk (is := [.aload_n 0, .iload_n 3, .iconst 5, .iadd, .iaload]) (pc2 := 267) (L2 := [(4, 1), (2, v1), (2, v2), (0, v3)]) (S2 := [(0, u5), (0, u4), (0, u3), (0, u2), (0, u1), (2, v1)]) (h2 := h) (by decide +kernel) (by subst he; rfl) (by exact hg) ?_
  clear hg he
  obtain ⟨_, hg, -, hx⟩ := bgd hx
  obtain ⟨u6, hc, hx⟩ := bca hx
  refine Ev.call (args := [(2, v1), (0, u1), (0, u2), (0, u3), (0, u4), (0, u5)]) (S2 := []) (r1 := (some (0, u6.1))) (h1 := u6.2) (i := .invokevirtual 62) (by decide +kernel) rfl rfl (Nat.le_of_ble_eq_true rfl) (Or.inr (Or.inl ⟨rfl, hg, by decide +kernel⟩)) (x_X_feed (by omega) hc) ?_
  obtain ⟨u7, hg, he, hx⟩ := bgd hx
  refine Ev.blk (is := [.aload_n 2, .aload_n 0, .iload_n 3, .iconst 1, .iadd, .iaload]) (pc2 := 276) (L2 := [(4, 1), (2, v1), (2, v2), (0, v3)]) (S2 := [(0, u7), (2, v2), (0, u6.1)]) (h2 := u6.2) (by decide +kernel) (by subst he; rfl) (by exact hg) ?_
  clear hg he
  obtain ⟨u8, hg, he, hx⟩ := bgd hx
  refine Ev.blk (is := [.aload_n 0, .iload_n 3, .iconst 2, .iadd, .iaload]) (pc2 := 281) (L2 := [(4, 1), (2, v1), (2, v2), (0, v3)]) (S2 := [(0, u8), (0, u7), (2, v2), (0, u6.1)]) (h2 := u6.2) (by decide +kernel) (by subst he; rfl) (by exact hg) ?_
  clear hg he
  obtain ⟨u9, hg, he, hx⟩ := bgd hx
  refine Ev.blk (is := [.aload_n 0, .iload_n 3, .iconst 3, .iadd, .iaload]) (pc2 := 286) (L2 := [(4, 1), (2, v1), (2, v2), (0, v3)]) (S2 := [(0, u9), (0, u8), (0, u7), (2, v2), (0, u6.1)]) (h2 := u6.2) (by decide +kernel) (by subst he; rfl) (by exact hg) ?_
  clear hg he
  obtain ⟨u10, hg, he, hx⟩ := bgd hx
  refine Ev.blk (is := [.aload_n 0, .iload_n 3, .iconst 4, .iadd, .iaload]) (pc2 := 291) (L2 := [(4, 1), (2, v1), (2, v2), (0, v3)]) (S2 := [(0, u10), (0, u9), (0, u8), (0, u7), (2, v2), (0, u6.1)]) (h2 := u6.2) (by decide +kernel) (by subst he; rfl) (by exact hg) ?_
  clear hg he
  obtain ⟨u11, hg, he, hx⟩ := bgd hx
  refine Ev.blk (is := [.aload_n 0, .iload_n 3, .iconst 5, .iadd, .iaload]) (pc2 := 296) (L2 := [(4, 1), (2, v1), (2, v2), (0, v3)]) (S2 := [(0, u11), (0, u10), (0, u9), (0, u8), (0, u7), (2, v2), (0, u6.1)]) (h2 := u6.2) (by decide +kernel) (by subst he; rfl) (by exact hg) ?_
  clear hg he
  obtain ⟨_, hg, -, hx⟩ := bgd hx
  obtain ⟨u12, hc, hx⟩ := bca hx
  refine Ev.call (args := [(2, v2), (0, u7), (0, u8), (0, u9), (0, u10), (0, u11)]) (S2 := [(0, u6.1)]) (r1 := (some (0, u12.1))) (h1 := u12.2) (i := .invokevirtual 201) (by decide +kernel) rfl rfl (Nat.le_of_ble_eq_true rfl) (Or.inr (Or.inl ⟨rfl, hg, by decide +kernel⟩)) (x_R_feed (by omega) hc) ?_
  obtain ⟨ha, hb⟩ := bite hx
  clear hx
  refine Ev.br (i := .if_icmp .eq 1201) (len := 3) (a := 1500) (b := 302) (by decide +kernel) rfl Iff.rfl (fun hc => ?_) (fun hc => ?_)
  · have hx := ha hc
    clear ha hb hc
    exact y_Law_law_1500 hd hk18 v1 v2 v3 u12.2 _ hx
  · have hx := hb hc
    clear ha hb hc
    refine Ev.blk (is := [.iconst 0]) (pc2 := 303) (L2 := [(4, 1), (2, v1), (2, v2), (0, v3)]) (S2 := [(0, 0)]) (h2 := u12.2) (by decide +kernel) rfl trivial ?_
    cases hx
    exact Ev.ret (i := .ireturn) (len := 1) (by decide +kernel) rfl (finOf (t := some .boolean) rfl (bz0))
theorem y_Law_law_304 {sc : AS} {d : Nat} (hd : 53 ≤ d) {k18 : Int → Int → Int → AH → Option (Int × AH)} (hk18 : ∀ (v1 : Int) (v2 : Int) (v3 : Int) (h : AH) (r : (Int × AH)), k18 v1 v2 v3 h = some r → Ev sc d 265 18 [(4, 1), (2, v1), (2, v2), (0, v3)] [] h (some (0, r.1)) r.2) : ∀ (v1 : Int) (v2 : Int) (v3 : Int) (h : AH) (r : (Int × AH)), Law_law_304 sc k18 v1 v2 v3 h = some r → Ev sc d 265 304 [(4, 1), (2, v1), (2, v2), (0, v3)] [] h (some (0, r.1)) r.2 := by
  intro v1 v2 v3 h r hx
  unfold Law_law_304 at hx
  obtain ⟨u1, hg, he, hx⟩ := bgd hx
  refine Ev.blk (is := [.aload_n 1, .aload_n 0, .iload_n 3, .iconst 1, .iadd, .iaload]) (pc2 := 310) (L2 := [(4, 1), (2, v1), (2, v2), (0, v3)]) (S2 := [(0, u1), (2, v1)]) (h2 := h) (by decide +kernel) (by subst he; rfl) (by exact hg) ?_
  clear hg he
  obtain ⟨_, hg, -, hx⟩ := bgd hx
  obtain ⟨u2, hc, hx⟩ := bca hx
  refine Ev.call (args := [(2, v1), (0, u1)]) (S2 := []) (r1 := (some (0, u2.1))) (h1 := u2.2) (i := .invokevirtual 65) (by decide +kernel) rfl rfl (Nat.le_of_ble_eq_true rfl) (Or.inr (Or.inl ⟨rfl, hg, by decide +kernel⟩)) (x_X_back (by omega) hc) ?_
  obtain ⟨u3, hg, he, hx⟩ := bgd hx
  refine Ev.blk (is := [.aload_n 2, .aload_n 0, .iload_n 3, .iconst 1, .iadd, .iaload]) (pc2 := 319) (L2 := [(4, 1), (2, v1), (2, v2), (0, v3)]) (S2 := [(0, u3), (2, v2), (0, u2.1)]) (h2 := u2.2) (by decide +kernel) (by subst he; rfl) (by exact hg) ?_
  clear hg he
  obtain ⟨_, hg, -, hx⟩ := bgd hx
  obtain ⟨u4, hc, hx⟩ := bca hx
  refine Ev.call (args := [(2, v2), (0, u3)]) (S2 := [(0, u2.1)]) (r1 := (some (0, u4.1))) (h1 := u4.2) (i := .invokevirtual 202) (by decide +kernel) rfl rfl (Nat.le_of_ble_eq_true rfl) (Or.inr (Or.inl ⟨rfl, hg, by decide +kernel⟩)) (x_R_back (by omega) hc) ?_
  obtain ⟨ha, hb⟩ := bite hx
  clear hx
  refine Ev.br (i := .if_icmp .eq 1178) (len := 3) (a := 1500) (b := 325) (by decide +kernel) rfl Iff.rfl (fun hc => ?_) (fun hc => ?_)
  · have hx := ha hc
    clear ha hb hc
    exact y_Law_law_1500 hd hk18 v1 v2 v3 u4.2 _ hx
  · have hx := hb hc
    clear ha hb hc
    refine Ev.blk (is := [.iconst 0]) (pc2 := 326) (L2 := [(4, 1), (2, v1), (2, v2), (0, v3)]) (S2 := [(0, 0)]) (h2 := u4.2) (by decide +kernel) rfl trivial ?_
    cases hx
    exact Ev.ret (i := .ireturn) (len := 1) (by decide +kernel) rfl (finOf (t := some .boolean) rfl (bz0))
theorem y_Law_law_327 {sc : AS} {d : Nat} (hd : 53 ≤ d) {k18 : Int → Int → Int → AH → Option (Int × AH)} (hk18 : ∀ (v1 : Int) (v2 : Int) (v3 : Int) (h : AH) (r : (Int × AH)), k18 v1 v2 v3 h = some r → Ev sc d 265 18 [(4, 1), (2, v1), (2, v2), (0, v3)] [] h (some (0, r.1)) r.2) : ∀ (v1 : Int) (v2 : Int) (v3 : Int) (h : AH) (r : (Int × AH)), Law_law_327 sc k18 v1 v2 v3 h = some r → Ev sc d 265 327 [(4, 1), (2, v1), (2, v2), (0, v3)] [] h (some (0, r.1)) r.2 := by
  intro v1 v2 v3 h r hx
  unfold Law_law_327 at hx
  refine Ev.blk (is := [.aload_n 1]) (pc2 := 328) (L2 := [(4, 1), (2, v1), (2, v2), (0, v3)]) (S2 := [(2, v1)]) (h2 := h) (by decide +kernel) rfl trivial ?_
  obtain ⟨_, hg, -, hx⟩ := bgd hx
  obtain ⟨u1, hc, hx⟩ := bca hx
  refine Ev.call (args := [(2, v1)]) (S2 := []) (r1 := (some (0, u1.1))) (h1 := u1.2) (i := .invokevirtual 66) (by decide +kernel) rfl rfl (Nat.le_of_ble_eq_true rfl) (Or.inr (Or.inl ⟨rfl, hg, by decide +kernel⟩)) (x_X_read (by omega) hc) ?_
  refine Ev.blk (is := [.aload_n 2]) (pc2 := 332) (L2 := [(4, 1), (2, v1), (2, v2), (0, v3)]) (S2 := [(2, v2), (0, u1.1)]) (h2 := u1.2) (by decide +kernel) rfl trivial ?_
  obtain ⟨_, hg, -, hx⟩ := bgd hx
  obtain ⟨u2, hc, hx⟩ := bca hx
  refine Ev.call (args := [(2, v2)]) (S2 := [(0, u1.1)]) (r1 := (some (0, u2.1))) (h1 := u2.2) (i := .invokevirtual 203) (by decide +kernel) rfl rfl (Nat.le_of_ble_eq_true rfl) (Or.inr (Or.inl ⟨rfl, hg, by decide +kernel⟩)) (x_R_read (by omega) hc) ?_
  obtain ⟨ha, hb⟩ := bite hx
  clear hx
  refine Ev.br (i := .if_icmp .eq 1165) (len := 3) (a := 1500) (b := 338) (by decide +kernel) rfl Iff.rfl (fun hc => ?_) (fun hc => ?_)
  · have hx := ha hc
    clear ha hb hc
    exact y_Law_law_1500 hd hk18 v1 v2 v3 u2.2 _ hx
  · have hx := hb hc
    clear ha hb hc
    refine Ev.blk (is := [.iconst 0]) (pc2 := 339) (L2 := [(4, 1), (2, v1), (2, v2), (0, v3)]) (S2 := [(0, 0)]) (h2 := u2.2) (by decide +kernel) rfl trivial ?_
    cases hx
    exact Ev.ret (i := .ireturn) (len := 1) (by decide +kernel) rfl (finOf (t := some .boolean) rfl (bz0))
theorem y_Law_law_340 {sc : AS} {d : Nat} (hd : 53 ≤ d) {k18 : Int → Int → Int → AH → Option (Int × AH)} (hk18 : ∀ (v1 : Int) (v2 : Int) (v3 : Int) (h : AH) (r : (Int × AH)), k18 v1 v2 v3 h = some r → Ev sc d 265 18 [(4, 1), (2, v1), (2, v2), (0, v3)] [] h (some (0, r.1)) r.2) : ∀ (v1 : Int) (v2 : Int) (v3 : Int) (h : AH) (r : (Int × AH)), Law_law_340 sc k18 v1 v2 v3 h = some r → Ev sc d 265 340 [(4, 1), (2, v1), (2, v2), (0, v3)] [] h (some (0, r.1)) r.2 := by
  intro v1 v2 v3 h r hx
  unfold Law_law_340 at hx
  obtain ⟨u1, hg, he, hx⟩ := bgd hx
  refine Ev.blk (is := [.aload_n 1, .aload_n 0, .iload_n 3, .iconst 1, .iadd, .iaload]) (pc2 := 346) (L2 := [(4, 1), (2, v1), (2, v2), (0, v3)]) (S2 := [(0, u1), (2, v1)]) (h2 := h) (by decide +kernel) (by subst he; rfl) (by exact hg) ?_
  clear hg he
  obtain ⟨u2, hg, he, hx⟩ := bgd hx
  refine Ev.blk (is := [.aload_n 0, .iload_n 3, .iconst 2, .iadd, .iaload]) (pc2 := 351) (L2 := [(4, 1), (2, v1), (2, v2), (0, v3)]) (S2 := [(0, u2), (0, u1), (2, v1)]) (h2 := h) (by decide +kernel) (by subst he; rfl) (by exact hg) ?_
  clear hg he
  obtain ⟨u3, hg, he, hx⟩ := bgd hx
  refine Ev.blk (is := [.aload_n 0, .iload_n 3, .iconst 3, .iadd, .iaload]) (pc2 := 356) (L2 := [(4, 1), (2, v1), (2, v2), (0, v3)]) (S2 := [(0, u3), (0, u2), (0, u1), (2, v1)]) (h2 := h) (by decide +kernel) (by subst he; rfl) (by exact hg) ?_
  clear hg he
  obtain ⟨_, hg, -, hx⟩ := bgd hx
  obtain ⟨u4, hc, hx⟩ := bca hx
  refine Ev.call (args := [(2, v1), (0, u1), (0, u2), (0, u3)]) (S2 := []) (r1 := (some (0, u4.1))) (h1 := u4.2) (i := .invokevirtual 93) (by decide +kernel) rfl rfl (Nat.le_of_ble_eq_true rfl) (Or.inr (Or.inl ⟨rfl, hg, by decide +kernel⟩)) (x_X_set (by omega) hc) ?_
  obtain ⟨u5, hg, he, hx⟩ := bgd hx
  refine Ev.blk (is := [.aload_n 2, .aload_n 0, .iload_n 3, .iconst 1, .iadd, .iaload]) (pc2 := 365) (L2 := [(4, 1), (2, v1), (2, v2), (0, v3)]) (S2 := [(0, u5), (2, v2), (0, u4.1)]) (h2 := u4.2) (by decide +kernel) (by subst he; rfl) (by exact hg) ?_
  clear hg he
  obtain ⟨u6, hg, he, hx⟩ := bgd hx
  refine Ev.blk (is := [.aload_n 0, .iload_n 3, .iconst 2, .iadd, .iaload]) (pc2 := 370) (L2 := [(4, 1), (2, v1), (2, v2), (0, v3)]) (S2 := [(0, u6), (0, u5), (2, v2), (0, u4.1)]) (h2 := u4.2) (by decide +kernel) (by subst he; rfl) (by exact hg) ?_
  clear hg he
  obtain ⟨u7, hg, he, hx⟩ := bgd hx
  refine Ev.blk (is := [.aload_n 0, .iload_n 3, .iconst 3, .iadd, .iaload]) (pc2 := 375) (L2 := [(4, 1), (2, v1), (2, v2), (0, v3)]) (S2 := [(0, u7), (0, u6), (0, u5), (2, v2), (0, u4.1)]) (h2 := u4.2) (by decide +kernel) (by subst he; rfl) (by exact hg) ?_
  clear hg he
  obtain ⟨_, hg, -, hx⟩ := bgd hx
  obtain ⟨u8, hc, hx⟩ := bca hx
  refine Ev.call (args := [(2, v2), (0, u5), (0, u6), (0, u7)]) (S2 := [(0, u4.1)]) (r1 := (some (0, u8.1))) (h1 := u8.2) (i := .invokevirtual 221) (by decide +kernel) rfl rfl (Nat.le_of_ble_eq_true rfl) (Or.inr (Or.inl ⟨rfl, hg, by decide +kernel⟩)) (x_R_set (by omega) hc) ?_
  obtain ⟨ha, hb⟩ := bite hx
  clear hx
  refine Ev.br (i := .if_icmp .eq 1122) (len := 3) (a := 1500) (b := 381) (by decide +kernel) rfl Iff.rfl (fun hc => ?_) (fun hc => ?_)
  · have hx := ha hc
    clear ha hb hc
    exact y_Law_law_1500 hd hk18 v1 v2 v3 u8.2 _ hx
  · have hx := hb hc
    clear ha hb hc
    refine Ev.blk (is := [.iconst 0]) (pc2 := 382) (L2 := [(4, 1), (2, v1), (2, v2), (0, v3)]) (S2 := [(0, 0)]) (h2 := u8.2) (by decide +kernel) rfl trivial ?_
    cases hx
    exact Ev.ret (i := .ireturn) (len := 1) (by decide +kernel) rfl (finOf (t := some .boolean) rfl (bz0))
theorem y_Law_law_439 {sc : AS} {d : Nat} (hd : 53 ≤ d) {k18 : Int → Int → Int → AH → Option (Int × AH)} (hk18 : ∀ (v1 : Int) (v2 : Int) (v3 : Int) (h : AH) (r : (Int × AH)), k18 v1 v2 v3 h = some r → Ev sc d 265 18 [(4, 1), (2, v1), (2, v2), (0, v3)] [] h (some (0, r.1)) r.2) : ∀ (v1 : Int) (v2 : Int) (v3 : Int) (s0 : Int) (s1 : Int) (s2 : Int) (s3 : Int) (h : AH) (r : (Int × AH)), Law_law_439 sc k18 v1 v2 v3 s0 s1 s2 s3 h = some r → Ev sc d 265 439 [(4, 1), (2, v1), (2, v2), (0, v3)] [(0, s0), (0, s1), (2, s2), (0, s3)] h (some (0, r.1)) r.2 := by
  intro v1 v2 v3 s0 s1 s2 s3 h r hx
  unfold Law_law_439 at hx
  obtain ⟨u1, hg, he, hx⟩ := bgd hx
  refine Ev.blk (is := [.aload_n 0, .iload_n 3, .iconst 3, .iadd, .iaload]) (pc2 := 444) (L2 := [(4, 1), (2, v1), (2, v2), (0, v3)]) (S2 := [(0, u1), (0, s0), (0, s1), (2, s2), (0, s3)]) (h2 := h) (by decide +kernel) (by subst he; rfl) (by exact hg) ?_
  clear hg he
  obtain ⟨u2, hg, he, hx⟩ := bgd hx
  refine Ev.blk (is := [.aload_n 0, .iload_n 3, .iconst 4, .iadd, .iaload]) (pc2 := 449) (L2 := [(4, 1), (2, v1), (2, v2), (0, v3)]) (S2 := [(0, u2), (0, u1), (0, s0), (0, s1), (2, s2), (0, s3)]) (h2 := h) (by decide +kernel) (by subst he; rfl) (by exact hg) ?_
  clear hg he
  obtain ⟨u3, hg, he, hx⟩ := bgd hx
  refine Ev.blk (is := [.aload_n 0, .iload_n 3, .iconst 5, .iadd, .iaload]) (pc2 := 454) (L2 := [(4, 1), (2, v1), (2, v2), (0, v3)]) (S2 := [(0, u3), (0, u2), (0, u1), (0, s0), (0, s1), (2, s2), (0, s3)]) (h2 := h) (by decide +kernel) (by subst he; rfl) (by exact hg) ?_
  clear hg he
  obtain ⟨_, hg, -, hx⟩ := bgd hx
  obtain ⟨u4, hc, hx⟩ := bca hx
  refine Ev.call (args := [(2, s2), (0, s1), (0, s0), (0, u1), (0, u2), (0, u3)]) (S2 := [(0, s3)]) (r1 := (some (0, u4.1))) (h1 := u4.2) (i := .invokevirtual 222) (by decide +kernel) rfl rfl (Nat.le_of_ble_eq_true rfl) (Or.inr (Or.inl ⟨rfl, hg, by decide +kernel⟩)) (x_R_alter (by omega) hc) ?_
  obtain ⟨ha, hb⟩ := bite hx
  clear hx
  refine Ev.br (i := .if_icmp .eq 1043) (len := 3) (a := 1500) (b := 460) (by decide +kernel) rfl Iff.rfl (fun hc => ?_) (fun hc => ?_)
  · have hx := ha hc
    clear ha hb hc
    exact y_Law_law_1500 hd hk18 v1 v2 v3 u4.2 _ hx
  · have hx := hb hc
    clear ha hb hc
    refine Ev.blk (is := [.iconst 0]) (pc2 := 461) (L2 := [(4, 1), (2, v1), (2, v2), (0, v3)]) (S2 := [(0, 0)]) (h2 := u4.2) (by decide +kernel) rfl trivial ?_
    cases hx
    exact Ev.ret (i := .ireturn) (len := 1) (by decide +kernel) rfl (finOf (t := some .boolean) rfl (bz0))
theorem y_Law_law_402 {sc : AS} {d : Nat} (hd : 53 ≤ d) {k18 : Int → Int → Int → AH → Option (Int × AH)} (hk18 : ∀ (v1 : Int) (v2 : Int) (v3 : Int) (h : AH) (r : (Int × AH)), k18 v1 v2 v3 h = some r → Ev sc d 265 18 [(4, 1), (2, v1), (2, v2), (0, v3)] [] h (some (0, r.1)) r.2) : ∀ (v1 : Int) (v2 : Int) (v3 : Int) (s0 : Int) (s1 : Int) (s2 : Int) (h : AH) (r : (Int × AH)), Law_law_402 sc k18 v1 v2 v3 s0 s1 s2 h = some r → Ev sc d 265 402 [(4, 1), (2, v1), (2, v2), (0, v3)] [(0, s0), (0, s1), (2, s2)] h (some (0, r.1)) r.2 := by
  intro v1 v2 v3 s0 s1 s2 h r hx
  unfold Law_law_402 at hx
  obtain ⟨u1, hg, he, hx⟩ := bgd hx
  refine Ev.blk (is := [.aload_n 0, .iload_n 3, .iconst 3, .iadd, .iaload]) (pc2 := 407) (L2 := [(4, 1), (2, v1), (2, v2), (0, v3)]) (S2 := [(0, u1), (0, s0), (0, s1), (2, s2)]) (h2 := h) (by decide +kernel) (by subst he; rfl) (by exact hg) ?_
  clear hg he
  obtain ⟨u2, hg, he, hx⟩ := bgd hx
  refine Ev.blk (is := [.aload_n 0, .iload_n 3, .iconst 4, .iadd, .iaload]) (pc2 := 412) (L2 := [(4, 1), (2, v1), (2, v2), (0, v3)]) (S2 := [(0, u2), (0, u1), (0, s0), (0, s1), (2, s2)]) (h2 := h) (by decide +kernel) (by subst he; rfl) (by exact hg) ?_
  clear hg he
  obtain ⟨u3, hg, he, hx⟩ := bgd hx
  refine Ev.blk (is := [.aload_n 0, .iload_n 3, .iconst 5, .iadd, .iaload]) (pc2 := 417) (L2 := [(4, 1), (2, v1), (2, v2), (0, v3)]) (S2 := [(0, u3), (0, u2), (0, u1), (0, s0), (0, s1), (2, s2)]) (h2 := h) (by decide +kernel) (by subst he; rfl) (by exact hg) ?_
  clear hg he
  obtain ⟨_, hg, -, hx⟩ := bgd hx
  obtain ⟨u4, hc, hx⟩ := bca hx
  refine Ev.call (args := [(2, s2), (0, s1), (0, s0), (0, u1), (0, u2), (0, u3)]) (S2 := []) (r1 := (some (0, u4.1))) (h1 := u4.2) (i := .invokevirtual 95) (by decide +kernel) rfl rfl (Nat.le_of_ble_eq_true rfl) (Or.inr (Or.inl ⟨rfl, hg, by decide +kernel⟩)) (x_X_alter (by omega) hc) ?_
  obtain ⟨u5, hg, he, hx⟩ := bgd hx
  refine Ev.blk (is := [.aload_n 2, .aload_n 0, .iload_n 3, .iconst 1, .iadd, .iaload]) (pc2 := 426) (L2 := [(4, 1), (2, v1), (2, v2), (0, v3)]) (S2 := [(0, u5), (2, v2), (0, u4.1)]) (h2 := u4.2) (by decide +kernel) (by subst he; rfl) (by exact hg) ?_
  clear hg he
  obtain ⟨u6, hg, he, hx⟩ := bgd hx
  refine Ev.blk (is := [.aload_n 0, .iload_n 3, .iconst 2, .iadd, .iaload]) (pc2 := 431) (L2 := [(4, 1), (2, v1), (2, v2), (0, v3)]) (S2 := [(0, u6), (0, u5), (2, v2), (0, u4.1)]) (h2 := u4.2) (by decide +kernel) (by subst he; rfl) (by exact hg) ?_
  clear hg he
  obtain ⟨ha, hb⟩ := bite hx
  clear hx
  refine Ev.br (i := .ifCond .eq 7) (len := 3) (a := 438) (b := 434) (by decide +kernel) rfl Iff.rfl (fun hc => ?_) (fun hc => ?_)
  · have hx := ha hc
    clear ha hb hc
    refine Ev.blk (is := [.iconst 0]) (pc2 := 439) (L2 := [(4, 1), (2, v1), (2, v2), (0, v3)]) (S2 := [(0, 0), (0, u5), (2, v2), (0, u4.1)]) (h2 := u4.2) (by decide +kernel) rfl trivial ?_
    exact y_Law_law_439 hd hk18 v1 v2 v3 0 u5 v2 u4.1 u4.2 _ hx
  · have hx := hb hc
    clear ha hb hc
    refine Ev.blk (is := [.iconst 1]) (pc2 := 435) (L2 := [(4, 1), (2, v1), (2, v2), (0, v3)]) (S2 := [(0, 1), (0, u5), (2, v2), (0, u4.1)]) (h2 := u4.2) (by decide +kernel) rfl trivial ?_
    refine Ev.jp (i := .goto 4) (len := 3) (pc2 := 439) (by decide +kernel) rfl ?_
    exact y_Law_law_439 hd hk18 v1 v2 v3 1 u5 v2 u4.1 u4.2 _ hx
theorem y_Law_law_383 {sc : AS} {d : Nat} (hd : 53 ≤ d) {k18 : Int → Int → Int → AH → Option (Int × AH)} (hk18 : ∀ (v1 : Int) (v2 : Int) (v3 : Int) (h : AH) (r : (Int × AH)), k18 v1 v2 v3 h = some r → Ev sc d 265 18 [(4, 1), (2, v1), (2, v2), (0, v3)] [] h (some (0, r.1)) r.2) : ∀ (v1 : Int) (v2 : Int) (v3 : Int) (h : AH) (r : (Int × AH)), Law_law_383 sc k18 v1 v2 v3 h = some r → Ev sc d 265 383 [(4, 1), (2, v1), (2, v2), (0, v3)] [] h (some (0, r.1)) r.2 := by
  intro v1 v2 v3 h r hx
  unfold Law_law_383 at hx
  obtain ⟨u1, hg, he, hx⟩ := bgd hx
  refine Ev.blk (is := [.aload_n 1, .aload_n 0, .iload_n 3, .iconst 1, .iadd, .iaload]) (pc2 := 389) (L2 := [(4, 1), (2, v1), (2, v2), (0, v3)]) (S2 := [(0, u1), (2, v1)]) (h2 := h) (by decide +kernel) (by subst he; rfl) (by exact hg) ?_
  clear hg he
  obtain ⟨u2, hg, he, hx⟩ := bgd hx
  refine Ev.blk (is := [.aload_n 0, .iload_n 3, .iconst 2, .iadd, .iaload]) (pc2 := 394) (L2 := [(4, 1), (2, v1), (2, v2), (0, v3)]) (S2 := [(0, u2), (0, u1), (2, v1)]) (h2 := h) (by decide +kernel) (by subst he; rfl) (by exact hg) ?_
  clear hg he
  obtain ⟨ha, hb⟩ := bite hx
  clear hx
  refine Ev.br (i := .ifCond .eq 7) (len := 3) (a := 401) (b := 397) (by decide +kernel) rfl Iff.rfl (fun hc => ?_) (fun hc => ?_)
  · have hx := ha hc
    clear ha hb hc
    refine Ev.blk (is := [.iconst 0]) (pc2 := 402) (L2 := [(4, 1), (2, v1), (2, v2), (0, v3)]) (S2 := [(0, 0), (0, u1), (2, v1)]) (h2 := h) (by decide +kernel) rfl trivial ?_
    exact y_Law_law_402 hd hk18 v1 v2 v3 0 u1 v1 h _ hx
  · have hx := hb hc
    clear ha hb hc
    refine Ev.blk (is := [.iconst 1]) (pc2 := 398) (L2 := [(4, 1), (2, v1), (2, v2), (0, v3)]) (S2 := [(0, 1), (0, u1), (2, v1)]) (h2 := h) (by decide +kernel) rfl trivial ?_
    refine Ev.jp (i := .goto 4) (len := 3) (pc2 := 402) (by decide +kernel) rfl ?_
    exact y_Law_law_402 hd hk18 v1 v2 v3 1 u1 v1 h _ hx
theorem y_Law_law_508 {sc : AS} {d : Nat} (hd : 53 ≤ d) {k18 : Int → Int → Int → AH → Option (Int × AH)} (hk18 : ∀ (v1 : Int) (v2 : Int) (v3 : Int) (h : AH) (r : (Int × AH)), k18 v1 v2 v3 h = some r → Ev sc d 265 18 [(4, 1), (2, v1), (2, v2), (0, v3)] [] h (some (0, r.1)) r.2) : ∀ (v1 : Int) (v2 : Int) (v3 : Int) (s0 : Int) (s1 : Int) (s2 : Int) (s3 : Int) (h : AH) (r : (Int × AH)), Law_law_508 sc k18 v1 v2 v3 s0 s1 s2 s3 h = some r → Ev sc d 265 508 [(4, 1), (2, v1), (2, v2), (0, v3)] [(0, s0), (0, s1), (2, s2), (0, s3)] h (some (0, r.1)) r.2 := by
  intro v1 v2 v3 s0 s1 s2 s3 h r hx
  unfold Law_law_508 at hx
  obtain ⟨u1, hg, he, hx⟩ := bgd hx
  refine Ev.blk (is := [.aload_n 0, .iload_n 3, .iconst 3, .iadd, .iaload]) (pc2 := 513) (L2 := [(4, 1), (2, v1), (2, v2), (0, v3)]) (S2 := [(0, u1), (0, s0), (0, s1), (2, s2), (0, s3)]) (h2 := h) (by decide +kernel) (by subst he; rfl) (by exact hg) ?_
  clear hg he
  obtain ⟨_, hg, -, hx⟩ := bgd hx
  obtain ⟨u2, hc, hx⟩ := bca hx
  refine Ev.call (args := [(2, s2), (0, s1), (0, s0), (0, u1)]) (S2 := [(0, s3)]) (r1 := (some (0, u2.1))) (h1 := u2.2) (i := .invokevirtual 225) (by decide +kernel) rfl rfl (Nat.le_of_ble_eq_true rfl) (Or.inr (Or.inl ⟨rfl, hg, by decide +kernel⟩)) (x_R_cut (by omega) hc) ?_
  obtain ⟨ha, hb⟩ := bite hx
  clear hx
  refine Ev.br (i := .if_icmp .eq 984) (len := 3) (a := 1500) (b := 519) (by decide +kernel) rfl Iff.rfl (fun hc => ?_) (fun hc => ?_)
  · have hx := ha hc
    clear ha hb hc
    exact y_Law_law_1500 hd hk18 v1 v2 v3 u2.2 _ hx
  · have hx := hb hc
    clear ha hb hc
    refine Ev.blk (is := [.iconst 0]) (pc2 := 520) (L2 := [(4, 1), (2, v1), (2, v2), (0, v3)]) (S2 := [(0, 0)]) (h2 := u2.2) (by decide +kernel) rfl trivial ?_
    cases hx
    exact Ev.ret (i := .ireturn) (len := 1) (by decide +kernel) rfl (finOf (t := some .boolean) rfl (bz0))
theorem y_Law_law_481 {sc : AS} {d : Nat} (hd : 53 ≤ d) {k18 : Int → Int → Int → AH → Option (Int × AH)} (hk18 : ∀ (v1 : Int) (v2 : Int) (v3 : Int) (h : AH) (r : (Int × AH)), k18 v1 v2 v3 h = some r → Ev sc d 265 18 [(4, 1), (2, v1), (2, v2), (0, v3)] [] h (some (0, r.1)) r.2) : ∀ (v1 : Int) (v2 : Int) (v3 : Int) (s0 : Int) (s1 : Int) (s2 : Int) (h : AH) (r : (Int × AH)), Law_law_481 sc k18 v1 v2 v3 s0 s1 s2 h = some r → Ev sc d 265 481 [(4, 1), (2, v1), (2, v2), (0, v3)] [(0, s0), (0, s1), (2, s2)] h (some (0, r.1)) r.2 := by
  intro v1 v2 v3 s0 s1 s2 h r hx
  unfold Law_law_481 at hx
  obtain ⟨u1, hg, he, hx⟩ := bgd hx
  refine Ev.blk (is := [.aload_n 0, .iload_n 3, .iconst 3, .iadd, .iaload]) (pc2 := 486) (L2 := [(4, 1), (2, v1), (2, v2), (0, v3)]) (S2 := [(0, u1), (0, s0), (0, s1), (2, s2)]) (h2 := h) (by decide +kernel) (by subst he; rfl) (by exact hg) ?_
  clear hg he
  obtain ⟨_, hg, -, hx⟩ := bgd hx
  obtain ⟨u2, hc, hx⟩ := bca hx
  refine Ev.call (args := [(2, s2), (0, s1), (0, s0), (0, u1)]) (S2 := []) (r1 := (some (0, u2.1))) (h1 := u2.2) (i := .invokevirtual 100) (by decide +kernel) rfl rfl (Nat.le_of_ble_eq_true rfl) (Or.inr (Or.inl ⟨rfl, hg, by decide +kernel⟩)) (x_X_cut (by omega) hc) ?_
  obtain ⟨u3, hg, he, hx⟩ := bgd hx
  refine Ev.blk (is := [.aload_n 2, .aload_n 0, .iload_n 3, .iconst 1, .iadd, .iaload]) (pc2 := 495) (L2 := [(4, 1), (2, v1), (2, v2), (0, v3)]) (S2 := [(0, u3), (2, v2), (0, u2.1)]) (h2 := u2.2) (by decide +kernel) (by subst he; rfl) (by exact hg) ?_
  clear hg he
  obtain ⟨u4, hg, he, hx⟩ := bgd hx
  refine Ev.blk (is := [.aload_n 0, .iload_n 3, .iconst 2, .iadd, .iaload]) (pc2 := 500) (L2 := [(4, 1), (2, v1), (2, v2), (0, v3)]) (S2 := [(0, u4), (0, u3), (2, v2), (0, u2.1)]) (h2 := u2.2) (by decide +kernel) (by subst he; rfl) (by exact hg) ?_
  clear hg he
  obtain ⟨ha, hb⟩ := bite hx
  clear hx
  refine Ev.br (i := .ifCond .eq 7) (len := 3) (a := 507) (b := 503) (by decide +kernel) rfl Iff.rfl (fun hc => ?_) (fun hc => ?_)
  · have hx := ha hc
    clear ha hb hc
    refine Ev.blk (is := [.iconst 0]) (pc2 := 508) (L2 := [(4, 1), (2, v1), (2, v2), (0, v3)]) (S2 := [(0, 0), (0, u3), (2, v2), (0, u2.1)]) (h2 := u2.2) (by decide +kernel) rfl trivial ?_
    exact y_Law_law_508 hd hk18 v1 v2 v3 0 u3 v2 u2.1 u2.2 _ hx
  · have hx := hb hc
    clear ha hb hc
    refine Ev.blk (is := [.iconst 1]) (pc2 := 504) (L2 := [(4, 1), (2, v1), (2, v2), (0, v3)]) (S2 := [(0, 1), (0, u3), (2, v2), (0, u2.1)]) (h2 := u2.2) (by decide +kernel) rfl trivial ?_
    refine Ev.jp (i := .goto 4) (len := 3) (pc2 := 508) (by decide +kernel) rfl ?_
    exact y_Law_law_508 hd hk18 v1 v2 v3 1 u3 v2 u2.1 u2.2 _ hx
theorem y_Law_law_462 {sc : AS} {d : Nat} (hd : 53 ≤ d) {k18 : Int → Int → Int → AH → Option (Int × AH)} (hk18 : ∀ (v1 : Int) (v2 : Int) (v3 : Int) (h : AH) (r : (Int × AH)), k18 v1 v2 v3 h = some r → Ev sc d 265 18 [(4, 1), (2, v1), (2, v2), (0, v3)] [] h (some (0, r.1)) r.2) : ∀ (v1 : Int) (v2 : Int) (v3 : Int) (h : AH) (r : (Int × AH)), Law_law_462 sc k18 v1 v2 v3 h = some r → Ev sc d 265 462 [(4, 1), (2, v1), (2, v2), (0, v3)] [] h (some (0, r.1)) r.2 := by
  intro v1 v2 v3 h r hx
  unfold Law_law_462 at hx
  obtain ⟨u1, hg, he, hx⟩ := bgd hx
  refine Ev.blk (is := [.aload_n 1, .aload_n 0, .iload_n 3, .iconst 1, .iadd, .iaload]) (pc2 := 468) (L2 := [(4, 1), (2, v1), (2, v2), (0, v3)]) (S2 := [(0, u1), (2, v1)]) (h2 := h) (by decide +kernel) (by subst he; rfl) (by exact hg) ?_
  clear hg he
  obtain ⟨u2, hg, he, hx⟩ := bgd hx
  refine Ev.blk (is := [.aload_n 0, .iload_n 3, .iconst 2, .iadd, .iaload]) (pc2 := 473) (L2 := [(4, 1), (2, v1), (2, v2), (0, v3)]) (S2 := [(0, u2), (0, u1), (2, v1)]) (h2 := h) (by decide +kernel) (by subst he; rfl) (by exact hg) ?_
  clear hg he
  obtain ⟨ha, hb⟩ := bite hx
  clear hx
  refine Ev.br (i := .ifCond .eq 7) (len := 3) (a := 480) (b := 476) (by decide +kernel) rfl Iff.rfl (fun hc => ?_) (fun hc => ?_)
  · have hx := ha hc
    clear ha hb hc
    refine Ev.blk (is := [.iconst 0]) (pc2 := 481) (L2 := [(4, 1), (2, v1), (2, v2), (0, v3)]) (S2 := [(0, 0), (0, u1), (2, v1)]) (h2 := h) (by decide +kernel) rfl trivial ?_
    exact y_Law_law_481 hd hk18 v1 v2 v3 0 u1 v1 h _ hx
  · have hx := hb hc
    clear ha hb hc
    refine Ev.blk (is := [.iconst 1]) (pc2 := 477) (L2 := [(4, 1), (2, v1), (2, v2), (0, v3)]) (S2 := [(0, 1), (0, u1), (2, v1)]) (h2 := h) (by decide +kernel) rfl trivial ?_
    refine Ev.jp (i := .goto 4) (len := 3) (pc2 := 481) (by decide +kernel) rfl ?_
    exact y_Law_law_481 hd hk18 v1 v2 v3 1 u1 v1 h _ hx
theorem y_Law_law_521 {sc : AS} {d : Nat} (hd : 53 ≤ d) {k18 : Int → Int → Int → AH → Option (Int × AH)} (hk18 : ∀ (v1 : Int) (v2 : Int) (v3 : Int) (h : AH) (r : (Int × AH)), k18 v1 v2 v3 h = some r → Ev sc d 265 18 [(4, 1), (2, v1), (2, v2), (0, v3)] [] h (some (0, r.1)) r.2) : ∀ (v1 : Int) (v2 : Int) (v3 : Int) (h : AH) (r : (Int × AH)), Law_law_521 sc k18 v1 v2 v3 h = some r → Ev sc d 265 521 [(4, 1), (2, v1), (2, v2), (0, v3)] [] h (some (0, r.1)) r.2 := by
  intro v1 v2 v3 h r hx
  unfold Law_law_521 at hx
  obtain ⟨u1, hg, he, hx⟩ := bgd hx
  refine Ev.blk (is := [.aload_n 1, .aload_n 0, .iload_n 3, .iconst 1, .iadd, .iaload]) (pc2 := 527) (L2 := [(4, 1), (2, v1), (2, v2), (0, v3)]) (S2 := [(0, u1), (2, v1)]) (h2 := h) (by decide +kernel) (by subst he; rfl) (by exact hg) ?_
  clear hg he
  obtain ⟨u2, hg, he, hx⟩ := bgd hx
  refine Ev.blk (is := [.aload_n 0, .iload_n 3, .iconst 2, .iadd, .iaload]) (pc2 := 532) (L2 := [(4, 1), (2, v1), (2, v2), (0, v3)]) (S2 := [(0, u2), (0, u1), (2, v1)]) (h2 := h) (by decide +kernel) (by subst he; rfl) (by exact hg) ?_
  clear hg he
  obtain ⟨_, hg, -, hx⟩ := bgd hx
  obtain ⟨u3, hc, hx⟩ := bca hx
  refine Ev.call (args := [(2, v1), (0, u1), (0, u2)]) (S2 := []) (r1 := (some (0, u3.1))) (h1 := u3.2) (i := .invokevirtual 102) (by decide +kernel) rfl rfl (Nat.le_of_ble_eq_true rfl) (Or.inr (Or.inl ⟨rfl, hg, by decide +kernel⟩)) (x_X_move (by omega) hc) ?_
  obtain ⟨u4, hg, he, hx⟩ := bgd hx
  refine Ev.blk (is := [.aload_n 2, .aload_n 0, .iload_n 3, .iconst 1, .iadd, .iaload]) (pc2 := 541) (L2 := [(4, 1), (2, v1), (2, v2), (0, v3)]) (S2 := [(0, u4), (2, v2), (0, u3.1)]) (h2 := u3.2) (by decide +kernel) (by subst he; rfl) (by exact hg) ?_
  clear hg he
  obtain ⟨u5, hg, he, hx⟩ := bgd hx
  refine Ev.blk (is := [.aload_n 0, .iload_n 3, .iconst 2, .iadd, .iaload]) (pc2 := 546) (L2 := [(4, 1), (2, v1), (2, v2), (0, v3)]) (S2 := [(0, u5), (0, u4), (2, v2), (0, u3.1)]) (h2 := u3.2) (by decide +kernel) (by subst he; rfl) (by exact hg) ?_
  clear hg he
  obtain ⟨_, hg, -, hx⟩ := bgd hx
  obtain ⟨u6, hc, hx⟩ := bca hx
  refine Ev.call (args := [(2, v2), (0, u4), (0, u5)]) (S2 := [(0, u3.1)]) (r1 := (some (0, u6.1))) (h1 := u6.2) (i := .invokevirtual 226) (by decide +kernel) rfl rfl (Nat.le_of_ble_eq_true rfl) (Or.inr (Or.inl ⟨rfl, hg, by decide +kernel⟩)) (x_R_move (by omega) hc) ?_
  obtain ⟨ha, hb⟩ := bite hx
  clear hx
  refine Ev.br (i := .if_icmp .eq 951) (len := 3) (a := 1500) (b := 552) (by decide +kernel) rfl Iff.rfl (fun hc => ?_) (fun hc => ?_)
  · have hx := ha hc
    clear ha hb hc
    exact y_Law_law_1500 hd hk18 v1 v2 v3 u6.2 _ hx
  · have hx := hb hc
    clear ha hb hc
    refine Ev.blk (is := [.iconst 0]) (pc2 := 553) (L2 := [(4, 1), (2, v1), (2, v2), (0, v3)]) (S2 := [(0, 0)]) (h2 := u6.2) (by decide +kernel) rfl trivial ?_
    cases hx
    exact Ev.ret (i := .ireturn) (len := 1) (by decide +kernel) rfl (finOf (t := some .boolean) rfl (bz0))
theorem y_Law_law_554 {sc : AS} {d : Nat} (hd : 53 ≤ d) {k18 : Int → Int → Int → AH → Option (Int × AH)} (hk18 : ∀ (v1 : Int) (v2 : Int) (v3 : Int) (h : AH) (r : (Int × AH)), k18 v1 v2 v3 h = some r → Ev sc d 265 18 [(4, 1), (2, v1), (2, v2), (0, v3)] [] h (some (0, r.1)) r.2) : ∀ (v1 : Int) (v2 : Int) (v3 : Int) (h : AH) (r : (Int × AH)), Law_law_554 sc k18 v1 v2 v3 h = some r → Ev sc d 265 554 [(4, 1), (2, v1), (2, v2), (0, v3)] [] h (some (0, r.1)) r.2 := by
  intro v1 v2 v3 h r hx
  unfold Law_law_554 at hx
  obtain ⟨u1, hg, he, hx⟩ := bgd hx
  refine Ev.blk (is := [.aload_n 1, .aload_n 0, .iload_n 3, .iconst 1, .iadd, .iaload]) (pc2 := 560) (L2 := [(4, 1), (2, v1), (2, v2), (0, v3)]) (S2 := [(0, u1), (2, v1)]) (h2 := h) (by decide +kernel) (by subst he; rfl) (by exact hg) ?_
  clear hg he
  obtain ⟨_, hg, -, hx⟩ := bgd hx
  obtain ⟨u2, hc, hx⟩ := bca hx
  refine Ev.call (args := [(2, v1), (0, u1)]) (S2 := []) (r1 := (some (0, u2.1))) (h1 := u2.2) (i := .invokevirtual 105) (by decide +kernel) rfl rfl (Nat.le_of_ble_eq_true rfl) (Or.inr (Or.inl ⟨rfl, hg, by decide +kernel⟩)) (x_X_mend (by omega) hc) ?_
  obtain ⟨u3, hg, he, hx⟩ := bgd hx
  refine Ev.blk (is := [.aload_n 2, .aload_n 0, .iload_n 3, .iconst 1, .iadd, .iaload]) (pc2 := 569) (L2 := [(4, 1), (2, v1), (2, v2), (0, v3)]) (S2 := [(0, u3), (2, v2), (0, u2.1)]) (h2 := u2.2) (by decide +kernel) (by subst he; rfl) (by exact hg) ?_
  clear hg he
  obtain ⟨_, hg, -, hx⟩ := bgd hx
  obtain ⟨u4, hc, hx⟩ := bca hx
  refine Ev.call (args := [(2, v2), (0, u3)]) (S2 := [(0, u2.1)]) (r1 := (some (0, u4.1))) (h1 := u4.2) (i := .invokevirtual 197) (by decide +kernel) rfl rfl (Nat.le_of_ble_eq_true rfl) (Or.inr (Or.inl ⟨rfl, hg, by decide +kernel⟩)) (x_R_mend (by omega) hc) ?_
  obtain ⟨ha, hb⟩ := bite hx
  clear hx
  refine Ev.br (i := .if_icmp .eq 928) (len := 3) (a := 1500) (b := 575) (by decide +kernel) rfl Iff.rfl (fun hc => ?_) (fun hc => ?_)
  · have hx := ha hc
    clear ha hb hc
    exact y_Law_law_1500 hd hk18 v1 v2 v3 u4.2 _ hx
  · have hx := hb hc
    clear ha hb hc
    refine Ev.blk (is := [.iconst 0]) (pc2 := 576) (L2 := [(4, 1), (2, v1), (2, v2), (0, v3)]) (S2 := [(0, 0)]) (h2 := u4.2) (by decide +kernel) rfl trivial ?_
    cases hx
    exact Ev.ret (i := .ireturn) (len := 1) (by decide +kernel) rfl (finOf (t := some .boolean) rfl (bz0))
theorem y_Law_law_577 {sc : AS} {d : Nat} (hd : 53 ≤ d) {k18 : Int → Int → Int → AH → Option (Int × AH)} (hk18 : ∀ (v1 : Int) (v2 : Int) (v3 : Int) (h : AH) (r : (Int × AH)), k18 v1 v2 v3 h = some r → Ev sc d 265 18 [(4, 1), (2, v1), (2, v2), (0, v3)] [] h (some (0, r.1)) r.2) : ∀ (v1 : Int) (v2 : Int) (v3 : Int) (h : AH) (r : (Int × AH)), Law_law_577 sc k18 v1 v2 v3 h = some r → Ev sc d 265 577 [(4, 1), (2, v1), (2, v2), (0, v3)] [] h (some (0, r.1)) r.2 := by
  intro v1 v2 v3 h r hx
  unfold Law_law_577 at hx
  obtain ⟨u1, hg, he, hx⟩ := bgd hx
  refine Ev.blk (is := [.aload_n 1, .aload_n 0, .iload_n 3, .iconst 1, .iadd, .iaload]) (pc2 := 583) (L2 := [(4, 1), (2, v1), (2, v2), (0, v3)]) (S2 := [(0, u1), (2, v1)]) (h2 := h) (by decide +kernel) (by subst he; rfl) (by exact hg) ?_
  clear hg he
  obtain ⟨_, hg, -, hx⟩ := bgd hx
  obtain ⟨u2, hc, hx⟩ := bca hx
  refine Ev.call (args := [(2, v1), (0, u1)]) (S2 := []) (r1 := (some (0, u2.1))) (h1 := u2.2) (i := .invokevirtual 108) (by decide +kernel) rfl rfl (Nat.le_of_ble_eq_true rfl) (Or.inr (Or.inl ⟨rfl, hg, by decide +kernel⟩)) (x_X_prune (by omega) hc) ?_
  obtain ⟨u3, hg, he, hx⟩ := bgd hx
  refine Ev.blk (is := [.aload_n 2, .aload_n 0, .iload_n 3, .iconst 1, .iadd, .iaload]) (pc2 := 592) (L2 := [(4, 1), (2, v1), (2, v2), (0, v3)]) (S2 := [(0, u3), (2, v2), (0, u2.1)]) (h2 := u2.2) (by decide +kernel) (by subst he; rfl) (by exact hg) ?_
  clear hg he
  obtain ⟨_, hg, -, hx⟩ := bgd hx
  obtain ⟨u4, hc, hx⟩ := bca hx
  refine Ev.call (args := [(2, v2), (0, u3)]) (S2 := [(0, u2.1)]) (r1 := (some (0, u4.1))) (h1 := u4.2) (i := .invokevirtual 228) (by decide +kernel) rfl rfl (Nat.le_of_ble_eq_true rfl) (Or.inr (Or.inl ⟨rfl, hg, by decide +kernel⟩)) (x_R_prune (by omega) hc) ?_
  obtain ⟨ha, hb⟩ := bite hx
  clear hx
  refine Ev.br (i := .if_icmp .eq 905) (len := 3) (a := 1500) (b := 598) (by decide +kernel) rfl Iff.rfl (fun hc => ?_) (fun hc => ?_)
  · have hx := ha hc
    clear ha hb hc
    exact y_Law_law_1500 hd hk18 v1 v2 v3 u4.2 _ hx
  · have hx := hb hc
    clear ha hb hc
    refine Ev.blk (is := [.iconst 0]) (pc2 := 599) (L2 := [(4, 1), (2, v1), (2, v2), (0, v3)]) (S2 := [(0, 0)]) (h2 := u4.2) (by decide +kernel) rfl trivial ?_
    cases hx
    exact Ev.ret (i := .ireturn) (len := 1) (by decide +kernel) rfl (finOf (t := some .boolean) rfl (bz0))
theorem y_Law_law_600 {sc : AS} {d : Nat} (hd : 53 ≤ d) {k18 : Int → Int → Int → AH → Option (Int × AH)} (hk18 : ∀ (v1 : Int) (v2 : Int) (v3 : Int) (h : AH) (r : (Int × AH)), k18 v1 v2 v3 h = some r → Ev sc d 265 18 [(4, 1), (2, v1), (2, v2), (0, v3)] [] h (some (0, r.1)) r.2) : ∀ (v1 : Int) (v2 : Int) (v3 : Int) (h : AH) (r : (Int × AH)), Law_law_600 sc k18 v1 v2 v3 h = some r → Ev sc d 265 600 [(4, 1), (2, v1), (2, v2), (0, v3)] [] h (some (0, r.1)) r.2 := by
  intro v1 v2 v3 h r hx
  unfold Law_law_600 at hx
  refine Ev.blk (is := [.aload_n 1]) (pc2 := 601) (L2 := [(4, 1), (2, v1), (2, v2), (0, v3)]) (S2 := [(2, v1)]) (h2 := h) (by decide +kernel) rfl trivial ?_
  obtain ⟨_, hg, -, hx⟩ := bgd hx
  obtain ⟨u1, hc, hx⟩ := bca hx
  refine Ev.call (args := [(2, v1)]) (S2 := []) (r1 := (some (0, u1.1))) (h1 := u1.2) (i := .invokevirtual 110) (by decide +kernel) rfl rfl (Nat.le_of_ble_eq_true rfl) (Or.inr (Or.inl ⟨rfl, hg, by decide +kernel⟩)) (x_X_drop (by omega) hc) ?_
  refine Ev.blk (is := [.aload_n 2]) (pc2 := 605) (L2 := [(4, 1), (2, v1), (2, v2), (0, v3)]) (S2 := [(2, v2), (0, u1.1)]) (h2 := u1.2) (by decide +kernel) rfl trivial ?_
  obtain ⟨_, hg, -, hx⟩ := bgd hx
  obtain ⟨u2, hc, hx⟩ := bca hx
  refine Ev.call (args := [(2, v2)]) (S2 := [(0, u1.1)]) (r1 := (some (0, u2.1))) (h1 := u2.2) (i := .invokevirtual 232) (by decide +kernel) rfl rfl (Nat.le_of_ble_eq_true rfl) (Or.inr (Or.inl ⟨rfl, hg, by decide +kernel⟩)) (x_R_drop (by omega) hc) ?_
  obtain ⟨ha, hb⟩ := bite hx
  clear hx
  refine Ev.br (i := .if_icmp .eq 892) (len := 3) (a := 1500) (b := 611) (by decide +kernel) rfl Iff.rfl (fun hc => ?_) (fun hc => ?_)
  · have hx := ha hc
    clear ha hb hc
    exact y_Law_law_1500 hd hk18 v1 v2 v3 u2.2 _ hx
  · have hx := hb hc
    clear ha hb hc
    refine Ev.blk (is := [.iconst 0]) (pc2 := 612) (L2 := [(4, 1), (2, v1), (2, v2), (0, v3)]) (S2 := [(0, 0)]) (h2 := u2.2) (by decide +kernel) rfl trivial ?_
    cases hx
    exact Ev.ret (i := .ireturn) (len := 1) (by decide +kernel) rfl (finOf (t := some .boolean) rfl (bz0))
theorem y_Law_law_613 {sc : AS} {d : Nat} (hd : 53 ≤ d) {k18 : Int → Int → Int → AH → Option (Int × AH)} (hk18 : ∀ (v1 : Int) (v2 : Int) (v3 : Int) (h : AH) (r : (Int × AH)), k18 v1 v2 v3 h = some r → Ev sc d 265 18 [(4, 1), (2, v1), (2, v2), (0, v3)] [] h (some (0, r.1)) r.2) : ∀ (v1 : Int) (v2 : Int) (v3 : Int) (h : AH) (r : (Int × AH)), Law_law_613 sc k18 v1 v2 v3 h = some r → Ev sc d 265 613 [(4, 1), (2, v1), (2, v2), (0, v3)] [] h (some (0, r.1)) r.2 := by
  intro v1 v2 v3 h r hx
  unfold Law_law_613 at hx
  refine Ev.blk (is := [.aload_n 1]) (pc2 := 614) (L2 := [(4, 1), (2, v1), (2, v2), (0, v3)]) (S2 := [(2, v1)]) (h2 := h) (by decide +kernel) rfl trivial ?_
  obtain ⟨_, hg, -, hx⟩ := bgd hx
  obtain ⟨u1, hc, hx⟩ := bca hx
  refine Ev.call (args := [(2, v1)]) (S2 := []) (r1 := (some (0, u1.1))) (h1 := u1.2) (i := .invokevirtual 111) (by decide +kernel) rfl rfl (Nat.le_of_ble_eq_true rfl) (Or.inr (Or.inl ⟨rfl, hg, by decide +kernel⟩)) (x_X_clear (by omega) hc) ?_
  refine Ev.blk (is := [.aload_n 2]) (pc2 := 618) (L2 := [(4, 1), (2, v1), (2, v2), (0, v3)]) (S2 := [(2, v2), (0, u1.1)]) (h2 := u1.2) (by decide +kernel) rfl trivial ?_
  obtain ⟨_, hg, -, hx⟩ := bgd hx
  obtain ⟨u2, hc, hx⟩ := bca hx
  refine Ev.call (args := [(2, v2)]) (S2 := [(0, u1.1)]) (r1 := (some (0, u2.1))) (h1 := u2.2) (i := .invokevirtual 233) (by decide +kernel) rfl rfl (Nat.le_of_ble_eq_true rfl) (Or.inr (Or.inl ⟨rfl, hg, by decide +kernel⟩)) (x_R_clear (by omega) hc) ?_
  obtain ⟨ha, hb⟩ := bite hx
  clear hx
  refine Ev.br (i := .if_icmp .eq 879) (len := 3) (a := 1500) (b := 624) (by decide +kernel) rfl Iff.rfl (fun hc => ?_) (fun hc => ?_)
  · have hx := ha hc
    clear ha hb hc
    exact y_Law_law_1500 hd hk18 v1 v2 v3 u2.2 _ hx
  · have hx := hb hc
    clear ha hb hc
    refine Ev.blk (is := [.iconst 0]) (pc2 := 625) (L2 := [(4, 1), (2, v1), (2, v2), (0, v3)]) (S2 := [(0, 0)]) (h2 := u2.2) (by decide +kernel) rfl trivial ?_
    cases hx
    exact Ev.ret (i := .ireturn) (len := 1) (by decide +kernel) rfl (finOf (t := some .boolean) rfl (bz0))
theorem y_Law_law_626 {sc : AS} {d : Nat} (hd : 53 ≤ d) {k18 : Int → Int → Int → AH → Option (Int × AH)} (hk18 : ∀ (v1 : Int) (v2 : Int) (v3 : Int) (h : AH) (r : (Int × AH)), k18 v1 v2 v3 h = some r → Ev sc d 265 18 [(4, 1), (2, v1), (2, v2), (0, v3)] [] h (some (0, r.1)) r.2) : ∀ (v1 : Int) (v2 : Int) (v3 : Int) (h : AH) (r : (Int × AH)), Law_law_626 sc k18 v1 v2 v3 h = some r → Ev sc d 265 626 [(4, 1), (2, v1), (2, v2), (0, v3)] [] h (some (0, r.1)) r.2 := by
  intro v1 v2 v3 h r hx
  unfold Law_law_626 at hx
  obtain ⟨u1, hg, he, hx⟩ := bgd hx
  refine Ev.blk (is := [.aload_n 1, .aload_n 0, .iload_n 3, .iconst 1, .iadd, .iaload]) (pc2 := 632) (L2 := [(4, 1), (2, v1), (2, v2), (0, v3)]) (S2 := [(0, u1), (2, v1)]) (h2 := h) (by decide +kernel) (by subst he; rfl) (by exact hg) ?_
  clear hg he
  obtain ⟨u2, hg, he, hx⟩ := bgd hx
  refine Ev.blk (is := [.aload_n 0, .iload_n 3, .iconst 2, .iadd, .iaload]) (pc2 := 637) (L2 := [(4, 1), (2, v1), (2, v2), (0, v3)]) (S2 := [(0, u2), (0, u1), (2, v1)]) (h2 := h) (by decide +kernel) (by subst he; rfl) (by exact hg) ?_
  clear hg he
  obtain ⟨_, hg, -, hx⟩ := bgd hx
  obtain ⟨u3, hc, hx⟩ := bca hx
  refine Ev.call (args := [(2, v1), (0, u1), (0, u2)]) (S2 := []) (r1 := (some (0, u3))) (h1 := h) (i := .invokevirtual 112) (by decide +kernel) rfl rfl (Nat.le_of_ble_eq_true rfl) (Or.inr (Or.inl ⟨rfl, hg, by decide +kernel⟩)) (x_X_line (by omega) hc) ?_
  obtain ⟨u4, hg, he, hx⟩ := bgd hx
  refine Ev.blk (is := [.aload_n 2, .aload_n 0, .iload_n 3, .iconst 1, .iadd, .iaload]) (pc2 := 646) (L2 := [(4, 1), (2, v1), (2, v2), (0, v3)]) (S2 := [(0, u4), (2, v2), (0, u3)]) (h2 := h) (by decide +kernel) (by subst he; rfl) (by exact hg) ?_
  clear hg he
  obtain ⟨u5, hg, he, hx⟩ := bgd hx
  refine Ev.blk (is := [.aload_n 0, .iload_n 3, .iconst 2, .iadd, .iaload]) (pc2 := 651) (L2 := [(4, 1), (2, v1), (2, v2), (0, v3)]) (S2 := [(0, u5), (0, u4), (2, v2), (0, u3)]) (h2 := h) (by decide +kernel) (by subst he; rfl) (by exact hg) ?_
  clear hg he
  obtain ⟨_, hg, -, hx⟩ := bgd hx
  obtain ⟨u6, hc, hx⟩ := bca hx
  refine Ev.call (args := [(2, v2), (0, u4), (0, u5)]) (S2 := [(0, u3)]) (r1 := (some (0, u6.1))) (h1 := u6.2) (i := .invokevirtual 234) (by decide +kernel) rfl rfl (Nat.le_of_ble_eq_true rfl) (Or.inr (Or.inl ⟨rfl, hg, by decide +kernel⟩)) (x_R_line (by omega) hc) ?_
  obtain ⟨ha, hb⟩ := bite hx
  clear hx
  refine Ev.br (i := .if_icmp .eq 846) (len := 3) (a := 1500) (b := 657) (by decide +kernel) rfl Iff.rfl (fun hc => ?_) (fun hc => ?_)
  · have hx := ha hc
    clear ha hb hc
    exact y_Law_law_1500 hd hk18 v1 v2 v3 u6.2 _ hx
  · have hx := hb hc
    clear ha hb hc
    refine Ev.blk (is := [.iconst 0]) (pc2 := 658) (L2 := [(4, 1), (2, v1), (2, v2), (0, v3)]) (S2 := [(0, 0)]) (h2 := u6.2) (by decide +kernel) rfl trivial ?_
    cases hx
    exact Ev.ret (i := .ireturn) (len := 1) (by decide +kernel) rfl (finOf (t := some .boolean) rfl (bz0))
theorem y_Law_law_710 {sc : AS} {d : Nat} (hd : 53 ≤ d) {k18 : Int → Int → Int → AH → Option (Int × AH)} (hk18 : ∀ (v1 : Int) (v2 : Int) (v3 : Int) (h : AH) (r : (Int × AH)), k18 v1 v2 v3 h = some r → Ev sc d 265 18 [(4, 1), (2, v1), (2, v2), (0, v3)] [] h (some (0, r.1)) r.2) : ∀ (v1 : Int) (v2 : Int) (v3 : Int) (s0 : Int) (s1 : Int) (s2 : Int) (s3 : Int) (h : AH) (r : (Int × AH)), Law_law_710 sc k18 v1 v2 v3 s0 s1 s2 s3 h = some r → Ev sc d 265 710 [(4, 1), (2, v1), (2, v2), (0, v3)] [(0, s0), (0, s1), (2, s2), (0, s3)] h (some (0, r.1)) r.2 := by
  intro v1 v2 v3 s0 s1 s2 s3 h r hx
  unfold Law_law_710 at hx
  obtain ⟨u1, hg, he, hx⟩ := bgd hx
  refine Ev.blk (is := [.aload_n 0, .iload_n 3, .iconst 3, .iadd, .iaload]) (pc2 := 715) (L2 := [(4, 1), (2, v1), (2, v2), (0, v3)]) (S2 := [(0, u1), (0, s0), (0, s1), (2, s2), (0, s3)]) (h2 := h) (by decide +kernel) (by subst he; rfl) (by exact hg) ?_
  clear hg he
  obtain ⟨u2, hg, he, hx⟩ := bgd hx
  refine Ev.blk (is := [.aload_n 0, .iload_n 3, .iconst 4, .iadd, .iaload]) (pc2 := 720) (L2 := [(4, 1), (2, v1), (2, v2), (0, v3)]) (S2 := [(0, u2), (0, u1), (0, s0), (0, s1), (2, s2), (0, s3)]) (h2 := h) (by decide +kernel) (by subst he; rfl) (by exact hg) ?_
  clear hg he
  obtain ⟨_, hg, -, hx⟩ := bgd hx
  obtain ⟨u3, hc, hx⟩ := bca hx
  refine Ev.call (args := [(2, s2), (0, s1), (0, s0), (0, u1), (0, u2)]) (S2 := [(0, s3)]) (r1 := (some (0, u3.1))) (h1 := u3.2) (i := .invokevirtual 235) (by decide +kernel) rfl rfl (Nat.le_of_ble_eq_true rfl) (Or.inr (Or.inl ⟨rfl, hg, by decide +kernel⟩)) (x_R_row (by omega) hc) ?_
  obtain ⟨ha, hb⟩ := bite hx
  clear hx
  refine Ev.br (i := .if_icmp .eq 777) (len := 3) (a := 1500) (b := 726) (by decide +kernel) rfl Iff.rfl (fun hc => ?_) (fun hc => ?_)
  · have hx := ha hc
    clear ha hb hc
    exact y_Law_law_1500 hd hk18 v1 v2 v3 u3.2 _ hx
  · have hx := hb hc
    clear ha hb hc
    refine Ev.blk (is := [.iconst 0]) (pc2 := 727) (L2 := [(4, 1), (2, v1), (2, v2), (0, v3)]) (S2 := [(0, 0)]) (h2 := u3.2) (by decide +kernel) rfl trivial ?_
    cases hx
    exact Ev.ret (i := .ireturn) (len := 1) (by decide +kernel) rfl (finOf (t := some .boolean) rfl (bz0))
theorem y_Law_law_678 {sc : AS} {d : Nat} (hd : 53 ≤ d) {k18 : Int → Int → Int → AH → Option (Int × AH)} (hk18 : ∀ (v1 : Int) (v2 : Int) (v3 : Int) (h : AH) (r : (Int × AH)), k18 v1 v2 v3 h = some r → Ev sc d 265 18 [(4, 1), (2, v1), (2, v2), (0, v3)] [] h (some (0, r.1)) r.2) : ∀ (v1 : Int) (v2 : Int) (v3 : Int) (s0 : Int) (s1 : Int) (s2 : Int) (h : AH) (r : (Int × AH)), Law_law_678 sc k18 v1 v2 v3 s0 s1 s2 h = some r → Ev sc d 265 678 [(4, 1), (2, v1), (2, v2), (0, v3)] [(0, s0), (0, s1), (2, s2)] h (some (0, r.1)) r.2 := by
  intro v1 v2 v3 s0 s1 s2 h r hx
  unfold Law_law_678 at hx
  obtain ⟨u1, hg, he, hx⟩ := bgd hx
  refine Ev.blk (is := [.aload_n 0, .iload_n 3, .iconst 3, .iadd, .iaload]) (pc2 := 683) (L2 := [(4, 1), (2, v1), (2, v2), (0, v3)]) (S2 := [(0, u1), (0, s0), (0, s1), (2, s2)]) (h2 := h) (by decide +kernel) (by subst he; rfl) (by exact hg) ?_
  clear hg he
  obtain ⟨u2, hg, he, hx⟩ := bgd hx
  refine Ev.blk (is := [.aload_n 0, .iload_n 3, .iconst 4, .iadd, .iaload]) (pc2 := 688) (L2 := [(4, 1), (2, v1), (2, v2), (0, v3)]) (S2 := [(0, u2), (0, u1), (0, s0), (0, s1), (2, s2)]) (h2 := h) (by decide +kernel) (by subst he; rfl) (by exact hg) ?_
  clear hg he
  obtain ⟨_, hg, -, hx⟩ := bgd hx
  obtain ⟨u3, hc, hx⟩ := bca hx
  refine Ev.call (args := [(2, s2), (0, s1), (0, s0), (0, u1), (0, u2)]) (S2 := []) (r1 := (some (0, u3))) (h1 := h) (i := .invokevirtual 113) (by decide +kernel) rfl rfl (Nat.le_of_ble_eq_true rfl) (Or.inr (Or.inl ⟨rfl, hg, by decide +kernel⟩)) (x_X_row (by omega) hc) ?_
  obtain ⟨u4, hg, he, hx⟩ := bgd hx
  refine Ev.blk (is := [.aload_n 2, .aload_n 0, .iload_n 3, .iconst 1, .iadd, .iaload]) (pc2 := 697) (L2 := [(4, 1), (2, v1), (2, v2), (0, v3)]) (S2 := [(0, u4), (2, v2), (0, u3)]) (h2 := h) (by decide +kernel) (by subst he; rfl) (by exact hg) ?_
  clear hg he
  obtain ⟨u5, hg, he, hx⟩ := bgd hx
  refine Ev.blk (is := [.aload_n 0, .iload_n 3, .iconst 2, .iadd, .iaload]) (pc2 := 702) (L2 := [(4, 1), (2, v1), (2, v2), (0, v3)]) (S2 := [(0, u5), (0, u4), (2, v2), (0, u3)]) (h2 := h) (by decide +kernel) (by subst he; rfl) (by exact hg) ?_
  clear hg he
  obtain ⟨ha, hb⟩ := bite hx
  clear hx
  refine Ev.br (i := .ifCond .eq 7) (len := 3) (a := 709) (b := 705) (by decide +kernel) rfl Iff.rfl (fun hc => ?_) (fun hc => ?_)
  · have hx := ha hc
    clear ha hb hc
    refine Ev.blk (is := [.iconst 0]) (pc2 := 710) (L2 := [(4, 1), (2, v1), (2, v2), (0, v3)]) (S2 := [(0, 0), (0, u4), (2, v2), (0, u3)]) (h2 := h) (by decide +kernel) rfl trivial ?_
    exact y_Law_law_710 hd hk18 v1 v2 v3 0 u4 v2 u3 h _ hx
  · have hx := hb hc
    clear ha hb hc
    refine Ev.blk (is := [.iconst 1]) (pc2 := 706) (L2 := [(4, 1), (2, v1), (2, v2), (0, v3)]) (S2 := [(0, 1), (0, u4), (2, v2), (0, u3)]) (h2 := h) (by decide +kernel) rfl trivial ?_
    refine Ev.jp (i := .goto 4) (len := 3) (pc2 := 710) (by decide +kernel) rfl ?_
    exact y_Law_law_710 hd hk18 v1 v2 v3 1 u4 v2 u3 h _ hx
theorem y_Law_law_659 {sc : AS} {d : Nat} (hd : 53 ≤ d) {k18 : Int → Int → Int → AH → Option (Int × AH)} (hk18 : ∀ (v1 : Int) (v2 : Int) (v3 : Int) (h : AH) (r : (Int × AH)), k18 v1 v2 v3 h = some r → Ev sc d 265 18 [(4, 1), (2, v1), (2, v2), (0, v3)] [] h (some (0, r.1)) r.2) : ∀ (v1 : Int) (v2 : Int) (v3 : Int) (h : AH) (r : (Int × AH)), Law_law_659 sc k18 v1 v2 v3 h = some r → Ev sc d 265 659 [(4, 1), (2, v1), (2, v2), (0, v3)] [] h (some (0, r.1)) r.2 := by
  intro v1 v2 v3 h r hx
  unfold Law_law_659 at hx
  obtain ⟨u1, hg, he, hx⟩ := bgd hx
  refine Ev.blk (is := [.aload_n 1, .aload_n 0, .iload_n 3, .iconst 1, .iadd, .iaload]) (pc2 := 665) (L2 := [(4, 1), (2, v1), (2, v2), (0, v3)]) (S2 := [(0, u1), (2, v1)]) (h2 := h) (by decide +kernel) (by subst he; rfl) (by exact hg) ?_
  clear hg he
  obtain ⟨u2, hg, he, hx⟩ := bgd hx
  refine Ev.blk (is := [.aload_n 0, .iload_n 3, .iconst 2, .iadd, .iaload]) (pc2 := 670) (L2 := [(4, 1), (2, v1), (2, v2), (0, v3)]) (S2 := [(0, u2), (0, u1), (2, v1)]) (h2 := h) (by decide +kernel) (by subst he; rfl) (by exact hg) ?_
  clear hg he
  obtain ⟨ha, hb⟩ := bite hx
  clear hx
  refine Ev.br (i := .ifCond .eq 7) (len := 3) (a := 677) (b := 673) (by decide +kernel) rfl Iff.rfl (fun hc => ?_) (fun hc => ?_)
  · have hx := ha hc
    clear ha hb hc
    refine Ev.blk (is := [.iconst 0]) (pc2 := 678) (L2 := [(4, 1), (2, v1), (2, v2), (0, v3)]) (S2 := [(0, 0), (0, u1), (2, v1)]) (h2 := h) (by decide +kernel) rfl trivial ?_
    exact y_Law_law_678 hd hk18 v1 v2 v3 0 u1 v1 h _ hx
  · have hx := hb hc
    clear ha hb hc
    refine Ev.blk (is := [.iconst 1]) (pc2 := 674) (L2 := [(4, 1), (2, v1), (2, v2), (0, v3)]) (S2 := [(0, 1), (0, u1), (2, v1)]) (h2 := h) (by decide +kernel) rfl trivial ?_
    refine Ev.jp (i := .goto 4) (len := 3) (pc2 := 678) (by decide +kernel) rfl ?_
    exact y_Law_law_678 hd hk18 v1 v2 v3 1 u1 v1 h _ hx
theorem y_Law_law_728 {sc : AS} {d : Nat} (hd : 53 ≤ d) {k18 : Int → Int → Int → AH → Option (Int × AH)} (hk18 : ∀ (v1 : Int) (v2 : Int) (v3 : Int) (h : AH) (r : (Int × AH)), k18 v1 v2 v3 h = some r → Ev sc d 265 18 [(4, 1), (2, v1), (2, v2), (0, v3)] [] h (some (0, r.1)) r.2) : ∀ (v1 : Int) (v2 : Int) (v3 : Int) (h : AH) (r : (Int × AH)), Law_law_728 sc k18 v1 v2 v3 h = some r → Ev sc d 265 728 [(4, 1), (2, v1), (2, v2), (0, v3)] [] h (some (0, r.1)) r.2 := by
  intro v1 v2 v3 h r hx
  unfold Law_law_728 at hx
  refine Ev.blk (is := [.aload_n 1]) (pc2 := 729) (L2 := [(4, 1), (2, v1), (2, v2), (0, v3)]) (S2 := [(2, v1)]) (h2 := h) (by decide +kernel) rfl trivial ?_
  obtain ⟨_, hg, -, hx⟩ := bgd hx
  obtain ⟨u1, hc, hx⟩ := bca hx
  refine Ev.call (args := [(2, v1)]) (S2 := []) (r1 := (some (1, u1))) (h1 := h) (i := .invokevirtual 114) (by decide +kernel) rfl rfl (Nat.le_of_ble_eq_true rfl) (Or.inr (Or.inl ⟨rfl, hg, by decide +kernel⟩)) (x_X_right (by omega) hc) ?_
  refine Ev.blk (is := [.aload_n 2]) (pc2 := 733) (L2 := [(4, 1), (2, v1), (2, v2), (0, v3)]) (S2 := [(2, v2), (1, u1)]) (h2 := h) (by decide +kernel) rfl trivial ?_
  obtain ⟨_, hg, -, hx⟩ := bgd hx
  obtain ⟨u2, hc, hx⟩ := bca hx
  refine Ev.call (args := [(2, v2)]) (S2 := [(1, u1)]) (r1 := (some (1, u2.1))) (h1 := u2.2) (i := .invokevirtual 236) (by decide +kernel) rfl rfl (Nat.le_of_ble_eq_true rfl) (Or.inr (Or.inl ⟨rfl, hg, by decide +kernel⟩)) (x_R_right (by omega) hc) ?_
  refine Ev.blk (is := [.lcmp]) (pc2 := 737) (L2 := [(4, 1), (2, v1), (2, v2), (0, v3)]) (S2 := [(0, cmpL u1 u2.1)]) (h2 := u2.2) (by decide +kernel) rfl trivial ?_
  obtain ⟨ha, hb⟩ := bite hx
  clear hx
  refine Ev.br (i := .ifCond .eq 763) (len := 3) (a := 1500) (b := 740) (by decide +kernel) rfl cmpL_eq (fun hc => ?_) (fun hc => ?_)
  · have hx := ha hc
    clear ha hb hc
    exact y_Law_law_1500 hd hk18 v1 v2 v3 u2.2 _ hx
  · have hx := hb hc
    clear ha hb hc
    refine Ev.blk (is := [.iconst 0]) (pc2 := 741) (L2 := [(4, 1), (2, v1), (2, v2), (0, v3)]) (S2 := [(0, 0)]) (h2 := u2.2) (by decide +kernel) rfl trivial ?_
    cases hx
    exact Ev.ret (i := .ireturn) (len := 1) (by decide +kernel) rfl (finOf (t := some .boolean) rfl (bz0))
theorem y_Law_law_742 {sc : AS} {d : Nat} (hd : 53 ≤ d) {k18 : Int → Int → Int → AH → Option (Int × AH)} (hk18 : ∀ (v1 : Int) (v2 : Int) (v3 : Int) (h : AH) (r : (Int × AH)), k18 v1 v2 v3 h = some r → Ev sc d 265 18 [(4, 1), (2, v1), (2, v2), (0, v3)] [] h (some (0, r.1)) r.2) : ∀ (v1 : Int) (v2 : Int) (v3 : Int) (h : AH) (r : (Int × AH)), Law_law_742 sc k18 v1 v2 v3 h = some r → Ev sc d 265 742 [(4, 1), (2, v1), (2, v2), (0, v3)] [] h (some (0, r.1)) r.2 := by
  intro v1 v2 v3 h r hx
  unfold Law_law_742 at hx
  obtain ⟨u1, hg, he, hx⟩ := bgd hx
  refine Ev.blk (is := [.aload_n 1, .aload_n 0, .iload_n 3, .iconst 1, .iadd, .iaload]) (pc2 := 748) (L2 := [(4, 1), (2, v1), (2, v2), (0, v3)]) (S2 := [(0, u1), (2, v1)]) (h2 := h) (by decide +kernel) (by subst he; rfl) (by exact hg) ?_
  clear hg he
  obtain ⟨_, hg, -, hx⟩ := bgd hx
  obtain ⟨u2, hc, hx⟩ := bca hx
  refine Ev.call (args := [(2, v1), (0, u1)]) (S2 := []) (r1 := (some (1, u2))) (h1 := h) (i := .invokevirtual 115) (by decide +kernel) rfl rfl (Nat.le_of_ble_eq_true rfl) (Or.inr (Or.inl ⟨rfl, hg, by decide +kernel⟩)) (x_X_rests (by omega) hc) ?_
  obtain ⟨u3, hg, he, hx⟩ := bgd hx
  refine Ev.blk (is := [.aload_n 2, .aload_n 0, .iload_n 3, .iconst 1, .iadd, .iaload]) (pc2 := 757) (L2 := [(4, 1), (2, v1), (2, v2), (0, v3)]) (S2 := [(0, u3), (2, v2), (1, u2)]) (h2 := h) (by decide +kernel) (by subst he; rfl) (by exact hg) ?_
  clear hg he
  obtain ⟨_, hg, -, hx⟩ := bgd hx
  obtain ⟨u4, hc, hx⟩ := bca hx
  refine Ev.call (args := [(2, v2), (0, u3)]) (S2 := [(1, u2)]) (r1 := (some (1, u4.1))) (h1 := u4.2) (i := .invokevirtual 237) (by decide +kernel) rfl rfl (Nat.le_of_ble_eq_true rfl) (Or.inr (Or.inl ⟨rfl, hg, by decide +kernel⟩)) (x_R_rests (by omega) hc) ?_
  refine Ev.blk (is := [.lcmp]) (pc2 := 761) (L2 := [(4, 1), (2, v1), (2, v2), (0, v3)]) (S2 := [(0, cmpL u2 u4.1)]) (h2 := u4.2) (by decide +kernel) rfl trivial ?_
  obtain ⟨ha, hb⟩ := bite hx
  clear hx
  refine Ev.br (i := .ifCond .eq 739) (len := 3) (a := 1500) (b := 764) (by decide +kernel) rfl cmpL_eq (fun hc => ?_) (fun hc => ?_)
  · have hx := ha hc
    clear ha hb hc
    exact y_Law_law_1500 hd hk18 v1 v2 v3 u4.2 _ hx
  · have hx := hb hc
    clear ha hb hc
    refine Ev.blk (is := [.iconst 0]) (pc2 := 765) (L2 := [(4, 1), (2, v1), (2, v2), (0, v3)]) (S2 := [(0, 0)]) (h2 := u4.2) (by decide +kernel) rfl trivial ?_
    cases hx
    exact Ev.ret (i := .ireturn) (len := 1) (by decide +kernel) rfl (finOf (t := some .boolean) rfl (bz0))
theorem y_Law_law_766 {sc : AS} {d : Nat} (hd : 53 ≤ d) {k18 : Int → Int → Int → AH → Option (Int × AH)} (hk18 : ∀ (v1 : Int) (v2 : Int) (v3 : Int) (h : AH) (r : (Int × AH)), k18 v1 v2 v3 h = some r → Ev sc d 265 18 [(4, 1), (2, v1), (2, v2), (0, v3)] [] h (some (0, r.1)) r.2) : ∀ (v1 : Int) (v2 : Int) (v3 : Int) (h : AH) (r : (Int × AH)), Law_law_766 sc k18 v1 v2 v3 h = some r → Ev sc d 265 766 [(4, 1), (2, v1), (2, v2), (0, v3)] [] h (some (0, r.1)) r.2 := by
  intro v1 v2 v3 h r hx
  unfold Law_law_766 at hx
  obtain ⟨u1, hg, he, hx⟩ := bgd hx
  refine Ev.blk (is := [.aload_n 1, .aload_n 0, .iload_n 3, .iconst 1, .iadd, .iaload]) (pc2 := 772) (L2 := [(4, 1), (2, v1), (2, v2), (0, v3)]) (S2 := [(0, u1), (2, v1)]) (h2 := h) (by decide +kernel) (by subst he; rfl) (by exact hg) ?_
  clear hg he
  obtain ⟨_, hg, -, hx⟩ := bgd hx
  obtain ⟨u2, hc, hx⟩ := bca hx
  refine Ev.call (args := [(2, v1), (0, u1)]) (S2 := []) (r1 := (some (0, u2))) (h1 := h) (i := .invokevirtual 116) (by decide +kernel) rfl rfl (Nat.le_of_ble_eq_true rfl) (Or.inr (Or.inl ⟨rfl, hg, by decide +kernel⟩)) (x_X_deep (by omega) hc) ?_
  obtain ⟨u3, hg, he, hx⟩ := bgd hx
  refine Ev.blk (is := [.aload_n 2, .aload_n 0, .iload_n 3, .iconst 1, .iadd, .iaload]) (pc2 := 781) (L2 := [(4, 1), (2, v1), (2, v2), (0, v3)]) (S2 := [(0, u3), (2, v2), (0, u2)]) (h2 := h) (by decide +kernel) (by subst he; rfl) (by exact hg) ?_
  clear hg he
  obtain ⟨_, hg, -, hx⟩ := bgd hx
  obtain ⟨u4, hc, hx⟩ := bca hx
  refine Ev.call (args := [(2, v2), (0, u3)]) (S2 := [(0, u2)]) (r1 := (some (0, u4.1))) (h1 := u4.2) (i := .invokevirtual 238) (by decide +kernel) rfl rfl (Nat.le_of_ble_eq_true rfl) (Or.inr (Or.inl ⟨rfl, hg, by decide +kernel⟩)) (x_R_deep (by omega) hc) ?_
  obtain ⟨ha, hb⟩ := bite hx
  clear hx
  refine Ev.br (i := .if_icmp .eq 716) (len := 3) (a := 1500) (b := 787) (by decide +kernel) rfl Iff.rfl (fun hc => ?_) (fun hc => ?_)
  · have hx := ha hc
    clear ha hb hc
    exact y_Law_law_1500 hd hk18 v1 v2 v3 u4.2 _ hx
  · have hx := hb hc
    clear ha hb hc
    refine Ev.blk (is := [.iconst 0]) (pc2 := 788) (L2 := [(4, 1), (2, v1), (2, v2), (0, v3)]) (S2 := [(0, 0)]) (h2 := u4.2) (by decide +kernel) rfl trivial ?_
    cases hx
    exact Ev.ret (i := .ireturn) (len := 1) (by decide +kernel) rfl (finOf (t := some .boolean) rfl (bz0))
theorem y_Law_law_789 {sc : AS} {d : Nat} (hd : 53 ≤ d) {k18 : Int → Int → Int → AH → Option (Int × AH)} (hk18 : ∀ (v1 : Int) (v2 : Int) (v3 : Int) (h : AH) (r : (Int × AH)), k18 v1 v2 v3 h = some r → Ev sc d 265 18 [(4, 1), (2, v1), (2, v2), (0, v3)] [] h (some (0, r.1)) r.2) : ∀ (v1 : Int) (v2 : Int) (v3 : Int) (h : AH) (r : (Int × AH)), Law_law_789 sc k18 v1 v2 v3 h = some r → Ev sc d 265 789 [(4, 1), (2, v1), (2, v2), (0, v3)] [] h (some (0, r.1)) r.2 := by
  intro v1 v2 v3 h r hx
  unfold Law_law_789 at hx
  obtain ⟨u1, hg, he, hx⟩ := bgd hx
  refine Ev.blk (is := [.aload_n 1, .aload_n 0, .iload_n 3, .iconst 1, .iadd, .iaload]) (pc2 := 795) (L2 := [(4, 1), (2, v1), (2, v2), (0, v3)]) (S2 := [(0, u1), (2, v1)]) (h2 := h) (by decide +kernel) (by subst he; rfl) (by exact hg) ?_
  clear hg he
  obtain ⟨_, hg, -, hx⟩ := bgd hx
  obtain ⟨u2, hc, hx⟩ := bca hx
  refine Ev.call (args := [(2, v1), (0, u1)]) (S2 := []) (r1 := (some (1, u2))) (h1 := h) (i := .invokevirtual 117) (by decide +kernel) rfl rfl (Nat.le_of_ble_eq_true rfl) (Or.inr (Or.inl ⟨rfl, hg, by decide +kernel⟩)) (x_X_falls (by omega) hc) ?_
  obtain ⟨u3, hg, he, hx⟩ := bgd hx
  refine Ev.blk (is := [.aload_n 2, .aload_n 0, .iload_n 3, .iconst 1, .iadd, .iaload]) (pc2 := 804) (L2 := [(4, 1), (2, v1), (2, v2), (0, v3)]) (S2 := [(0, u3), (2, v2), (1, u2)]) (h2 := h) (by decide +kernel) (by subst he; rfl) (by exact hg) ?_
  clear hg he
  obtain ⟨_, hg, -, hx⟩ := bgd hx
  obtain ⟨u4, hc, hx⟩ := bca hx
  refine Ev.call (args := [(2, v2), (0, u3)]) (S2 := [(1, u2)]) (r1 := (some (1, u4.1))) (h1 := u4.2) (i := .invokevirtual 240) (by decide +kernel) rfl rfl (Nat.le_of_ble_eq_true rfl) (Or.inr (Or.inl ⟨rfl, hg, by decide +kernel⟩)) (x_R_falls (by omega) hc) ?_
  refine Ev.blk (is := [.lcmp]) (pc2 := 808) (L2 := [(4, 1), (2, v1), (2, v2), (0, v3)]) (S2 := [(0, cmpL u2 u4.1)]) (h2 := u4.2) (by decide +kernel) rfl trivial ?_
  obtain ⟨ha, hb⟩ := bite hx
  clear hx
  refine Ev.br (i := .ifCond .eq 692) (len := 3) (a := 1500) (b := 811) (by decide +kernel) rfl cmpL_eq (fun hc => ?_) (fun hc => ?_)
  · have hx := ha hc
    clear ha hb hc
    exact y_Law_law_1500 hd hk18 v1 v2 v3 u4.2 _ hx
  · have hx := hb hc
    clear ha hb hc
    refine Ev.blk (is := [.iconst 0]) (pc2 := 812) (L2 := [(4, 1), (2, v1), (2, v2), (0, v3)]) (S2 := [(0, 0)]) (h2 := u4.2) (by decide +kernel) rfl trivial ?_
    cases hx
    exact Ev.ret (i := .ireturn) (len := 1) (by decide +kernel) rfl (finOf (t := some .boolean) rfl (bz0))
theorem y_Law_law_813 {sc : AS} {d : Nat} (hd : 53 ≤ d) {k18 : Int → Int → Int → AH → Option (Int × AH)} (hk18 : ∀ (v1 : Int) (v2 : Int) (v3 : Int) (h : AH) (r : (Int × AH)), k18 v1 v2 v3 h = some r → Ev sc d 265 18 [(4, 1), (2, v1), (2, v2), (0, v3)] [] h (some (0, r.1)) r.2) : ∀ (v1 : Int) (v2 : Int) (v3 : Int) (h : AH) (r : (Int × AH)), Law_law_813 sc k18 v1 v2 v3 h = some r → Ev sc d 265 813 [(4, 1), (2, v1), (2, v2), (0, v3)] [] h (some (0, r.1)) r.2 := by
  intro v1 v2 v3 h r hx
  unfold Law_law_813 at hx
  obtain ⟨u1, hg, he, hx⟩ := bgd hx
  refine Ev.blk (is := [.aload_n 1, .aload_n 0, .iload_n 3, .iconst 1, .iadd, .iaload]) (pc2 := 819) (L2 := [(4, 1), (2, v1), (2, v2), (0, v3)]) (S2 := [(0, u1), (2, v1)]) (h2 := h) (by decide +kernel) (by subst he; rfl) (by exact hg) ?_
  clear hg he
  obtain ⟨_, hg, -, hx⟩ := bgd hx
  obtain ⟨u2, hc, hx⟩ := bca hx
  refine Ev.call (args := [(2, v1), (0, u1)]) (S2 := []) (r1 := (some (0, u2))) (h1 := h) (i := .invokevirtual 119) (by decide +kernel) rfl rfl (Nat.le_of_ble_eq_true rfl) (Or.inr (Or.inl ⟨rfl, hg, by decide +kernel⟩)) (x_X_cost (by omega) hc) ?_
  obtain ⟨u3, hg, he, hx⟩ := bgd hx
  refine Ev.blk (is := [.aload_n 2, .aload_n 0, .iload_n 3, .iconst 1, .iadd, .iaload]) (pc2 := 828) (L2 := [(4, 1), (2, v1), (2, v2), (0, v3)]) (S2 := [(0, u3), (2, v2), (0, u2)]) (h2 := h) (by decide +kernel) (by subst he; rfl) (by exact hg) ?_
  clear hg he
  obtain ⟨_, hg, -, hx⟩ := bgd hx
  obtain ⟨u4, hc, hx⟩ := bca hx
  refine Ev.call (args := [(2, v2), (0, u3)]) (S2 := [(0, u2)]) (r1 := (some (0, u4.1))) (h1 := u4.2) (i := .invokevirtual 241) (by decide +kernel) rfl rfl (Nat.le_of_ble_eq_true rfl) (Or.inr (Or.inl ⟨rfl, hg, by decide +kernel⟩)) (x_R_cost (by omega) hc) ?_
  obtain ⟨ha, hb⟩ := bite hx
  clear hx
  refine Ev.br (i := .if_icmp .eq 669) (len := 3) (a := 1500) (b := 834) (by decide +kernel) rfl Iff.rfl (fun hc => ?_) (fun hc => ?_)
  · have hx := ha hc
    clear ha hb hc
    exact y_Law_law_1500 hd hk18 v1 v2 v3 u4.2 _ hx
  · have hx := hb hc
    clear ha hb hc
    refine Ev.blk (is := [.iconst 0]) (pc2 := 835) (L2 := [(4, 1), (2, v1), (2, v2), (0, v3)]) (S2 := [(0, 0)]) (h2 := u4.2) (by decide +kernel) rfl trivial ?_
    cases hx
    exact Ev.ret (i := .ireturn) (len := 1) (by decide +kernel) rfl (finOf (t := some .boolean) rfl (bz0))
theorem y_Law_law_836 {sc : AS} {d : Nat} (hd : 53 ≤ d) {k18 : Int → Int → Int → AH → Option (Int × AH)} (hk18 : ∀ (v1 : Int) (v2 : Int) (v3 : Int) (h : AH) (r : (Int × AH)), k18 v1 v2 v3 h = some r → Ev sc d 265 18 [(4, 1), (2, v1), (2, v2), (0, v3)] [] h (some (0, r.1)) r.2) : ∀ (v1 : Int) (v2 : Int) (v3 : Int) (h : AH) (r : (Int × AH)), Law_law_836 sc k18 v1 v2 v3 h = some r → Ev sc d 265 836 [(4, 1), (2, v1), (2, v2), (0, v3)] [] h (some (0, r.1)) r.2 := by
  intro v1 v2 v3 h r hx
  unfold Law_law_836 at hx
  obtain ⟨u1, hg, he, hx⟩ := bgd hx
  refine Ev.blk (is := [.aload_n 1, .aload_n 0, .iload_n 3, .iconst 1, .iadd, .iaload]) (pc2 := 842) (L2 := [(4, 1), (2, v1), (2, v2), (0, v3)]) (S2 := [(0, u1), (2, v1)]) (h2 := h) (by decide +kernel) (by subst he; rfl) (by exact hg) ?_
  clear hg he
  obtain ⟨u2, hg, he, hx⟩ := bgd hx
  refine Ev.blk (is := [.aload_n 0, .iload_n 3, .iconst 2, .iadd, .iaload]) (pc2 := 847) (L2 := [(4, 1), (2, v1), (2, v2), (0, v3)]) (S2 := [(0, u2), (0, u1), (2, v1)]) (h2 := h) (by decide +kernel) (by subst he; rfl) (by exact hg) ?_
  clear hg he
  obtain ⟨_, hg, -, hx⟩ := bgd hx
  obtain ⟨u3, hc, hx⟩ := bca hx
  refine Ev.call (args := [(2, v1), (0, u1), (0, u2)]) (S2 := []) (r1 := (some (0, u3))) (h1 := h) (i := .invokevirtual 122) (by decide +kernel) rfl rfl (Nat.le_of_ble_eq_true rfl) (Or.inr (Or.inl ⟨rfl, hg, by decide +kernel⟩)) (x_X_loose (by omega) hc) ?_
  obtain ⟨u4, hg, he, hx⟩ := bgd hx
  refine Ev.blk (is := [.aload_n 2, .aload_n 0, .iload_n 3, .iconst 1, .iadd, .iaload]) (pc2 := 856) (L2 := [(4, 1), (2, v1), (2, v2), (0, v3)]) (S2 := [(0, u4), (2, v2), (0, u3)]) (h2 := h) (by decide +kernel) (by subst he; rfl) (by exact hg) ?_
  clear hg he
  obtain ⟨u5, hg, he, hx⟩ := bgd hx
  refine Ev.blk (is := [.aload_n 0, .iload_n 3, .iconst 2, .iadd, .iaload]) (pc2 := 861) (L2 := [(4, 1), (2, v1), (2, v2), (0, v3)]) (S2 := [(0, u5), (0, u4), (2, v2), (0, u3)]) (h2 := h) (by decide +kernel) (by subst he; rfl) (by exact hg) ?_
  clear hg he
  obtain ⟨_, hg, -, hx⟩ := bgd hx
  obtain ⟨u6, hc, hx⟩ := bca hx
  refine Ev.call (args := [(2, v2), (0, u4), (0, u5)]) (S2 := [(0, u3)]) (r1 := (some (0, u6.1))) (h1 := u6.2) (i := .invokevirtual 244) (by decide +kernel) rfl rfl (Nat.le_of_ble_eq_true rfl) (Or.inr (Or.inl ⟨rfl, hg, by decide +kernel⟩)) (x_R_loose (by omega) hc) ?_
  obtain ⟨ha, hb⟩ := bite hx
  clear hx
  refine Ev.br (i := .if_icmp .eq 636) (len := 3) (a := 1500) (b := 867) (by decide +kernel) rfl Iff.rfl (fun hc => ?_) (fun hc => ?_)
  · have hx := ha hc
    clear ha hb hc
    exact y_Law_law_1500 hd hk18 v1 v2 v3 u6.2 _ hx
  · have hx := hb hc
    clear ha hb hc
    refine Ev.blk (is := [.iconst 0]) (pc2 := 868) (L2 := [(4, 1), (2, v1), (2, v2), (0, v3)]) (S2 := [(0, 0)]) (h2 := u6.2) (by decide +kernel) rfl trivial ?_
    cases hx
    exact Ev.ret (i := .ireturn) (len := 1) (by decide +kernel) rfl (finOf (t := some .boolean) rfl (bz0))
theorem y_Law_law_869 {sc : AS} {d : Nat} (hd : 53 ≤ d) {k18 : Int → Int → Int → AH → Option (Int × AH)} (hk18 : ∀ (v1 : Int) (v2 : Int) (v3 : Int) (h : AH) (r : (Int × AH)), k18 v1 v2 v3 h = some r → Ev sc d 265 18 [(4, 1), (2, v1), (2, v2), (0, v3)] [] h (some (0, r.1)) r.2) : ∀ (v1 : Int) (v2 : Int) (v3 : Int) (h : AH) (r : (Int × AH)), Law_law_869 sc k18 v1 v2 v3 h = some r → Ev sc d 265 869 [(4, 1), (2, v1), (2, v2), (0, v3)] [] h (some (0, r.1)) r.2 := by
  intro v1 v2 v3 h r hx
  unfold Law_law_869 at hx
  obtain ⟨u1, hg, he, hx⟩ := bgd hx
  refine Ev.blk (is := [.aload_n 1, .aload_n 0, .iload_n 3, .iconst 1, .iadd, .iaload]) (pc2 := 875) (L2 := [(4, 1), (2, v1), (2, v2), (0, v3)]) (S2 := [(0, u1), (2, v1)]) (h2 := h) (by decide +kernel) (by subst he; rfl) (by exact hg) ?_
  clear hg he
  obtain ⟨u2, hg, he, hx⟩ := bgd hx
  refine Ev.blk (is := [.aload_n 0, .iload_n 3, .iconst 2, .iadd, .iaload]) (pc2 := 880) (L2 := [(4, 1), (2, v1), (2, v2), (0, v3)]) (S2 := [(0, u2), (0, u1), (2, v1)]) (h2 := h) (by decide +kernel) (by subst he; rfl) (by exact hg) ?_
  clear hg he
  obtain ⟨_, hg, -, hx⟩ := bgd hx
  obtain ⟨u3, hc, hx⟩ := bca hx
  refine Ev.call (args := [(2, v1), (0, u1), (0, u2)]) (S2 := []) (r1 := (some (1, u3))) (h1 := h) (i := .invokevirtual 124) (by decide +kernel) rfl rfl (Nat.le_of_ble_eq_true rfl) (Or.inr (Or.inl ⟨rfl, hg, by decide +kernel⟩)) (x_X_shared (by omega) hc) ?_
  obtain ⟨u4, hg, he, hx⟩ := bgd hx
  refine Ev.blk (is := [.aload_n 2, .aload_n 0, .iload_n 3, .iconst 1, .iadd, .iaload]) (pc2 := 889) (L2 := [(4, 1), (2, v1), (2, v2), (0, v3)]) (S2 := [(0, u4), (2, v2), (1, u3)]) (h2 := h) (by decide +kernel) (by subst he; rfl) (by exact hg) ?_
  clear hg he
  obtain ⟨u5, hg, he, hx⟩ := bgd hx
  refine Ev.blk (is := [.aload_n 0, .iload_n 3, .iconst 2, .iadd, .iaload]) (pc2 := 894) (L2 := [(4, 1), (2, v1), (2, v2), (0, v3)]) (S2 := [(0, u5), (0, u4), (2, v2), (1, u3)]) (h2 := h) (by decide +kernel) (by subst he; rfl) (by exact hg) ?_
  clear hg he
  obtain ⟨_, hg, -, hx⟩ := bgd hx
  obtain ⟨u6, hc, hx⟩ := bca hx
  refine Ev.call (args := [(2, v2), (0, u4), (0, u5)]) (S2 := [(1, u3)]) (r1 := (some (1, u6.1))) (h1 := u6.2) (i := .invokevirtual 245) (by decide +kernel) rfl rfl (Nat.le_of_ble_eq_true rfl) (Or.inr (Or.inl ⟨rfl, hg, by decide +kernel⟩)) (x_R_shared (by omega) hc) ?_
  refine Ev.blk (is := [.lcmp]) (pc2 := 898) (L2 := [(4, 1), (2, v1), (2, v2), (0, v3)]) (S2 := [(0, cmpL u3 u6.1)]) (h2 := u6.2) (by decide +kernel) rfl trivial ?_
  obtain ⟨ha, hb⟩ := bite hx
  clear hx
  refine Ev.br (i := .ifCond .eq 602) (len := 3) (a := 1500) (b := 901) (by decide +kernel) rfl cmpL_eq (fun hc => ?_) (fun hc => ?_)
  · have hx := ha hc
    clear ha hb hc
    exact y_Law_law_1500 hd hk18 v1 v2 v3 u6.2 _ hx
  · have hx := hb hc
    clear ha hb hc
    refine Ev.blk (is := [.iconst 0]) (pc2 := 902) (L2 := [(4, 1), (2, v1), (2, v2), (0, v3)]) (S2 := [(0, 0)]) (h2 := u6.2) (by decide +kernel) rfl trivial ?_
    cases hx
    exact Ev.ret (i := .ireturn) (len := 1) (by decide +kernel) rfl (finOf (t := some .boolean) rfl (bz0))
theorem y_Law_law_903 {sc : AS} {d : Nat} (hd : 53 ≤ d) {k18 : Int → Int → Int → AH → Option (Int × AH)} (hk18 : ∀ (v1 : Int) (v2 : Int) (v3 : Int) (h : AH) (r : (Int × AH)), k18 v1 v2 v3 h = some r → Ev sc d 265 18 [(4, 1), (2, v1), (2, v2), (0, v3)] [] h (some (0, r.1)) r.2) : ∀ (v1 : Int) (v2 : Int) (v3 : Int) (h : AH) (r : (Int × AH)), Law_law_903 sc k18 v1 v2 v3 h = some r → Ev sc d 265 903 [(4, 1), (2, v1), (2, v2), (0, v3)] [] h (some (0, r.1)) r.2 := by
  intro v1 v2 v3 h r hx
  unfold Law_law_903 at hx
  obtain ⟨u1, hg, he, hx⟩ := bgd hx
  refine Ev.blk (is := [.aload_n 1, .aload_n 0, .iload_n 3, .iconst 1, .iadd, .iaload]) (pc2 := 909) (L2 := [(4, 1), (2, v1), (2, v2), (0, v3)]) (S2 := [(0, u1), (2, v1)]) (h2 := h) (by decide +kernel) (by subst he; rfl) (by exact hg) ?_
  clear hg he
  obtain ⟨u2, hg, he, hx⟩ := bgd hx
  refine Ev.blk (is := [.aload_n 0, .iload_n 3, .iconst 2, .iadd, .iaload]) (pc2 := 914) (L2 := [(4, 1), (2, v1), (2, v2), (0, v3)]) (S2 := [(0, u2), (0, u1), (2, v1)]) (h2 := h) (by decide +kernel) (by subst he; rfl) (by exact hg) ?_
  clear hg he
  obtain ⟨_, hg, -, hx⟩ := bgd hx
  obtain ⟨u3, hc, hx⟩ := bca hx
  refine Ev.call (args := [(2, v1), (0, u1), (0, u2)]) (S2 := []) (r1 := (some (0, u3.1))) (h1 := u3.2) (i := .invokevirtual 125) (by decide +kernel) rfl rfl (Nat.le_of_ble_eq_true rfl) (Or.inr (Or.inl ⟨rfl, hg, by decide +kernel⟩)) (x_X_spell (by omega) hc) ?_
  obtain ⟨u4, hg, he, hx⟩ := bgd hx
  refine Ev.blk (is := [.aload_n 2, .aload_n 0, .iload_n 3, .iconst 1, .iadd, .iaload]) (pc2 := 923) (L2 := [(4, 1), (2, v1), (2, v2), (0, v3)]) (S2 := [(0, u4), (2, v2), (0, u3.1)]) (h2 := u3.2) (by decide +kernel) (by subst he; rfl) (by exact hg) ?_
  clear hg he
  obtain ⟨u5, hg, he, hx⟩ := bgd hx
  refine Ev.blk (is := [.aload_n 0, .iload_n 3, .iconst 2, .iadd, .iaload]) (pc2 := 928) (L2 := [(4, 1), (2, v1), (2, v2), (0, v3)]) (S2 := [(0, u5), (0, u4), (2, v2), (0, u3.1)]) (h2 := u3.2) (by decide +kernel) (by subst he; rfl) (by exact hg) ?_
  clear hg he
  obtain ⟨_, hg, -, hx⟩ := bgd hx
  obtain ⟨u6, hc, hx⟩ := bca hx
  refine Ev.call (args := [(2, v2), (0, u4), (0, u5)]) (S2 := [(0, u3.1)]) (r1 := (some (0, u6.1))) (h1 := u6.2) (i := .invokevirtual 216) (by decide +kernel) rfl rfl (Nat.le_of_ble_eq_true rfl) (Or.inr (Or.inl ⟨rfl, hg, by decide +kernel⟩)) (x_R_spell (by omega) hc) ?_
  obtain ⟨ha, hb⟩ := bite hx
  clear hx
  refine Ev.br (i := .if_icmp .eq 569) (len := 3) (a := 1500) (b := 934) (by decide +kernel) rfl Iff.rfl (fun hc => ?_) (fun hc => ?_)
  · have hx := ha hc
    clear ha hb hc
    exact y_Law_law_1500 hd hk18 v1 v2 v3 u6.2 _ hx
  · have hx := hb hc
    clear ha hb hc
    refine Ev.blk (is := [.iconst 0]) (pc2 := 935) (L2 := [(4, 1), (2, v1), (2, v2), (0, v3)]) (S2 := [(0, 0)]) (h2 := u6.2) (by decide +kernel) rfl trivial ?_
    cases hx
    exact Ev.ret (i := .ireturn) (len := 1) (by decide +kernel) rfl (finOf (t := some .boolean) rfl (bz0))
theorem y_Law_law_936 {sc : AS} {d : Nat} (hd : 53 ≤ d) {k18 : Int → Int → Int → AH → Option (Int × AH)} (hk18 : ∀ (v1 : Int) (v2 : Int) (v3 : Int) (h : AH) (r : (Int × AH)), k18 v1 v2 v3 h = some r → Ev sc d 265 18 [(4, 1), (2, v1), (2, v2), (0, v3)] [] h (some (0, r.1)) r.2) : ∀ (v1 : Int) (v2 : Int) (v3 : Int) (h : AH) (r : (Int × AH)), Law_law_936 sc k18 v1 v2 v3 h = some r → Ev sc d 265 936 [(4, 1), (2, v1), (2, v2), (0, v3)] [] h (some (0, r.1)) r.2 := by
  intro v1 v2 v3 h r hx
  unfold Law_law_936 at hx
  obtain ⟨u1, hg, he, hx⟩ := bgd hx
  refine Ev.blk (is := [.aload_n 1, .aload_n 0, .iload_n 3, .iconst 1, .iadd, .iaload]) (pc2 := 942) (L2 := [(4, 1), (2, v1), (2, v2), (0, v3)]) (S2 := [(0, u1), (2, v1)]) (h2 := h) (by decide +kernel) (by subst he; rfl) (by exact hg) ?_
  clear hg he
  obtain ⟨_, hg, -, hx⟩ := bgd hx
  obtain ⟨u2, hc, hx⟩ := bca hx
  refine Ev.call (args := [(2, v1), (0, u1)]) (S2 := []) (r1 := (some (0, u2))) (h1 := h) (i := .invokevirtual 132) (by decide +kernel) rfl rfl (Nat.le_of_ble_eq_true rfl) (Or.inr (Or.inl ⟨rfl, hg, by decide +kernel⟩)) (x_X_proof (by omega) hc) ?_
  obtain ⟨u3, hg, he, hx⟩ := bgd hx
  refine Ev.blk (is := [.aload_n 2, .aload_n 0, .iload_n 3, .iconst 1, .iadd, .iaload]) (pc2 := 951) (L2 := [(4, 1), (2, v1), (2, v2), (0, v3)]) (S2 := [(0, u3), (2, v2), (0, u2)]) (h2 := h) (by decide +kernel) (by subst he; rfl) (by exact hg) ?_
  clear hg he
  obtain ⟨_, hg, -, hx⟩ := bgd hx
  obtain ⟨u4, hc, hx⟩ := bca hx
  refine Ev.call (args := [(2, v2), (0, u3)]) (S2 := [(0, u2)]) (r1 := (some (0, u4.1))) (h1 := u4.2) (i := .invokevirtual 246) (by decide +kernel) rfl rfl (Nat.le_of_ble_eq_true rfl) (Or.inr (Or.inl ⟨rfl, hg, by decide +kernel⟩)) (x_R_proof (by omega) hc) ?_
  obtain ⟨ha, hb⟩ := bite hx
  clear hx
  refine Ev.br (i := .if_icmp .eq 546) (len := 3) (a := 1500) (b := 957) (by decide +kernel) rfl Iff.rfl (fun hc => ?_) (fun hc => ?_)
  · have hx := ha hc
    clear ha hb hc
    exact y_Law_law_1500 hd hk18 v1 v2 v3 u4.2 _ hx
  · have hx := hb hc
    clear ha hb hc
    refine Ev.blk (is := [.iconst 0]) (pc2 := 958) (L2 := [(4, 1), (2, v1), (2, v2), (0, v3)]) (S2 := [(0, 0)]) (h2 := u4.2) (by decide +kernel) rfl trivial ?_
    cases hx
    exact Ev.ret (i := .ireturn) (len := 1) (by decide +kernel) rfl (finOf (t := some .boolean) rfl (bz0))
theorem y_Law_law_959 {sc : AS} {d : Nat} (hd : 53 ≤ d) {k18 : Int → Int → Int → AH → Option (Int × AH)} (hk18 : ∀ (v1 : Int) (v2 : Int) (v3 : Int) (h : AH) (r : (Int × AH)), k18 v1 v2 v3 h = some r → Ev sc d 265 18 [(4, 1), (2, v1), (2, v2), (0, v3)] [] h (some (0, r.1)) r.2) : ∀ (v1 : Int) (v2 : Int) (v3 : Int) (h : AH) (r : (Int × AH)), Law_law_959 sc k18 v1 v2 v3 h = some r → Ev sc d 265 959 [(4, 1), (2, v1), (2, v2), (0, v3)] [] h (some (0, r.1)) r.2 := by
  intro v1 v2 v3 h r hx
  unfold Law_law_959 at hx
  obtain ⟨u1, hg, he, hx⟩ := bgd hx
  refine Ev.blk (is := [.aload_n 1, .aload_n 0, .iload_n 3, .iconst 1, .iadd, .iaload]) (pc2 := 965) (L2 := [(4, 1), (2, v1), (2, v2), (0, v3)]) (S2 := [(0, u1), (2, v1)]) (h2 := h) (by decide +kernel) (by subst he; rfl) (by exact hg) ?_
  clear hg he
  obtain ⟨u2, hg, he, hx⟩ := bgd hx
  refine Ev.blk (is := [.aload_n 0, .iload_n 3, .iconst 2, .iadd, .iaload]) (pc2 := 970) (L2 := [(4, 1), (2, v1), (2, v2), (0, v3)]) (S2 := [(0, u2), (0, u1), (2, v1)]) (h2 := h) (by decide +kernel) (by subst he; rfl) (by exact hg) ?_
  clear hg he
  obtain ⟨_, hg, -, hx⟩ := bgd hx
  obtain ⟨u3, hc, hx⟩ := bca hx
  refine Ev.call (args := [(2, v1), (0, u1), (0, u2)]) (S2 := []) (r1 := (some (0, u3.1))) (h1 := u3.2) (i := .invokevirtual 133) (by decide +kernel) rfl rfl (Nat.le_of_ble_eq_true rfl) (Or.inr (Or.inl ⟨rfl, hg, by decide +kernel⟩)) (x_X_prime (by omega) hc) ?_
  obtain ⟨u4, hg, he, hx⟩ := bgd hx
  refine Ev.blk (is := [.aload_n 2, .aload_n 0, .iload_n 3, .iconst 1, .iadd, .iaload]) (pc2 := 979) (L2 := [(4, 1), (2, v1), (2, v2), (0, v3)]) (S2 := [(0, u4), (2, v2), (0, u3.1)]) (h2 := u3.2) (by decide +kernel) (by subst he; rfl) (by exact hg) ?_
  clear hg he
  obtain ⟨u5, hg, he, hx⟩ := bgd hx
  refine Ev.blk (is := [.aload_n 0, .iload_n 3, .iconst 2, .iadd, .iaload]) (pc2 := 984) (L2 := [(4, 1), (2, v1), (2, v2), (0, v3)]) (S2 := [(0, u5), (0, u4), (2, v2), (0, u3.1)]) (h2 := u3.2) (by decide +kernel) (by subst he; rfl) (by exact hg) ?_
  clear hg he
  obtain ⟨_, hg, -, hx⟩ := bgd hx
  obtain ⟨u6, hc, hx⟩ := bca hx
  refine Ev.call (args := [(2, v2), (0, u4), (0, u5)]) (S2 := [(0, u3.1)]) (r1 := (some (0, u6.1))) (h1 := u6.2) (i := .invokevirtual 247) (by decide +kernel) rfl rfl (Nat.le_of_ble_eq_true rfl) (Or.inr (Or.inl ⟨rfl, hg, by decide +kernel⟩)) (x_R_prime (by omega) hc) ?_
  obtain ⟨ha, hb⟩ := bite hx
  clear hx
  refine Ev.br (i := .if_icmp .eq 513) (len := 3) (a := 1500) (b := 990) (by decide +kernel) rfl Iff.rfl (fun hc => ?_) (fun hc => ?_)
  · have hx := ha hc
    clear ha hb hc
    exact y_Law_law_1500 hd hk18 v1 v2 v3 u6.2 _ hx
  · have hx := hb hc
    clear ha hb hc
    refine Ev.blk (is := [.iconst 0]) (pc2 := 991) (L2 := [(4, 1), (2, v1), (2, v2), (0, v3)]) (S2 := [(0, 0)]) (h2 := u6.2) (by decide +kernel) rfl trivial ?_
    cases hx
    exact Ev.ret (i := .ireturn) (len := 1) (by decide +kernel) rfl (finOf (t := some .boolean) rfl (bz0))
theorem y_Law_law_992 {sc : AS} {d : Nat} (hd : 53 ≤ d) {k18 : Int → Int → Int → AH → Option (Int × AH)} (hk18 : ∀ (v1 : Int) (v2 : Int) (v3 : Int) (h : AH) (r : (Int × AH)), k18 v1 v2 v3 h = some r → Ev sc d 265 18 [(4, 1), (2, v1), (2, v2), (0, v3)] [] h (some (0, r.1)) r.2) : ∀ (v1 : Int) (v2 : Int) (v3 : Int) (h : AH) (r : (Int × AH)), Law_law_992 sc k18 v1 v2 v3 h = some r → Ev sc d 265 992 [(4, 1), (2, v1), (2, v2), (0, v3)] [] h (some (0, r.1)) r.2 := by
  intro v1 v2 v3 h r hx
  unfold Law_law_992 at hx
  obtain ⟨u1, hg, he, hx⟩ := bgd hx
  refine Ev.blk (is := [.aload_n 1, .aload_n 0, .iload_n 3, .iconst 1, .iadd, .iaload]) (pc2 := 998) (L2 := [(4, 1), (2, v1), (2, v2), (0, v3)]) (S2 := [(0, u1), (2, v1)]) (h2 := h) (by decide +kernel) (by subst he; rfl) (by exact hg) ?_
  clear hg he
  obtain ⟨u2, hg, he, hx⟩ := bgd hx
  refine Ev.blk (is := [.aload_n 0, .iload_n 3, .iconst 2, .iadd, .iaload]) (pc2 := 1003) (L2 := [(4, 1), (2, v1), (2, v2), (0, v3)]) (S2 := [(0, u2), (0, u1), (2, v1)]) (h2 := h) (by decide +kernel) (by subst he; rfl) (by exact hg) ?_
  clear hg he
  obtain ⟨_, hg, -, hx⟩ := bgd hx
  obtain ⟨u3, hc, hx⟩ := bca hx
  refine Ev.call (args := [(2, v1), (0, u1), (0, u2)]) (S2 := []) (r1 := (some (0, u3))) (h1 := h) (i := .invokevirtual 134) (by decide +kernel) rfl rfl (Nat.le_of_ble_eq_true rfl) (Or.inr (Or.inl ⟨rfl, hg, by decide +kernel⟩)) (x_X_often (by omega) hc) ?_
  obtain ⟨u4, hg, he, hx⟩ := bgd hx
  refine Ev.blk (is := [.aload_n 2, .aload_n 0, .iload_n 3, .iconst 1, .iadd, .iaload]) (pc2 := 1012) (L2 := [(4, 1), (2, v1), (2, v2), (0, v3)]) (S2 := [(0, u4), (2, v2), (0, u3)]) (h2 := h) (by decide +kernel) (by subst he; rfl) (by exact hg) ?_
  clear hg he
  obtain ⟨u5, hg, he, hx⟩ := bgd hx
  refine Ev.blk (is := [.aload_n 0, .iload_n 3, .iconst 2, .iadd, .iaload]) (pc2 := 1017) (L2 := [(4, 1), (2, v1), (2, v2), (0, v3)]) (S2 := [(0, u5), (0, u4), (2, v2), (0, u3)]) (h2 := h) (by decide +kernel) (by subst he; rfl) (by exact hg) ?_
  clear hg he
  obtain ⟨_, hg, -, hx⟩ := bgd hx
  obtain ⟨u6, hc, hx⟩ := bca hx
  refine Ev.call (args := [(2, v2), (0, u4), (0, u5)]) (S2 := [(0, u3)]) (r1 := (some (0, u6))) (h1 := h) (i := .invokevirtual 248) (by decide +kernel) rfl rfl (Nat.le_of_ble_eq_true rfl) (Or.inr (Or.inl ⟨rfl, hg, by decide +kernel⟩)) (x_R_often (by omega) hc) ?_
  obtain ⟨ha, hb⟩ := bite hx
  clear hx
  refine Ev.br (i := .if_icmp .eq 480) (len := 3) (a := 1500) (b := 1023) (by decide +kernel) rfl Iff.rfl (fun hc => ?_) (fun hc => ?_)
  · have hx := ha hc
    clear ha hb hc
    exact y_Law_law_1500 hd hk18 v1 v2 v3 h _ hx
  · have hx := hb hc
    clear ha hb hc
    refine Ev.blk (is := [.iconst 0]) (pc2 := 1024) (L2 := [(4, 1), (2, v1), (2, v2), (0, v3)]) (S2 := [(0, 0)]) (h2 := h) (by decide +kernel) rfl trivial ?_
    cases hx
    exact Ev.ret (i := .ireturn) (len := 1) (by decide +kernel) rfl (finOf (t := some .boolean) rfl (bz0))
theorem y_Law_law_1025 {sc : AS} {d : Nat} (hd : 53 ≤ d) {k18 : Int → Int → Int → AH → Option (Int × AH)} (hk18 : ∀ (v1 : Int) (v2 : Int) (v3 : Int) (h : AH) (r : (Int × AH)), k18 v1 v2 v3 h = some r → Ev sc d 265 18 [(4, 1), (2, v1), (2, v2), (0, v3)] [] h (some (0, r.1)) r.2) : ∀ (v1 : Int) (v2 : Int) (v3 : Int) (h : AH) (r : (Int × AH)), Law_law_1025 sc k18 v1 v2 v3 h = some r → Ev sc d 265 1025 [(4, 1), (2, v1), (2, v2), (0, v3)] [] h (some (0, r.1)) r.2 := by
  intro v1 v2 v3 h r hx
  unfold Law_law_1025 at hx
  obtain ⟨u1, hg, he, hx⟩ := bgd hx
  refine Ev.blk (is := [.aload_n 1, .aload_n 0, .iload_n 3, .iconst 1, .iadd, .iaload]) (pc2 := 1031) (L2 := [(4, 1), (2, v1), (2, v2), (0, v3)]) (S2 := [(0, u1), (2, v1)]) (h2 := h) (by decide +kernel) (by subst he; rfl) (by exact hg) ?_
  clear hg he
  obtain ⟨u2, hg, he, hx⟩ := bgd hx
  refine Ev.blk (is := [.aload_n 0, .iload_n 3, .iconst 2, .iadd, .iaload]) (pc2 := 1036) (L2 := [(4, 1), (2, v1), (2, v2), (0, v3)]) (S2 := [(0, u2), (0, u1), (2, v1)]) (h2 := h) (by decide +kernel) (by subst he; rfl) (by exact hg) ?_
  clear hg he
  obtain ⟨_, hg, -, hx⟩ := bgd hx
  obtain ⟨u3, hc, hx⟩ := bca hx
  refine Ev.call (args := [(2, v1), (0, u1), (0, u2)]) (S2 := []) (r1 := (some (0, u3.1))) (h1 := u3.2) (i := .invokevirtual 135) (by decide +kernel) rfl rfl (Nat.le_of_ble_eq_true rfl) (Or.inr (Or.inl ⟨rfl, hg, by decide +kernel⟩)) (x_X_needs (by omega) hc) ?_
  obtain ⟨u4, hg, he, hx⟩ := bgd hx
  refine Ev.blk (is := [.aload_n 2, .aload_n 0, .iload_n 3, .iconst 1, .iadd, .iaload]) (pc2 := 1045) (L2 := [(4, 1), (2, v1), (2, v2), (0, v3)]) (S2 := [(0, u4), (2, v2), (0, u3.1)]) (h2 := u3.2) (by decide +kernel) (by subst he; rfl) (by exact hg) ?_
  clear hg he
  obtain ⟨u5, hg, he, hx⟩ := bgd hx
  refine Ev.blk (is := [.aload_n 0, .iload_n 3, .iconst 2, .iadd, .iaload]) (pc2 := 1050) (L2 := [(4, 1), (2, v1), (2, v2), (0, v3)]) (S2 := [(0, u5), (0, u4), (2, v2), (0, u3.1)]) (h2 := u3.2) (by decide +kernel) (by subst he; rfl) (by exact hg) ?_
  clear hg he
  obtain ⟨_, hg, -, hx⟩ := bgd hx
  obtain ⟨u6, hc, hx⟩ := bca hx
  refine Ev.call (args := [(2, v2), (0, u4), (0, u5)]) (S2 := [(0, u3.1)]) (r1 := (some (0, u6.1))) (h1 := u6.2) (i := .invokevirtual 199) (by decide +kernel) rfl rfl (Nat.le_of_ble_eq_true rfl) (Or.inr (Or.inl ⟨rfl, hg, by decide +kernel⟩)) (x_R_needs (by omega) hc) ?_
  obtain ⟨ha, hb⟩ := bite hx
  clear hx
  refine Ev.br (i := .if_icmp .eq 447) (len := 3) (a := 1500) (b := 1056) (by decide +kernel) rfl Iff.rfl (fun hc => ?_) (fun hc => ?_)
  · have hx := ha hc
    clear ha hb hc
    exact y_Law_law_1500 hd hk18 v1 v2 v3 u6.2 _ hx
  · have hx := hb hc
    clear ha hb hc
    refine Ev.blk (is := [.iconst 0]) (pc2 := 1057) (L2 := [(4, 1), (2, v1), (2, v2), (0, v3)]) (S2 := [(0, 0)]) (h2 := u6.2) (by decide +kernel) rfl trivial ?_
    cases hx
    exact Ev.ret (i := .ireturn) (len := 1) (by decide +kernel) rfl (finOf (t := some .boolean) rfl (bz0))
theorem y_Law_law_1058 {sc : AS} {d : Nat} (hd : 53 ≤ d) {k18 : Int → Int → Int → AH → Option (Int × AH)} (hk18 : ∀ (v1 : Int) (v2 : Int) (v3 : Int) (h : AH) (r : (Int × AH)), k18 v1 v2 v3 h = some r → Ev sc d 265 18 [(4, 1), (2, v1), (2, v2), (0, v3)] [] h (some (0, r.1)) r.2) : ∀ (v1 : Int) (v2 : Int) (v3 : Int) (h : AH) (r : (Int × AH)), Law_law_1058 sc k18 v1 v2 v3 h = some r → Ev sc d 265 1058 [(4, 1), (2, v1), (2, v2), (0, v3)] [] h (some (0, r.1)) r.2 := by
  intro v1 v2 v3 h r hx
  unfold Law_law_1058 at hx
  obtain ⟨u1, hg, he, hx⟩ := bgd hx
  refine Ev.blk (is := [.aload_n 1, .aload_n 0, .iload_n 3, .iconst 1, .iadd, .iaload]) (pc2 := 1064) (L2 := [(4, 1), (2, v1), (2, v2), (0, v3)]) (S2 := [(0, u1), (2, v1)]) (h2 := h) (by decide +kernel) (by subst he; rfl) (by exact hg) ?_
  clear hg he
  obtain ⟨_, hg, -, hx⟩ := bgd hx
  obtain ⟨u2, hc, hx⟩ := bca hx
  refine Ev.call (args := [(2, v1), (0, u1)]) (S2 := []) (r1 := (some (0, u2.1))) (h1 := u2.2) (i := .invokevirtual 136) (by decide +kernel) rfl rfl (Nat.le_of_ble_eq_true rfl) (Or.inr (Or.inl ⟨rfl, hg, by decide +kernel⟩)) (x_X_fewest (by omega) hc) ?_
  obtain ⟨u3, hg, he, hx⟩ := bgd hx
  refine Ev.blk (is := [.aload_n 2, .aload_n 0, .iload_n 3, .iconst 1, .iadd, .iaload]) (pc2 := 1073) (L2 := [(4, 1), (2, v1), (2, v2), (0, v3)]) (S2 := [(0, u3), (2, v2), (0, u2.1)]) (h2 := u2.2) (by decide +kernel) (by subst he; rfl) (by exact hg) ?_
  clear hg he
  obtain ⟨_, hg, -, hx⟩ := bgd hx
  obtain ⟨u4, hc, hx⟩ := bca hx
  refine Ev.call (args := [(2, v2), (0, u3)]) (S2 := [(0, u2.1)]) (r1 := (some (0, u4.1))) (h1 := u4.2) (i := .invokevirtual 200) (by decide +kernel) rfl rfl (Nat.le_of_ble_eq_true rfl) (Or.inr (Or.inl ⟨rfl, hg, by decide +kernel⟩)) (x_R_fewest (by omega) hc) ?_
  obtain ⟨ha, hb⟩ := bite hx
  clear hx
  refine Ev.br (i := .if_icmp .eq 424) (len := 3) (a := 1500) (b := 1079) (by decide +kernel) rfl Iff.rfl (fun hc => ?_) (fun hc => ?_)
  · have hx := ha hc
    clear ha hb hc
    exact y_Law_law_1500 hd hk18 v1 v2 v3 u4.2 _ hx
  · have hx := hb hc
    clear ha hb hc
    refine Ev.blk (is := [.iconst 0]) (pc2 := 1080) (L2 := [(4, 1), (2, v1), (2, v2), (0, v3)]) (S2 := [(0, 0)]) (h2 := u4.2) (by decide +kernel) rfl trivial ?_
    cases hx
    exact Ev.ret (i := .ireturn) (len := 1) (by decide +kernel) rfl (finOf (t := some .boolean) rfl (bz0))
theorem y_Law_law_1081 {sc : AS} {d : Nat} (hd : 53 ≤ d) {k18 : Int → Int → Int → AH → Option (Int × AH)} (hk18 : ∀ (v1 : Int) (v2 : Int) (v3 : Int) (h : AH) (r : (Int × AH)), k18 v1 v2 v3 h = some r → Ev sc d 265 18 [(4, 1), (2, v1), (2, v2), (0, v3)] [] h (some (0, r.1)) r.2) : ∀ (v1 : Int) (v2 : Int) (v3 : Int) (h : AH) (r : (Int × AH)), Law_law_1081 sc k18 v1 v2 v3 h = some r → Ev sc d 265 1081 [(4, 1), (2, v1), (2, v2), (0, v3)] [] h (some (0, r.1)) r.2 := by
  intro v1 v2 v3 h r hx
  unfold Law_law_1081 at hx
  obtain ⟨u1, hg, he, hx⟩ := bgd hx
  refine Ev.blk (is := [.aload_n 1, .aload_n 0, .iload_n 3, .iconst 1, .iadd, .iaload]) (pc2 := 1087) (L2 := [(4, 1), (2, v1), (2, v2), (0, v3)]) (S2 := [(0, u1), (2, v1)]) (h2 := h) (by decide +kernel) (by subst he; rfl) (by exact hg) ?_
  clear hg he
  obtain ⟨_, hg, -, hx⟩ := bgd hx
  obtain ⟨u2, hc, hx⟩ := bca hx
  refine Ev.call (args := [(2, v1), (0, u1)]) (S2 := []) (r1 := (some (0, u2))) (h1 := h) (i := .invokevirtual 137) (by decide +kernel) rfl rfl (Nat.le_of_ble_eq_true rfl) (Or.inr (Or.inl ⟨rfl, hg, by decide +kernel⟩)) (x_X_next (by omega) hc) ?_
  obtain ⟨u3, hg, he, hx⟩ := bgd hx
  refine Ev.blk (is := [.aload_n 2, .aload_n 0, .iload_n 3, .iconst 1, .iadd, .iaload]) (pc2 := 1096) (L2 := [(4, 1), (2, v1), (2, v2), (0, v3)]) (S2 := [(0, u3), (2, v2), (0, u2)]) (h2 := h) (by decide +kernel) (by subst he; rfl) (by exact hg) ?_
  clear hg he
  obtain ⟨_, hg, -, hx⟩ := bgd hx
  obtain ⟨u4, hc, hx⟩ := bca hx
  refine Ev.call (args := [(2, v2), (0, u3)]) (S2 := [(0, u2)]) (r1 := (some (0, u4))) (h1 := h) (i := .invokevirtual 249) (by decide +kernel) rfl rfl (Nat.le_of_ble_eq_true rfl) (Or.inr (Or.inl ⟨rfl, hg, by decide +kernel⟩)) (x_R_next (by omega) hc) ?_
  obtain ⟨ha, hb⟩ := bite hx
  clear hx
  refine Ev.br (i := .if_icmp .eq 401) (len := 3) (a := 1500) (b := 1102) (by decide +kernel) rfl Iff.rfl (fun hc => ?_) (fun hc => ?_)
  · have hx := ha hc
    clear ha hb hc
    exact y_Law_law_1500 hd hk18 v1 v2 v3 h _ hx
  · have hx := hb hc
    clear ha hb hc
    refine Ev.blk (is := [.iconst 0]) (pc2 := 1103) (L2 := [(4, 1), (2, v1), (2, v2), (0, v3)]) (S2 := [(0, 0)]) (h2 := h) (by decide +kernel) rfl trivial ?_
    cases hx
    exact Ev.ret (i := .ireturn) (len := 1) (by decide +kernel) rfl (finOf (t := some .boolean) rfl (bz0))
theorem y_Law_law_1104 {sc : AS} {d : Nat} (hd : 53 ≤ d) {k18 : Int → Int → Int → AH → Option (Int × AH)} (hk18 : ∀ (v1 : Int) (v2 : Int) (v3 : Int) (h : AH) (r : (Int × AH)), k18 v1 v2 v3 h = some r → Ev sc d 265 18 [(4, 1), (2, v1), (2, v2), (0, v3)] [] h (some (0, r.1)) r.2) : ∀ (v1 : Int) (v2 : Int) (v3 : Int) (h : AH) (r : (Int × AH)), Law_law_1104 sc k18 v1 v2 v3 h = some r → Ev sc d 265 1104 [(4, 1), (2, v1), (2, v2), (0, v3)] [] h (some (0, r.1)) r.2 := by
  intro v1 v2 v3 h r hx
  unfold Law_law_1104 at hx
  obtain ⟨u1, hg, he, hx⟩ := bgd hx
  refine Ev.blk (is := [.aload_n 1, .aload_n 0, .iload_n 3, .iconst 1, .iadd, .iaload]) (pc2 := 1110) (L2 := [(4, 1), (2, v1), (2, v2), (0, v3)]) (S2 := [(0, u1), (2, v1)]) (h2 := h) (by decide +kernel) (by subst he; rfl) (by exact hg) ?_
  clear hg he
  obtain ⟨u2, hg, he, hx⟩ := bgd hx
  refine Ev.blk (is := [.aload_n 0, .iload_n 3, .iconst 2, .iadd, .iaload]) (pc2 := 1115) (L2 := [(4, 1), (2, v1), (2, v2), (0, v3)]) (S2 := [(0, u2), (0, u1), (2, v1)]) (h2 := h) (by decide +kernel) (by subst he; rfl) (by exact hg) ?_
  clear hg he
  obtain ⟨_, hg, -, hx⟩ := bgd hx
  obtain ⟨u3, hc, hx⟩ := bca hx
  refine Ev.call (args := [(2, v1), (0, u1), (0, u2)]) (S2 := []) (r1 := (some (0, u3.1))) (h1 := u3.2) (i := .invokevirtual 138) (by decide +kernel) rfl rfl (Nat.le_of_ble_eq_true rfl) (Or.inr (Or.inl ⟨rfl, hg, by decide +kernel⟩)) (x_X_smooth (by omega) hc) ?_
  obtain ⟨u4, hg, he, hx⟩ := bgd hx
  refine Ev.blk (is := [.aload_n 2, .aload_n 0, .iload_n 3, .iconst 1, .iadd, .iaload]) (pc2 := 1124) (L2 := [(4, 1), (2, v1), (2, v2), (0, v3)]) (S2 := [(0, u4), (2, v2), (0, u3.1)]) (h2 := u3.2) (by decide +kernel) (by subst he; rfl) (by exact hg) ?_
  clear hg he
  obtain ⟨u5, hg, he, hx⟩ := bgd hx
  refine Ev.blk (is := [.aload_n 0, .iload_n 3, .iconst 2, .iadd, .iaload]) (pc2 := 1129) (L2 := [(4, 1), (2, v1), (2, v2), (0, v3)]) (S2 := [(0, u5), (0, u4), (2, v2), (0, u3.1)]) (h2 := u3.2) (by decide +kernel) (by subst he; rfl) (by exact hg) ?_
  clear hg he
  obtain ⟨_, hg, -, hx⟩ := bgd hx
  obtain ⟨u6, hc, hx⟩ := bca hx
  refine Ev.call (args := [(2, v2), (0, u4), (0, u5)]) (S2 := [(0, u3.1)]) (r1 := (some (0, u6.1))) (h1 := u6.2) (i := .invokevirtual 250) (by decide +kernel) rfl rfl (Nat.le_of_ble_eq_true rfl) (Or.inr (Or.inl ⟨rfl, hg, by decide +kernel⟩)) (x_R_smooth (by omega) hc) ?_
  obtain ⟨ha, hb⟩ := bite hx
  clear hx
  refine Ev.br (i := .if_icmp .eq 368) (len := 3) (a := 1500) (b := 1135) (by decide +kernel) rfl Iff.rfl (fun hc => ?_) (fun hc => ?_)
  · have hx := ha hc
    clear ha hb hc
    exact y_Law_law_1500 hd hk18 v1 v2 v3 u6.2 _ hx
  · have hx := hb hc
    clear ha hb hc
    refine Ev.blk (is := [.iconst 0]) (pc2 := 1136) (L2 := [(4, 1), (2, v1), (2, v2), (0, v3)]) (S2 := [(0, 0)]) (h2 := u6.2) (by decide +kernel) rfl trivial ?_
    cases hx
    exact Ev.ret (i := .ireturn) (len := 1) (by decide +kernel) rfl (finOf (t := some .boolean) rfl (bz0))
theorem y_Law_law_1137 {sc : AS} {d : Nat} (hd : 53 ≤ d) {k18 : Int → Int → Int → AH → Option (Int × AH)} (hk18 : ∀ (v1 : Int) (v2 : Int) (v3 : Int) (h : AH) (r : (Int × AH)), k18 v1 v2 v3 h = some r → Ev sc d 265 18 [(4, 1), (2, v1), (2, v2), (0, v3)] [] h (some (0, r.1)) r.2) : ∀ (v1 : Int) (v2 : Int) (v3 : Int) (h : AH) (r : (Int × AH)), Law_law_1137 sc k18 v1 v2 v3 h = some r → Ev sc d 265 1137 [(4, 1), (2, v1), (2, v2), (0, v3)] [] h (some (0, r.1)) r.2 := by
  intro v1 v2 v3 h r hx
  unfold Law_law_1137 at hx
  obtain ⟨u1, hg, he, hx⟩ := bgd hx
  refine Ev.blk (is := [.aload_n 1, .aload_n 0, .iload_n 3, .iconst 1, .iadd, .iaload]) (pc2 := 1143) (L2 := [(4, 1), (2, v1), (2, v2), (0, v3)]) (S2 := [(0, u1), (2, v1)]) (h2 := h) (by decide +kernel) (by subst he; rfl) (by exact hg) ?_
  clear hg he
  obtain ⟨_, hg, -, hx⟩ := bgd hx
  obtain ⟨u2, hc, hx⟩ := bca hx
  refine Ev.call (args := [(2, v1), (0, u1)]) (S2 := []) (r1 := (some (0, u2.1))) (h1 := u2.2) (i := .invokevirtual 140) (by decide +kernel) rfl rfl (Nat.le_of_ble_eq_true rfl) (Or.inr (Or.inl ⟨rfl, hg, by decide +kernel⟩)) (x_X_bound (by omega) hc) ?_
  obtain ⟨u3, hg, he, hx⟩ := bgd hx
  refine Ev.blk (is := [.aload_n 2, .aload_n 0, .iload_n 3, .iconst 1, .iadd, .iaload]) (pc2 := 1152) (L2 := [(4, 1), (2, v1), (2, v2), (0, v3)]) (S2 := [(0, u3), (2, v2), (0, u2.1)]) (h2 := u2.2) (by decide +kernel) (by subst he; rfl) (by exact hg) ?_
  clear hg he
  obtain ⟨_, hg, -, hx⟩ := bgd hx
  obtain ⟨u4, hc, hx⟩ := bca hx
  refine Ev.call (args := [(2, v2), (0, u3)]) (S2 := [(0, u2.1)]) (r1 := (some (0, u4.1))) (h1 := u4.2) (i := .invokevirtual 252) (by decide +kernel) rfl rfl (Nat.le_of_ble_eq_true rfl) (Or.inr (Or.inl ⟨rfl, hg, by decide +kernel⟩)) (x_R_bound (by omega) hc) ?_
  obtain ⟨ha, hb⟩ := bite hx
  clear hx
  refine Ev.br (i := .if_icmp .eq 345) (len := 3) (a := 1500) (b := 1158) (by decide +kernel) rfl Iff.rfl (fun hc => ?_) (fun hc => ?_)
  · have hx := ha hc
    clear ha hb hc
    exact y_Law_law_1500 hd hk18 v1 v2 v3 u4.2 _ hx
  · have hx := hb hc
    clear ha hb hc
    refine Ev.blk (is := [.iconst 0]) (pc2 := 1159) (L2 := [(4, 1), (2, v1), (2, v2), (0, v3)]) (S2 := [(0, 0)]) (h2 := u4.2) (by decide +kernel) rfl trivial ?_
    cases hx
    exact Ev.ret (i := .ireturn) (len := 1) (by decide +kernel) rfl (finOf (t := some .boolean) rfl (bz0))
theorem y_Law_law_1160 {sc : AS} {d : Nat} (hd : 53 ≤ d) {k18 : Int → Int → Int → AH → Option (Int × AH)} (hk18 : ∀ (v1 : Int) (v2 : Int) (v3 : Int) (h : AH) (r : (Int × AH)), k18 v1 v2 v3 h = some r → Ev sc d 265 18 [(4, 1), (2, v1), (2, v2), (0, v3)] [] h (some (0, r.1)) r.2) : ∀ (v1 : Int) (v2 : Int) (v3 : Int) (h : AH) (r : (Int × AH)), Law_law_1160 sc k18 v1 v2 v3 h = some r → Ev sc d 265 1160 [(4, 1), (2, v1), (2, v2), (0, v3)] [] h (some (0, r.1)) r.2 := by
  intro v1 v2 v3 h r hx
  unfold Law_law_1160 at hx
  obtain ⟨u1, hg, he, hx⟩ := bgd hx
  refine Ev.blk (is := [.aload_n 1, .aload_n 0, .iload_n 3, .iconst 1, .iadd, .iaload]) (pc2 := 1166) (L2 := [(4, 1), (2, v1), (2, v2), (0, v3)]) (S2 := [(0, u1), (2, v1)]) (h2 := h) (by decide +kernel) (by subst he; rfl) (by exact hg) ?_
  clear hg he
  obtain ⟨u2, hg, he, hx⟩ := bgd hx
  refine Ev.blk (is := [.aload_n 0, .iload_n 3, .iconst 2, .iadd, .iaload]) (pc2 := 1171) (L2 := [(4, 1), (2, v1), (2, v2), (0, v3)]) (S2 := [(0, u2), (0, u1), (2, v1)]) (h2 := h) (by decide +kernel) (by subst he; rfl) (by exact hg) ?_
  clear hg he
  obtain ⟨_, hg, -, hx⟩ := bgd hx
  obtain ⟨u3, hc, hx⟩ := bca hx
  refine Ev.call (args := [(2, v1), (0, u1), (0, u2)]) (S2 := []) (r1 := (some (0, u3))) (h1 := h) (i := .invokevirtual 141) (by decide +kernel) rfl rfl (Nat.le_of_ble_eq_true rfl) (Or.inr (Or.inl ⟨rfl, hg, by decide +kernel⟩)) (x_X_chase (by omega) hc) ?_
  obtain ⟨u4, hg, he, hx⟩ := bgd hx
  refine Ev.blk (is := [.aload_n 2, .aload_n 0, .iload_n 3, .iconst 1, .iadd, .iaload]) (pc2 := 1180) (L2 := [(4, 1), (2, v1), (2, v2), (0, v3)]) (S2 := [(0, u4), (2, v2), (0, u3)]) (h2 := h) (by decide +kernel) (by subst he; rfl) (by exact hg) ?_
  clear hg he
  obtain ⟨u5, hg, he, hx⟩ := bgd hx
  refine Ev.blk (is := [.aload_n 0, .iload_n 3, .iconst 2, .iadd, .iaload]) (pc2 := 1185) (L2 := [(4, 1), (2, v1), (2, v2), (0, v3)]) (S2 := [(0, u5), (0, u4), (2, v2), (0, u3)]) (h2 := h) (by decide +kernel) (by subst he; rfl) (by exact hg) ?_
  clear hg he
  obtain ⟨_, hg, -, hx⟩ := bgd hx
  obtain ⟨u6, hc, hx⟩ := bca hx
  refine Ev.call (args := [(2, v2), (0, u4), (0, u5)]) (S2 := [(0, u3)]) (r1 := (some (0, u6))) (h1 := h) (i := .invokevirtual 253) (by decide +kernel) rfl rfl (Nat.le_of_ble_eq_true rfl) (Or.inr (Or.inl ⟨rfl, hg, by decide +kernel⟩)) (x_R_chase (by omega) hc) ?_
  obtain ⟨ha, hb⟩ := bite hx
  clear hx
  refine Ev.br (i := .if_icmp .eq 312) (len := 3) (a := 1500) (b := 1191) (by decide +kernel) rfl Iff.rfl (fun hc => ?_) (fun hc => ?_)
  · have hx := ha hc
    clear ha hb hc
    exact y_Law_law_1500 hd hk18 v1 v2 v3 h _ hx
  · have hx := hb hc
    clear ha hb hc
    refine Ev.blk (is := [.iconst 0]) (pc2 := 1192) (L2 := [(4, 1), (2, v1), (2, v2), (0, v3)]) (S2 := [(0, 0)]) (h2 := h) (by decide +kernel) rfl trivial ?_
    cases hx
    exact Ev.ret (i := .ireturn) (len := 1) (by decide +kernel) rfl (finOf (t := some .boolean) rfl (bz0))
theorem y_Law_law_1193 {sc : AS} {d : Nat} (hd : 53 ≤ d) {k18 : Int → Int → Int → AH → Option (Int × AH)} (hk18 : ∀ (v1 : Int) (v2 : Int) (v3 : Int) (h : AH) (r : (Int × AH)), k18 v1 v2 v3 h = some r → Ev sc d 265 18 [(4, 1), (2, v1), (2, v2), (0, v3)] [] h (some (0, r.1)) r.2) : ∀ (v1 : Int) (v2 : Int) (v3 : Int) (h : AH) (r : (Int × AH)), Law_law_1193 sc k18 v1 v2 v3 h = some r → Ev sc d 265 1193 [(4, 1), (2, v1), (2, v2), (0, v3)] [] h (some (0, r.1)) r.2 := by
  intro v1 v2 v3 h r hx
  unfold Law_law_1193 at hx
  obtain ⟨u1, hg, he, hx⟩ := bgd hx
  refine Ev.blk (is := [.aload_n 1, .aload_n 0, .iload_n 3, .iconst 1, .iadd, .iaload]) (pc2 := 1199) (L2 := [(4, 1), (2, v1), (2, v2), (0, v3)]) (S2 := [(0, u1), (2, v1)]) (h2 := h) (by decide +kernel) (by subst he; rfl) (by exact hg) ?_
  clear hg he
  obtain ⟨u2, hg, he, hx⟩ := bgd hx
  refine Ev.blk (is := [.aload_n 0, .iload_n 3, .iconst 2, .iadd, .iaload]) (pc2 := 1204) (L2 := [(4, 1), (2, v1), (2, v2), (0, v3)]) (S2 := [(0, u2), (0, u1), (2, v1)]) (h2 := h) (by decide +kernel) (by subst he; rfl) (by exact hg) ?_
  clear hg he
  obtain ⟨_, hg, -, hx⟩ := bgd hx
  obtain ⟨u3, hc, hx⟩ := bca hx
  refine Ev.call (args := [(2, v1), (0, u1), (0, u2)]) (S2 := []) (r1 := (some (0, u3))) (h1 := h) (i := .invokevirtual 143) (by decide +kernel) rfl rfl (Nat.le_of_ble_eq_true rfl) (Or.inr (Or.inl ⟨rfl, hg, by decide +kernel⟩)) (x_X_primes (by omega) hc) ?_
  obtain ⟨u4, hg, he, hx⟩ := bgd hx
  refine Ev.blk (is := [.aload_n 2, .aload_n 0, .iload_n 3, .iconst 1, .iadd, .iaload]) (pc2 := 1213) (L2 := [(4, 1), (2, v1), (2, v2), (0, v3)]) (S2 := [(0, u4), (2, v2), (0, u3)]) (h2 := h) (by decide +kernel) (by subst he; rfl) (by exact hg) ?_
  clear hg he
  obtain ⟨u5, hg, he, hx⟩ := bgd hx
  refine Ev.blk (is := [.aload_n 0, .iload_n 3, .iconst 2, .iadd, .iaload]) (pc2 := 1218) (L2 := [(4, 1), (2, v1), (2, v2), (0, v3)]) (S2 := [(0, u5), (0, u4), (2, v2), (0, u3)]) (h2 := h) (by decide +kernel) (by subst he; rfl) (by exact hg) ?_
  clear hg he
  obtain ⟨_, hg, -, hx⟩ := bgd hx
  obtain ⟨u6, hc, hx⟩ := bca hx
  refine Ev.call (args := [(2, v2), (0, u4), (0, u5)]) (S2 := [(0, u3)]) (r1 := (some (0, u6))) (h1 := h) (i := .invokevirtual 254) (by decide +kernel) rfl rfl (Nat.le_of_ble_eq_true rfl) (Or.inr (Or.inl ⟨rfl, hg, by decide +kernel⟩)) (x_R_primes (by omega) hc) ?_
  obtain ⟨ha, hb⟩ := bite hx
  clear hx
  refine Ev.br (i := .if_icmp .eq 279) (len := 3) (a := 1500) (b := 1224) (by decide +kernel) rfl Iff.rfl (fun hc => ?_) (fun hc => ?_)
  · have hx := ha hc
    clear ha hb hc
    exact y_Law_law_1500 hd hk18 v1 v2 v3 h _ hx
  · have hx := hb hc
    clear ha hb hc
    refine Ev.blk (is := [.iconst 0]) (pc2 := 1225) (L2 := [(4, 1), (2, v1), (2, v2), (0, v3)]) (S2 := [(0, 0)]) (h2 := h) (by decide +kernel) rfl trivial ?_
    cases hx
    exact Ev.ret (i := .ireturn) (len := 1) (by decide +kernel) rfl (finOf (t := some .boolean) rfl (bz0))
theorem y_Law_law_1226 {sc : AS} {d : Nat} (hd : 53 ≤ d) {k18 : Int → Int → Int → AH → Option (Int × AH)} (hk18 : ∀ (v1 : Int) (v2 : Int) (v3 : Int) (h : AH) (r : (Int × AH)), k18 v1 v2 v3 h = some r → Ev sc d 265 18 [(4, 1), (2, v1), (2, v2), (0, v3)] [] h (some (0, r.1)) r.2) : ∀ (v1 : Int) (v2 : Int) (v3 : Int) (h : AH) (r : (Int × AH)), Law_law_1226 sc k18 v1 v2 v3 h = some r → Ev sc d 265 1226 [(4, 1), (2, v1), (2, v2), (0, v3)] [] h (some (0, r.1)) r.2 := by
  intro v1 v2 v3 h r hx
  unfold Law_law_1226 at hx
  obtain ⟨u1, hg, he, hx⟩ := bgd hx
  refine Ev.blk (is := [.aload_n 1, .aload_n 0, .iload_n 3, .iconst 1, .iadd, .iaload]) (pc2 := 1232) (L2 := [(4, 1), (2, v1), (2, v2), (0, v3)]) (S2 := [(0, u1), (2, v1)]) (h2 := h) (by decide +kernel) (by subst he; rfl) (by exact hg) ?_
  clear hg he
  obtain ⟨u2, hg, he, hx⟩ := bgd hx
  refine Ev.blk (is := [.aload_n 0, .iload_n 3, .iconst 2, .iadd, .iaload]) (pc2 := 1237) (L2 := [(4, 1), (2, v1), (2, v2), (0, v3)]) (S2 := [(0, u2), (0, u1), (2, v1)]) (h2 := h) (by decide +kernel) (by subst he; rfl) (by exact hg) ?_
  clear hg he
  obtain ⟨_, hg, -, hx⟩ := bgd hx
  obtain ⟨u3, hc, hx⟩ := bca hx
  refine Ev.call (args := [(2, v1), (0, u1), (0, u2)]) (S2 := []) (r1 := (some (0, u3))) (h1 := h) (i := .invokevirtual 144) (by decide +kernel) rfl rfl (Nat.le_of_ble_eq_true rfl) (Or.inr (Or.inl ⟨rfl, hg, by decide +kernel⟩)) (x_X_passes (by omega) hc) ?_
  obtain ⟨u4, hg, he, hx⟩ := bgd hx
  refine Ev.blk (is := [.aload_n 2, .aload_n 0, .iload_n 3, .iconst 1, .iadd, .iaload]) (pc2 := 1246) (L2 := [(4, 1), (2, v1), (2, v2), (0, v3)]) (S2 := [(0, u4), (2, v2), (0, u3)]) (h2 := h) (by decide +kernel) (by subst he; rfl) (by exact hg) ?_
  clear hg he
  obtain ⟨u5, hg, he, hx⟩ := bgd hx
  refine Ev.blk (is := [.aload_n 0, .iload_n 3, .iconst 2, .iadd, .iaload]) (pc2 := 1251) (L2 := [(4, 1), (2, v1), (2, v2), (0, v3)]) (S2 := [(0, u5), (0, u4), (2, v2), (0, u3)]) (h2 := h) (by decide +kernel) (by subst he; rfl) (by exact hg) ?_
  clear hg he
  obtain ⟨_, hg, -, hx⟩ := bgd hx
  obtain ⟨u6, hc, hx⟩ := bca hx
  refine Ev.call (args := [(2, v2), (0, u4), (0, u5)]) (S2 := [(0, u3)]) (r1 := (some (0, u6))) (h1 := h) (i := .invokevirtual 255) (by decide +kernel) rfl rfl (Nat.le_of_ble_eq_true rfl) (Or.inr (Or.inl ⟨rfl, hg, by decide +kernel⟩)) (x_R_passes (by omega) hc) ?_
  obtain ⟨ha, hb⟩ := bite hx
  clear hx
  refine Ev.br (i := .if_icmp .eq 246) (len := 3) (a := 1500) (b := 1257) (by decide +kernel) rfl Iff.rfl (fun hc => ?_) (fun hc => ?_)
  · have hx := ha hc
    clear ha hb hc
    exact y_Law_law_1500 hd hk18 v1 v2 v3 h _ hx
  · have hx := hb hc
    clear ha hb hc
    refine Ev.blk (is := [.iconst 0]) (pc2 := 1258) (L2 := [(4, 1), (2, v1), (2, v2), (0, v3)]) (S2 := [(0, 0)]) (h2 := h) (by decide +kernel) rfl trivial ?_
    cases hx
    exact Ev.ret (i := .ireturn) (len := 1) (by decide +kernel) rfl (finOf (t := some .boolean) rfl (bz0))
theorem y_Law_law_1259 {sc : AS} {d : Nat} (hd : 53 ≤ d) {k18 : Int → Int → Int → AH → Option (Int × AH)} (hk18 : ∀ (v1 : Int) (v2 : Int) (v3 : Int) (h : AH) (r : (Int × AH)), k18 v1 v2 v3 h = some r → Ev sc d 265 18 [(4, 1), (2, v1), (2, v2), (0, v3)] [] h (some (0, r.1)) r.2) : ∀ (v1 : Int) (v2 : Int) (v3 : Int) (h : AH) (r : (Int × AH)), Law_law_1259 sc k18 v1 v2 v3 h = some r → Ev sc d 265 1259 [(4, 1), (2, v1), (2, v2), (0, v3)] [] h (some (0, r.1)) r.2 := by
  intro v1 v2 v3 h r hx
  unfold Law_law_1259 at hx
  obtain ⟨u1, hg, he, hx⟩ := bgd hx
  refine Ev.blk (is := [.aload_n 1, .aload_n 0, .iload_n 3, .iconst 1, .iadd, .iaload]) (pc2 := 1265) (L2 := [(4, 1), (2, v1), (2, v2), (0, v3)]) (S2 := [(0, u1), (2, v1)]) (h2 := h) (by decide +kernel) (by subst he; rfl) (by exact hg) ?_
  clear hg he
  obtain ⟨u2, hg, he, hx⟩ := bgd hx
  refine Ev.blk (is := [.aload_n 0, .iload_n 3, .iconst 2, .iadd, .iaload]) (pc2 := 1270) (L2 := [(4, 1), (2, v1), (2, v2), (0, v3)]) (S2 := [(0, u2), (0, u1), (2, v1)]) (h2 := h) (by decide +kernel) (by subst he; rfl) (by exact hg) ?_
  clear hg he
  obtain ⟨_, hg, -, hx⟩ := bgd hx
  obtain ⟨u3, hc, hx⟩ := bca hx
  refine Ev.call (args := [(2, v1), (0, u1), (0, u2)]) (S2 := []) (r1 := (some (0, u3))) (h1 := h) (i := .invokevirtual 146) (by decide +kernel) rfl rfl (Nat.le_of_ble_eq_true rfl) (Or.inr (Or.inl ⟨rfl, hg, by decide +kernel⟩)) (x_X_fools (by omega) hc) ?_
  obtain ⟨u4, hg, he, hx⟩ := bgd hx
  refine Ev.blk (is := [.aload_n 2, .aload_n 0, .iload_n 3, .iconst 1, .iadd, .iaload]) (pc2 := 1279) (L2 := [(4, 1), (2, v1), (2, v2), (0, v3)]) (S2 := [(0, u4), (2, v2), (0, u3)]) (h2 := h) (by decide +kernel) (by subst he; rfl) (by exact hg) ?_
  clear hg he
  obtain ⟨u5, hg, he, hx⟩ := bgd hx
  refine Ev.blk (is := [.aload_n 0, .iload_n 3, .iconst 2, .iadd, .iaload]) (pc2 := 1284) (L2 := [(4, 1), (2, v1), (2, v2), (0, v3)]) (S2 := [(0, u5), (0, u4), (2, v2), (0, u3)]) (h2 := h) (by decide +kernel) (by subst he; rfl) (by exact hg) ?_
  clear hg he
  obtain ⟨_, hg, -, hx⟩ := bgd hx
  obtain ⟨u6, hc, hx⟩ := bca hx
  refine Ev.call (args := [(2, v2), (0, u4), (0, u5)]) (S2 := [(0, u3)]) (r1 := (some (0, u6))) (h1 := h) (i := .invokevirtual 258) (by decide +kernel) rfl rfl (Nat.le_of_ble_eq_true rfl) (Or.inr (Or.inl ⟨rfl, hg, by decide +kernel⟩)) (x_R_fools (by omega) hc) ?_
  obtain ⟨ha, hb⟩ := bite hx
  clear hx
  refine Ev.br (i := .if_icmp .eq 213) (len := 3) (a := 1500) (b := 1290) (by decide +kernel) rfl Iff.rfl (fun hc => ?_) (fun hc => ?_)
  · have hx := ha hc
    clear ha hb hc
    exact y_Law_law_1500 hd hk18 v1 v2 v3 h _ hx
  · have hx := hb hc
    clear ha hb hc
    refine Ev.blk (is := [.iconst 0]) (pc2 := 1291) (L2 := [(4, 1), (2, v1), (2, v2), (0, v3)]) (S2 := [(0, 0)]) (h2 := h) (by decide +kernel) rfl trivial ?_
    cases hx
    exact Ev.ret (i := .ireturn) (len := 1) (by decide +kernel) rfl (finOf (t := some .boolean) rfl (bz0))
theorem y_Law_law_1292 {sc : AS} {d : Nat} (hd : 53 ≤ d) {k18 : Int → Int → Int → AH → Option (Int × AH)} (hk18 : ∀ (v1 : Int) (v2 : Int) (v3 : Int) (h : AH) (r : (Int × AH)), k18 v1 v2 v3 h = some r → Ev sc d 265 18 [(4, 1), (2, v1), (2, v2), (0, v3)] [] h (some (0, r.1)) r.2) : ∀ (v1 : Int) (v2 : Int) (v3 : Int) (h : AH) (r : (Int × AH)), Law_law_1292 sc k18 v1 v2 v3 h = some r → Ev sc d 265 1292 [(4, 1), (2, v1), (2, v2), (0, v3)] [] h (some (0, r.1)) r.2 := by
  intro v1 v2 v3 h r hx
  unfold Law_law_1292 at hx
  obtain ⟨u1, hg, he, hx⟩ := bgd hx
  refine Ev.blk (is := [.aload_n 1, .aload_n 0, .iload_n 3, .iconst 1, .iadd, .iaload]) (pc2 := 1298) (L2 := [(4, 1), (2, v1), (2, v2), (0, v3)]) (S2 := [(0, u1), (2, v1)]) (h2 := h) (by decide +kernel) (by subst he; rfl) (by exact hg) ?_
  clear hg he
  obtain ⟨u2, hg, he, hx⟩ := bgd hx
  refine Ev.blk (is := [.aload_n 0, .iload_n 3, .iconst 2, .iadd, .iaload]) (pc2 := 1303) (L2 := [(4, 1), (2, v1), (2, v2), (0, v3)]) (S2 := [(0, u2), (0, u1), (2, v1)]) (h2 := h) (by decide +kernel) (by subst he; rfl) (by exact hg) ?_
  clear hg he
  obtain ⟨u3, hg, he, hx⟩ := bgd hx
  refine Ev.blk (is := [.aload_n 0, .iload_n 3, .iconst 3, .iadd, .iaload]) (pc2 := 1308) (L2 := [(4, 1), (2, v1), (2, v2), (0, v3)]) (S2 := [(0, u3), (0, u2), (0, u1), (2, v1)]) (h2 := h) (by decide +kernel) (by subst he; rfl) (by exact hg) ?_
  clear hg he
  obtain ⟨_, hg, -, hx⟩ := bgd hx
  obtain ⟨u4, hc, hx⟩ := bca hx
  refine Ev.call (args := [(2, v1), (0, u1), (0, u2), (0, u3)]) (S2 := []) (r1 := (some (0, u4))) (h1 := h) (i := .invokevirtual 147) (by decide +kernel) rfl rfl (Nat.le_of_ble_eq_true rfl) (Or.inr (Or.inl ⟨rfl, hg, by decide +kernel⟩)) (x_X_power (by omega) hc) ?_
  obtain ⟨u5, hg, he, hx⟩ := bgd hx
  refine Ev.blk (is := [.aload_n 2, .aload_n 0, .iload_n 3, .iconst 1, .iadd, .iaload]) (pc2 := 1317) (L2 := [(4, 1), (2, v1), (2, v2), (0, v3)]) (S2 := [(0, u5), (2, v2), (0, u4)]) (h2 := h) (by decide +kernel) (by subst he; rfl) (by exact hg) ?_
  clear hg he
  obtain ⟨u6, hg, he, hx⟩ := bgd hx
  refine Ev.blk (is := [.aload_n 0, .iload_n 3, .iconst 2, .iadd, .iaload]) (pc2 := 1322) (L2 := [(4, 1), (2, v1), (2, v2), (0, v3)]) (S2 := [(0, u6), (0, u5), (2, v2), (0, u4)]) (h2 := h) (by decide +kernel) (by subst he; rfl) (by exact hg) ?_
  clear hg he
  obtain ⟨u7, hg, he, hx⟩ := bgd hx
  refine Ev.blk (is := [.aload_n 0, .iload_n 3, .iconst 3, .iadd, .iaload]) (pc2 := 1327) (L2 := [(4, 1), (2, v1), (2, v2), (0, v3)]) (S2 := [(0, u7), (0, u6), (0, u5), (2, v2), (0, u4)]) (h2 := h) (by decide +kernel) (by subst he; rfl) (by exact hg) ?_
  clear hg he
  obtain ⟨_, hg, -, hx⟩ := bgd hx
  obtain ⟨u8, hc, hx⟩ := bca hx
  refine Ev.call (args := [(2, v2), (0, u5), (0, u6), (0, u7)]) (S2 := [(0, u4)]) (r1 := (some (0, u8))) (h1 := h) (i := .invokevirtual 259) (by decide +kernel) rfl rfl (Nat.le_of_ble_eq_true rfl) (Or.inr (Or.inl ⟨rfl, hg, by decide +kernel⟩)) (x_R_power (by omega) hc) ?_
  obtain ⟨ha, hb⟩ := bite hx
  clear hx
  refine Ev.br (i := .if_icmp .eq 170) (len := 3) (a := 1500) (b := 1333) (by decide +kernel) rfl Iff.rfl (fun hc => ?_) (fun hc => ?_)
  · have hx := ha hc
    clear ha hb hc
    exact y_Law_law_1500 hd hk18 v1 v2 v3 h _ hx
  · have hx := hb hc
    clear ha hb hc
    refine Ev.blk (is := [.iconst 0]) (pc2 := 1334) (L2 := [(4, 1), (2, v1), (2, v2), (0, v3)]) (S2 := [(0, 0)]) (h2 := h) (by decide +kernel) rfl trivial ?_
    cases hx
    exact Ev.ret (i := .ireturn) (len := 1) (by decide +kernel) rfl (finOf (t := some .boolean) rfl (bz0))
theorem y_Law_law_1335 {sc : AS} {d : Nat} (hd : 53 ≤ d) {k18 : Int → Int → Int → AH → Option (Int × AH)} (hk18 : ∀ (v1 : Int) (v2 : Int) (v3 : Int) (h : AH) (r : (Int × AH)), k18 v1 v2 v3 h = some r → Ev sc d 265 18 [(4, 1), (2, v1), (2, v2), (0, v3)] [] h (some (0, r.1)) r.2) : ∀ (v1 : Int) (v2 : Int) (v3 : Int) (h : AH) (r : (Int × AH)), Law_law_1335 sc k18 v1 v2 v3 h = some r → Ev sc d 265 1335 [(4, 1), (2, v1), (2, v2), (0, v3)] [] h (some (0, r.1)) r.2 := by
  intro v1 v2 v3 h r hx
  unfold Law_law_1335 at hx
  obtain ⟨u1, hg, he, hx⟩ := bgd hx
  refine Ev.blk (is := [.aload_n 1, .aload_n 0, .iload_n 3, .iconst 1, .iadd, .iaload]) (pc2 := 1341) (L2 := [(4, 1), (2, v1), (2, v2), (0, v3)]) (S2 := [(0, u1), (2, v1)]) (h2 := h) (by decide +kernel) (by subst he; rfl) (by exact hg) ?_
  clear hg he
  obtain ⟨u2, hg, he, hx⟩ := bgd hx
  refine Ev.blk (is := [.aload_n 0, .iload_n 3, .iconst 2, .iadd, .iaload]) (pc2 := 1346) (L2 := [(4, 1), (2, v1), (2, v2), (0, v3)]) (S2 := [(0, u2), (0, u1), (2, v1)]) (h2 := h) (by decide +kernel) (by subst he; rfl) (by exact hg) ?_
  clear hg he
  obtain ⟨_, hg, -, hx⟩ := bgd hx
  obtain ⟨u3, hc, hx⟩ := bca hx
  refine Ev.call (args := [(2, v1), (0, u1), (0, u2)]) (S2 := []) (r1 := (some (0, u3.1))) (h1 := u3.2) (i := .invokevirtual 148) (by decide +kernel) rfl rfl (Nat.le_of_ble_eq_true rfl) (Or.inr (Or.inl ⟨rfl, hg, by decide +kernel⟩)) (x_X_order (by omega) hc) ?_
  obtain ⟨u4, hg, he, hx⟩ := bgd hx
  refine Ev.blk (is := [.aload_n 2, .aload_n 0, .iload_n 3, .iconst 1, .iadd, .iaload]) (pc2 := 1355) (L2 := [(4, 1), (2, v1), (2, v2), (0, v3)]) (S2 := [(0, u4), (2, v2), (0, u3.1)]) (h2 := u3.2) (by decide +kernel) (by subst he; rfl) (by exact hg) ?_
  clear hg he
  obtain ⟨u5, hg, he, hx⟩ := bgd hx
  refine Ev.blk (is := [.aload_n 0, .iload_n 3, .iconst 2, .iadd, .iaload]) (pc2 := 1360) (L2 := [(4, 1), (2, v1), (2, v2), (0, v3)]) (S2 := [(0, u5), (0, u4), (2, v2), (0, u3.1)]) (h2 := u3.2) (by decide +kernel) (by subst he; rfl) (by exact hg) ?_
  clear hg he
  obtain ⟨_, hg, -, hx⟩ := bgd hx
  obtain ⟨u6, hc, hx⟩ := bca hx
  refine Ev.call (args := [(2, v2), (0, u4), (0, u5)]) (S2 := [(0, u3.1)]) (r1 := (some (0, u6))) (h1 := u3.2) (i := .invokevirtual 260) (by decide +kernel) rfl rfl (Nat.le_of_ble_eq_true rfl) (Or.inr (Or.inl ⟨rfl, hg, by decide +kernel⟩)) (x_R_order (by omega) hc) ?_
  obtain ⟨ha, hb⟩ := bite hx
  clear hx
  refine Ev.br (i := .if_icmp .eq 137) (len := 3) (a := 1500) (b := 1366) (by decide +kernel) rfl Iff.rfl (fun hc => ?_) (fun hc => ?_)
  · have hx := ha hc
    clear ha hb hc
    exact y_Law_law_1500 hd hk18 v1 v2 v3 u3.2 _ hx
  · have hx := hb hc
    clear ha hb hc
    refine Ev.blk (is := [.iconst 0]) (pc2 := 1367) (L2 := [(4, 1), (2, v1), (2, v2), (0, v3)]) (S2 := [(0, 0)]) (h2 := u3.2) (by decide +kernel) rfl trivial ?_
    cases hx
    exact Ev.ret (i := .ireturn) (len := 1) (by decide +kernel) rfl (finOf (t := some .boolean) rfl (bz0))
theorem y_Law_law_1368 {sc : AS} {d : Nat} (hd : 53 ≤ d) {k18 : Int → Int → Int → AH → Option (Int × AH)} (hk18 : ∀ (v1 : Int) (v2 : Int) (v3 : Int) (h : AH) (r : (Int × AH)), k18 v1 v2 v3 h = some r → Ev sc d 265 18 [(4, 1), (2, v1), (2, v2), (0, v3)] [] h (some (0, r.1)) r.2) : ∀ (v1 : Int) (v2 : Int) (v3 : Int) (h : AH) (r : (Int × AH)), Law_law_1368 sc k18 v1 v2 v3 h = some r → Ev sc d 265 1368 [(4, 1), (2, v1), (2, v2), (0, v3)] [] h (some (0, r.1)) r.2 := by
  intro v1 v2 v3 h r hx
  unfold Law_law_1368 at hx
  obtain ⟨u1, hg, he, hx⟩ := bgd hx
  refine Ev.blk (is := [.aload_n 1, .aload_n 0, .iload_n 3, .iconst 1, .iadd, .iaload]) (pc2 := 1374) (L2 := [(4, 1), (2, v1), (2, v2), (0, v3)]) (S2 := [(0, u1), (2, v1)]) (h2 := h) (by decide +kernel) (by subst he; rfl) (by exact hg) ?_
  clear hg he
  obtain ⟨u2, hg, he, hx⟩ := bgd hx
  refine Ev.blk (is := [.aload_n 0, .iload_n 3, .iconst 2, .iadd, .iaload]) (pc2 := 1379) (L2 := [(4, 1), (2, v1), (2, v2), (0, v3)]) (S2 := [(0, u2), (0, u1), (2, v1)]) (h2 := h) (by decide +kernel) (by subst he; rfl) (by exact hg) ?_
  clear hg he
  obtain ⟨_, hg, -, hx⟩ := bgd hx
  obtain ⟨u3, hc, hx⟩ := bca hx
  refine Ev.call (args := [(2, v1), (0, u1), (0, u2)]) (S2 := []) (r1 := (some (0, u3))) (h1 := h) (i := .invokevirtual 151) (by decide +kernel) rfl rfl (Nat.le_of_ble_eq_true rfl) (Or.inr (Or.inl ⟨rfl, hg, by decide +kernel⟩)) (x_X_jacobi (by omega) hc) ?_
  obtain ⟨u4, hg, he, hx⟩ := bgd hx
  refine Ev.blk (is := [.aload_n 2, .aload_n 0, .iload_n 3, .iconst 1, .iadd, .iaload]) (pc2 := 1388) (L2 := [(4, 1), (2, v1), (2, v2), (0, v3)]) (S2 := [(0, u4), (2, v2), (0, u3)]) (h2 := h) (by decide +kernel) (by subst he; rfl) (by exact hg) ?_
  clear hg he
  obtain ⟨u5, hg, he, hx⟩ := bgd hx
  refine Ev.blk (is := [.aload_n 0, .iload_n 3, .iconst 2, .iadd, .iaload]) (pc2 := 1393) (L2 := [(4, 1), (2, v1), (2, v2), (0, v3)]) (S2 := [(0, u5), (0, u4), (2, v2), (0, u3)]) (h2 := h) (by decide +kernel) (by subst he; rfl) (by exact hg) ?_
  clear hg he
  obtain ⟨_, hg, -, hx⟩ := bgd hx
  obtain ⟨u6, hc, hx⟩ := bca hx
  refine Ev.call (args := [(2, v2), (0, u4), (0, u5)]) (S2 := [(0, u3)]) (r1 := (some (0, u6))) (h1 := h) (i := .invokevirtual 261) (by decide +kernel) rfl rfl (Nat.le_of_ble_eq_true rfl) (Or.inr (Or.inl ⟨rfl, hg, by decide +kernel⟩)) (x_R_jacobi (by omega) hc) ?_
  obtain ⟨ha, hb⟩ := bite hx
  clear hx
  refine Ev.br (i := .if_icmp .eq 104) (len := 3) (a := 1500) (b := 1399) (by decide +kernel) rfl Iff.rfl (fun hc => ?_) (fun hc => ?_)
  · have hx := ha hc
    clear ha hb hc
    exact y_Law_law_1500 hd hk18 v1 v2 v3 h _ hx
  · have hx := hb hc
    clear ha hb hc
    refine Ev.blk (is := [.iconst 0]) (pc2 := 1400) (L2 := [(4, 1), (2, v1), (2, v2), (0, v3)]) (S2 := [(0, 0)]) (h2 := h) (by decide +kernel) rfl trivial ?_
    cases hx
    exact Ev.ret (i := .ireturn) (len := 1) (by decide +kernel) rfl (finOf (t := some .boolean) rfl (bz0))
theorem y_Law_law_1401 {sc : AS} {d : Nat} (hd : 53 ≤ d) {k18 : Int → Int → Int → AH → Option (Int × AH)} (hk18 : ∀ (v1 : Int) (v2 : Int) (v3 : Int) (h : AH) (r : (Int × AH)), k18 v1 v2 v3 h = some r → Ev sc d 265 18 [(4, 1), (2, v1), (2, v2), (0, v3)] [] h (some (0, r.1)) r.2) : ∀ (v1 : Int) (v2 : Int) (v3 : Int) (h : AH) (r : (Int × AH)), Law_law_1401 sc k18 v1 v2 v3 h = some r → Ev sc d 265 1401 [(4, 1), (2, v1), (2, v2), (0, v3)] [] h (some (0, r.1)) r.2 := by
  intro v1 v2 v3 h r hx
  unfold Law_law_1401 at hx
  obtain ⟨u1, hg, he, hx⟩ := bgd hx
  refine Ev.blk (is := [.aload_n 1, .aload_n 0, .iload_n 3, .iconst 1, .iadd, .iaload]) (pc2 := 1407) (L2 := [(4, 1), (2, v1), (2, v2), (0, v3)]) (S2 := [(0, u1), (2, v1)]) (h2 := h) (by decide +kernel) (by subst he; rfl) (by exact hg) ?_
  clear hg he
  obtain ⟨u2, hg, he, hx⟩ := bgd hx
  refine Ev.blk (is := [.aload_n 0, .iload_n 3, .iconst 2, .iadd, .iaload]) (pc2 := 1412) (L2 := [(4, 1), (2, v1), (2, v2), (0, v3)]) (S2 := [(0, u2), (0, u1), (2, v1)]) (h2 := h) (by decide +kernel) (by subst he; rfl) (by exact hg) ?_
  clear hg he
  obtain ⟨u3, hg, he, hx⟩ := bgd hx
  refine Ev.blk (is := [.aload_n 0, .iload_n 3, .iconst 3, .iadd, .iaload]) (pc2 := 1417) (L2 := [(4, 1), (2, v1), (2, v2), (0, v3)]) (S2 := [(0, u3), (0, u2), (0, u1), (2, v1)]) (h2 := h) (by decide +kernel) (by subst he; rfl) (by exact hg) ?_
  clear hg he
  obtain ⟨u4, hg, he, hx⟩ := bgd hx
  refine Ev.blk (is := [.aload_n 0, .iload_n 3, .iconst 4, .iadd, .iaload]) (pc2 := 1422) (L2 := [(4, 1), (2, v1), (2, v2), (0, v3)]) (S2 := [(0, u4), (0, u3), (0, u2), (0, u1), (2, v1)]) (h2 := h) (by decide +kernel) (by subst he; rfl) (by exact hg) ?_
  clear hg he
  obtain ⟨_, hg, -, hx⟩ := bgd hx
  obtain ⟨u5, hc, hx⟩ := bca hx
  refine Ev.call (args := [(2, v1), (0, u1), (0, u2), (0, u3), (0, u4)]) (S2 := []) (r1 := (some (0, u5))) (h1 := h) (i := .invokevirtual 152) (by decide +kernel) rfl rfl (Nat.le_of_ble_eq_true rfl) (Or.inr (Or.inl ⟨rfl, hg, by decide +kernel⟩)) (x_X_u (by omega) hc) ?_
  obtain ⟨u6, hg, he, hx⟩ := bgd hx
  refine Ev.blk (is := [.aload_n 2, .aload_n 0, .iload_n 3, .iconst 1, .iadd, .iaload]) (pc2 := 1431) (L2 := [(4, 1), (2, v1), (2, v2), (0, v3)]) (S2 := [(0, u6), (2, v2), (0, u5)]) (h2 := h) (by decide +kernel) (by subst he; rfl) (by exact hg) ?_
  clear hg he
  obtain ⟨u7, hg, he, hx⟩ := bgd hx
  refine Ev.blk (is := [.aload_n 0, .iload_n 3, .iconst 2, .iadd, .iaload]) (pc2 := 1436) (L2 := [(4, 1), (2, v1), (2, v2), (0, v3)]) (S2 := [(0, u7), (0, u6), (2, v2), (0, u5)]) (h2 := h) (by decide +kernel) (by subst he; rfl) (by exact hg) ?_
  clear hg he
  obtain ⟨u8, hg, he, hx⟩ := bgd hx
  refine Ev.blk (is := [.aload_n 0, .iload_n 3, .iconst 3, .iadd, .iaload]) (pc2 := 1441) (L2 := [(4, 1), (2, v1), (2, v2), (0, v3)]) (S2 := [(0, u8), (0, u7), (0, u6), (2, v2), (0, u5)]) (h2 := h) (by decide +kernel) (by subst he; rfl) (by exact hg) ?_
  clear hg he
  obtain ⟨u9, hg, he, hx⟩ := bgd hx
  refine Ev.blk (is := [.aload_n 0, .iload_n 3, .iconst 4, .iadd, .iaload]) (pc2 := 1446) (L2 := [(4, 1), (2, v1), (2, v2), (0, v3)]) (S2 := [(0, u9), (0, u8), (0, u7), (0, u6), (2, v2), (0, u5)]) (h2 := h) (by decide +kernel) (by subst he; rfl) (by exact hg) ?_
  clear hg he
  obtain ⟨_, hg, -, hx⟩ := bgd hx
  obtain ⟨u10, hc, hx⟩ := bca hx
  refine Ev.call (args := [(2, v2), (0, u6), (0, u7), (0, u8), (0, u9)]) (S2 := [(0, u5)]) (r1 := (some (0, u10.1))) (h1 := u10.2) (i := .invokevirtual 262) (by decide +kernel) rfl rfl (Nat.le_of_ble_eq_true rfl) (Or.inr (Or.inl ⟨rfl, hg, by decide +kernel⟩)) (x_R_u (by omega) hc) ?_
  obtain ⟨ha, hb⟩ := bite hx
  clear hx
  refine Ev.br (i := .if_icmp .eq 51) (len := 3) (a := 1500) (b := 1452) (by decide +kernel) rfl Iff.rfl (fun hc => ?_) (fun hc => ?_)
  · have hx := ha hc
    clear ha hb hc
    exact y_Law_law_1500 hd hk18 v1 v2 v3 u10.2 _ hx
  · have hx := hb hc
    clear ha hb hc
    refine Ev.blk (is := [.iconst 0]) (pc2 := 1453) (L2 := [(4, 1), (2, v1), (2, v2), (0, v3)]) (S2 := [(0, 0)]) (h2 := u10.2) (by decide +kernel) rfl trivial ?_
    cases hx
    exact Ev.ret (i := .ireturn) (len := 1) (by decide +kernel) rfl (finOf (t := some .boolean) rfl (bz0))
theorem y_Law_law_1454 {sc : AS} {d : Nat} (hd : 53 ≤ d) {k18 : Int → Int → Int → AH → Option (Int × AH)} (hk18 : ∀ (v1 : Int) (v2 : Int) (v3 : Int) (h : AH) (r : (Int × AH)), k18 v1 v2 v3 h = some r → Ev sc d 265 18 [(4, 1), (2, v1), (2, v2), (0, v3)] [] h (some (0, r.1)) r.2) : ∀ (v1 : Int) (v2 : Int) (v3 : Int) (h : AH) (r : (Int × AH)), Law_law_1454 sc k18 v1 v2 v3 h = some r → Ev sc d 265 1454 [(4, 1), (2, v1), (2, v2), (0, v3)] [] h (some (0, r.1)) r.2 := by
  intro v1 v2 v3 h r hx
  unfold Law_law_1454 at hx
  obtain ⟨u1, hg, he, hx⟩ := bgd hx
  refine Ev.blk (is := [.aload_n 1, .aload_n 0, .iload_n 3, .iconst 1, .iadd, .iaload]) (pc2 := 1460) (L2 := [(4, 1), (2, v1), (2, v2), (0, v3)]) (S2 := [(0, u1), (2, v1)]) (h2 := h) (by decide +kernel) (by subst he; rfl) (by exact hg) ?_
  clear hg he
  obtain ⟨_, hg, -, hx⟩ := bgd hx
  obtain ⟨u2, hc, hx⟩ := bca hx
  refine Ev.call (args := [(2, v1), (0, u1)]) (S2 := []) (r1 := (some (0, u2.1))) (h1 := u2.2) (i := .invokevirtual 153) (by decide +kernel) rfl rfl (Nat.le_of_ble_eq_true rfl) (Or.inr (Or.inl ⟨rfl, hg, by decide +kernel⟩)) (x_X_units (by omega) hc) ?_
  obtain ⟨u3, hg, he, hx⟩ := bgd hx
  refine Ev.blk (is := [.aload_n 2, .aload_n 0, .iload_n 3, .iconst 1, .iadd, .iaload]) (pc2 := 1469) (L2 := [(4, 1), (2, v1), (2, v2), (0, v3)]) (S2 := [(0, u3), (2, v2), (0, u2.1)]) (h2 := u2.2) (by decide +kernel) (by subst he; rfl) (by exact hg) ?_
  clear hg he
  obtain ⟨_, hg, -, hx⟩ := bgd hx
  obtain ⟨u4, hc, hx⟩ := bca hx
  refine Ev.call (args := [(2, v2), (0, u3)]) (S2 := [(0, u2.1)]) (r1 := (some (0, u4.1))) (h1 := u4.2) (i := .invokevirtual 263) (by decide +kernel) rfl rfl (Nat.le_of_ble_eq_true rfl) (Or.inr (Or.inl ⟨rfl, hg, by decide +kernel⟩)) (x_R_units (by omega) hc) ?_
  obtain ⟨ha, hb⟩ := bite hx
  clear hx
  refine Ev.br (i := .if_icmp .eq 28) (len := 3) (a := 1500) (b := 1475) (by decide +kernel) rfl Iff.rfl (fun hc => ?_) (fun hc => ?_)
  · have hx := ha hc
    clear ha hb hc
    exact y_Law_law_1500 hd hk18 v1 v2 v3 u4.2 _ hx
  · have hx := hb hc
    clear ha hb hc
    refine Ev.blk (is := [.iconst 0]) (pc2 := 1476) (L2 := [(4, 1), (2, v1), (2, v2), (0, v3)]) (S2 := [(0, 0)]) (h2 := u4.2) (by decide +kernel) rfl trivial ?_
    cases hx
    exact Ev.ret (i := .ireturn) (len := 1) (by decide +kernel) rfl (finOf (t := some .boolean) rfl (bz0))
theorem y_Law_law_1477 {sc : AS} {d : Nat} (hd : 53 ≤ d) {k18 : Int → Int → Int → AH → Option (Int × AH)} (hk18 : ∀ (v1 : Int) (v2 : Int) (v3 : Int) (h : AH) (r : (Int × AH)), k18 v1 v2 v3 h = some r → Ev sc d 265 18 [(4, 1), (2, v1), (2, v2), (0, v3)] [] h (some (0, r.1)) r.2) : ∀ (v1 : Int) (v2 : Int) (v3 : Int) (h : AH) (r : (Int × AH)), Law_law_1477 sc k18 v1 v2 v3 h = some r → Ev sc d 265 1477 [(4, 1), (2, v1), (2, v2), (0, v3)] [] h (some (0, r.1)) r.2 := by
  intro v1 v2 v3 h r hx
  unfold Law_law_1477 at hx
  obtain ⟨u1, hg, he, hx⟩ := bgd hx
  refine Ev.blk (is := [.aload_n 1, .aload_n 0, .iload_n 3, .iconst 1, .iadd, .iaload]) (pc2 := 1483) (L2 := [(4, 1), (2, v1), (2, v2), (0, v3)]) (S2 := [(0, u1), (2, v1)]) (h2 := h) (by decide +kernel) (by subst he; rfl) (by exact hg) ?_
  clear hg he
  obtain ⟨_, hg, -, hx⟩ := bgd hx
  obtain ⟨u2, hc, hx⟩ := bca hx
  refine Ev.call (args := [(2, v1), (0, u1)]) (S2 := []) (r1 := (some (0, u2))) (h1 := h) (i := .invokevirtual 154) (by decide +kernel) rfl rfl (Nat.le_of_ble_eq_true rfl) (Or.inr (Or.inl ⟨rfl, hg, by decide +kernel⟩)) (x_X_count (by omega) hc) ?_
  obtain ⟨u3, hg, he, hx⟩ := bgd hx
  refine Ev.blk (is := [.aload_n 2, .aload_n 0, .iload_n 3, .iconst 1, .iadd, .iaload]) (pc2 := 1492) (L2 := [(4, 1), (2, v1), (2, v2), (0, v3)]) (S2 := [(0, u3), (2, v2), (0, u2)]) (h2 := h) (by decide +kernel) (by subst he; rfl) (by exact hg) ?_
  clear hg he
  obtain ⟨_, hg, -, hx⟩ := bgd hx
  obtain ⟨u4, hc, hx⟩ := bca hx
  refine Ev.call (args := [(2, v2), (0, u3)]) (S2 := [(0, u2)]) (r1 := (some (0, u4.1))) (h1 := u4.2) (i := .invokevirtual 264) (by decide +kernel) rfl rfl (Nat.le_of_ble_eq_true rfl) (Or.inr (Or.inl ⟨rfl, hg, by decide +kernel⟩)) (x_R_count (by omega) hc) ?_
  obtain ⟨ha, hb⟩ := bite hx
  clear hx
  refine Ev.br (i := .if_icmp .eq 5) (len := 3) (a := 1500) (b := 1498) (by decide +kernel) rfl Iff.rfl (fun hc => ?_) (fun hc => ?_)
  · have hx := ha hc
    clear ha hb hc
    exact y_Law_law_1500 hd hk18 v1 v2 v3 u4.2 _ hx
  · have hx := hb hc
    clear ha hb hc
    refine Ev.blk (is := [.iconst 0]) (pc2 := 1499) (L2 := [(4, 1), (2, v1), (2, v2), (0, v3)]) (S2 := [(0, 0)]) (h2 := u4.2) (by decide +kernel) rfl trivial ?_
    cases hx
    exact Ev.ret (i := .ireturn) (len := 1) (by decide +kernel) rfl (finOf (t := some .boolean) rfl (bz0))
theorem y_Law_law_18 {sc : AS} {d : Nat} (hd : 53 ≤ d) : ∀ (fu : Nat) (v1 : Int) (v2 : Int) (v3 : Int) (h : AH) (r : (Int × AH)), Law_law_18 sc fu v1 v2 v3 h = some r → Ev sc d 265 18 [(4, 1), (2, v1), (2, v2), (0, v3)] [] h (some (0, r.1)) r.2 := by
  intro fu
  induction fu with
  | zero => intro v1 v2 v3 h r hx; unfold Law_law_18 at hx; cases hx
  | succ fu ih =>
    intro v1 v2 v3 h r hx
    unfold Law_law_18 at hx
    refine Ev.blk (is := [.iload_n 3, .aload_n 0, .arraylength, .sipush 6, .isub]) (pc2 := 24) (L2 := [(4, 1), (2, v1), (2, v2), (0, v3)]) (S2 := [(0, w32 (sc.1 - 6)), (0, v3)]) (h2 := h) (by decide +kernel) rfl trivial ?_
    obtain ⟨ha, hb⟩ := bite hx
    clear hx
    refine Ev.br (i := .if_icmp .gt 1482) (len := 3) (a := 1506) (b := 27) (by decide +kernel) rfl Iff.rfl (fun hc => ?_) (fun hc => ?_)
    · have hx := ha hc
      clear ha hb hc
      refine Ev.blk (is := [.iconst 1]) (pc2 := 1507) (L2 := [(4, 1), (2, v1), (2, v2), (0, v3)]) (S2 := [(0, 1)]) (h2 := h) (by decide +kernel) rfl trivial ?_
      cases hx
      exact Ev.ret (i := .ireturn) (len := 1) (by decide +kernel) rfl (finOf (t := some .boolean) rfl (bz1))
    · have hx := hb hc
      clear ha hb hc
      obtain ⟨u1, hg, he, hx⟩ := bgd hx
      refine Ev.blk (is := [.aload_n 0, .iload_n 3, .iaload]) (pc2 := 30) (L2 := [(4, 1), (2, v1), (2, v2), (0, v3)]) (S2 := [(0, u1)]) (h2 := h) (by decide +kernel) (by subst he; rfl) (by exact hg) ?_
      clear hg he
      refine Ev.blk (is := [.sipush 63, .iand]) (pc2 := 33) (L2 := [(4, 1), (2, v1), (2, v2), (0, v3)]) (S2 := [(0, andI u1 63)]) (h2 := h) (by decide +kernel) rfl trivial ?_
      have hsw : fetch 265 33 = some (.tableswitch 1467 0 39 #[175, 208, 271, 294, 307, 350, 429, 488, 521, 544, 567, 580, 593, 626, 695, 709, 733, 756, 780, 803, 836, 870, 903, 926, 959, 992, 1025, 1048, 1071, 1104, 1127, 1160, 1193, 1226, 1259, 1302, 1335, 1368, 1421, 1444], 175) := by decide +kernel
      obtain ⟨ha, hb⟩ := bite hx
      clear hx
      by_cases hc0 : andI u1 63 = 0
      · have hx := ha hc0
        clear ha hb
        refine Ev.jp (pc2 := 208) hsw (by rw [hc0]; rfl) ?_
        clear hc0
        exact y_Law_law_208 hd ih v1 v2 v3 h _ hx
      have hx := hb hc0
      clear ha hb
      obtain ⟨ha, hb⟩ := bite hx
      clear hx
      by_cases hc1 : andI u1 63 = 1
      · have hx := ha hc1
        clear ha hb
        refine Ev.jp (pc2 := 241) hsw (by rw [hc1]; rfl) ?_
        clear hc1
        exact y_Law_law_241 hd ih v1 v2 v3 h _ hx
      have hx := hb hc1
      clear ha hb
      obtain ⟨ha, hb⟩ := bite hx
      clear hx
      by_cases hc2 : andI u1 63 = 2
      · have hx := ha hc2
        clear ha hb
        refine Ev.jp (pc2 := 304) hsw (by rw [hc2]; rfl) ?_
        clear hc2
        exact y_Law_law_304 hd ih v1 v2 v3 h _ hx
      have hx := hb hc2
      clear ha hb
      obtain ⟨ha, hb⟩ := bite hx
      clear hx
      by_cases hc3 : andI u1 63 = 3
      · have hx := ha hc3
        clear ha hb
        refine Ev.jp (pc2 := 327) hsw (by rw [hc3]; rfl) ?_
        clear hc3
        exact y_Law_law_327 hd ih v1 v2 v3 h _ hx
      have hx := hb hc3
      clear ha hb
      obtain ⟨ha, hb⟩ := bite hx
      clear hx
      by_cases hc4 : andI u1 63 = 4
      · have hx := ha hc4
        clear ha hb
        refine Ev.jp (pc2 := 340) hsw (by rw [hc4]; rfl) ?_
        clear hc4
        exact y_Law_law_340 hd ih v1 v2 v3 h _ hx
      have hx := hb hc4
      clear ha hb
      obtain ⟨ha, hb⟩ := bite hx
      clear hx
      by_cases hc5 : andI u1 63 = 5
      · have hx := ha hc5
        clear ha hb
        refine Ev.jp (pc2 := 383) hsw (by rw [hc5]; rfl) ?_
        clear hc5
        exact y_Law_law_383 hd ih v1 v2 v3 h _ hx
      have hx := hb hc5
      clear ha hb
      obtain ⟨ha, hb⟩ := bite hx
      clear hx
      by_cases hc6 : andI u1 63 = 6
      · have hx := ha hc6
        clear ha hb
        refine Ev.jp (pc2 := 462) hsw (by rw [hc6]; rfl) ?_
        clear hc6
        exact y_Law_law_462 hd ih v1 v2 v3 h _ hx
      have hx := hb hc6
      clear ha hb
      obtain ⟨ha, hb⟩ := bite hx
      clear hx
      by_cases hc7 : andI u1 63 = 7
      · have hx := ha hc7
        clear ha hb
        refine Ev.jp (pc2 := 521) hsw (by rw [hc7]; rfl) ?_
        clear hc7
        exact y_Law_law_521 hd ih v1 v2 v3 h _ hx
      have hx := hb hc7
      clear ha hb
      obtain ⟨ha, hb⟩ := bite hx
      clear hx
      by_cases hc8 : andI u1 63 = 8
      · have hx := ha hc8
        clear ha hb
        refine Ev.jp (pc2 := 554) hsw (by rw [hc8]; rfl) ?_
        clear hc8
        exact y_Law_law_554 hd ih v1 v2 v3 h _ hx
      have hx := hb hc8
      clear ha hb
      obtain ⟨ha, hb⟩ := bite hx
      clear hx
      by_cases hc9 : andI u1 63 = 9
      · have hx := ha hc9
        clear ha hb
        refine Ev.jp (pc2 := 577) hsw (by rw [hc9]; rfl) ?_
        clear hc9
        exact y_Law_law_577 hd ih v1 v2 v3 h _ hx
      have hx := hb hc9
      clear ha hb
      obtain ⟨ha, hb⟩ := bite hx
      clear hx
      by_cases hc10 : andI u1 63 = 10
      · have hx := ha hc10
        clear ha hb
        refine Ev.jp (pc2 := 600) hsw (by rw [hc10]; rfl) ?_
        clear hc10
        exact y_Law_law_600 hd ih v1 v2 v3 h _ hx
      have hx := hb hc10
      clear ha hb
      obtain ⟨ha, hb⟩ := bite hx
      clear hx
      by_cases hc11 : andI u1 63 = 11
      · have hx := ha hc11
        clear ha hb
        refine Ev.jp (pc2 := 613) hsw (by rw [hc11]; rfl) ?_
        clear hc11
        exact y_Law_law_613 hd ih v1 v2 v3 h _ hx
      have hx := hb hc11
      clear ha hb
      obtain ⟨ha, hb⟩ := bite hx
      clear hx
      by_cases hc12 : andI u1 63 = 12
      · have hx := ha hc12
        clear ha hb
        refine Ev.jp (pc2 := 626) hsw (by rw [hc12]; rfl) ?_
        clear hc12
        exact y_Law_law_626 hd ih v1 v2 v3 h _ hx
      have hx := hb hc12
      clear ha hb
      obtain ⟨ha, hb⟩ := bite hx
      clear hx
      by_cases hc13 : andI u1 63 = 13
      · have hx := ha hc13
        clear ha hb
        refine Ev.jp (pc2 := 659) hsw (by rw [hc13]; rfl) ?_
        clear hc13
        exact y_Law_law_659 hd ih v1 v2 v3 h _ hx
      have hx := hb hc13
      clear ha hb
      obtain ⟨ha, hb⟩ := bite hx
      clear hx
      by_cases hc14 : andI u1 63 = 14
      · have hx := ha hc14
        clear ha hb
        refine Ev.jp (pc2 := 728) hsw (by rw [hc14]; rfl) ?_
        clear hc14
        exact y_Law_law_728 hd ih v1 v2 v3 h _ hx
      have hx := hb hc14
      clear ha hb
      obtain ⟨ha, hb⟩ := bite hx
      clear hx
      by_cases hc15 : andI u1 63 = 15
      · have hx := ha hc15
        clear ha hb
        refine Ev.jp (pc2 := 742) hsw (by rw [hc15]; rfl) ?_
        clear hc15
        exact y_Law_law_742 hd ih v1 v2 v3 h _ hx
      have hx := hb hc15
      clear ha hb
      obtain ⟨ha, hb⟩ := bite hx
      clear hx
      by_cases hc16 : andI u1 63 = 16
      · have hx := ha hc16
        clear ha hb
        refine Ev.jp (pc2 := 766) hsw (by rw [hc16]; rfl) ?_
        clear hc16
        exact y_Law_law_766 hd ih v1 v2 v3 h _ hx
      have hx := hb hc16
      clear ha hb
      obtain ⟨ha, hb⟩ := bite hx
      clear hx
      by_cases hc17 : andI u1 63 = 17
      · have hx := ha hc17
        clear ha hb
        refine Ev.jp (pc2 := 789) hsw (by rw [hc17]; rfl) ?_
        clear hc17
        exact y_Law_law_789 hd ih v1 v2 v3 h _ hx
      have hx := hb hc17
      clear ha hb
      obtain ⟨ha, hb⟩ := bite hx
      clear hx
      by_cases hc18 : andI u1 63 = 18
      · have hx := ha hc18
        clear ha hb
        refine Ev.jp (pc2 := 813) hsw (by rw [hc18]; rfl) ?_
        clear hc18
        exact y_Law_law_813 hd ih v1 v2 v3 h _ hx
      have hx := hb hc18
      clear ha hb
      obtain ⟨ha, hb⟩ := bite hx
      clear hx
      by_cases hc19 : andI u1 63 = 19
      · have hx := ha hc19
        clear ha hb
        refine Ev.jp (pc2 := 836) hsw (by rw [hc19]; rfl) ?_
        clear hc19
        exact y_Law_law_836 hd ih v1 v2 v3 h _ hx
      have hx := hb hc19
      clear ha hb
      obtain ⟨ha, hb⟩ := bite hx
      clear hx
      by_cases hc20 : andI u1 63 = 20
      · have hx := ha hc20
        clear ha hb
        refine Ev.jp (pc2 := 869) hsw (by rw [hc20]; rfl) ?_
        clear hc20
        exact y_Law_law_869 hd ih v1 v2 v3 h _ hx
      have hx := hb hc20
      clear ha hb
      obtain ⟨ha, hb⟩ := bite hx
      clear hx
      by_cases hc21 : andI u1 63 = 21
      · have hx := ha hc21
        clear ha hb
        refine Ev.jp (pc2 := 903) hsw (by rw [hc21]; rfl) ?_
        clear hc21
        exact y_Law_law_903 hd ih v1 v2 v3 h _ hx
      have hx := hb hc21
      clear ha hb
      obtain ⟨ha, hb⟩ := bite hx
      clear hx
      by_cases hc22 : andI u1 63 = 22
      · have hx := ha hc22
        clear ha hb
        refine Ev.jp (pc2 := 936) hsw (by rw [hc22]; rfl) ?_
        clear hc22
        exact y_Law_law_936 hd ih v1 v2 v3 h _ hx
      have hx := hb hc22
      clear ha hb
      obtain ⟨ha, hb⟩ := bite hx
      clear hx
      by_cases hc23 : andI u1 63 = 23
      · have hx := ha hc23
        clear ha hb
        refine Ev.jp (pc2 := 959) hsw (by rw [hc23]; rfl) ?_
        clear hc23
        exact y_Law_law_959 hd ih v1 v2 v3 h _ hx
      have hx := hb hc23
      clear ha hb
      obtain ⟨ha, hb⟩ := bite hx
      clear hx
      by_cases hc24 : andI u1 63 = 24
      · have hx := ha hc24
        clear ha hb
        refine Ev.jp (pc2 := 992) hsw (by rw [hc24]; rfl) ?_
        clear hc24
        exact y_Law_law_992 hd ih v1 v2 v3 h _ hx
      have hx := hb hc24
      clear ha hb
      obtain ⟨ha, hb⟩ := bite hx
      clear hx
      by_cases hc25 : andI u1 63 = 25
      · have hx := ha hc25
        clear ha hb
        refine Ev.jp (pc2 := 1025) hsw (by rw [hc25]; rfl) ?_
        clear hc25
        exact y_Law_law_1025 hd ih v1 v2 v3 h _ hx
      have hx := hb hc25
      clear ha hb
      obtain ⟨ha, hb⟩ := bite hx
      clear hx
      by_cases hc26 : andI u1 63 = 26
      · have hx := ha hc26
        clear ha hb
        refine Ev.jp (pc2 := 1058) hsw (by rw [hc26]; rfl) ?_
        clear hc26
        exact y_Law_law_1058 hd ih v1 v2 v3 h _ hx
      have hx := hb hc26
      clear ha hb
      obtain ⟨ha, hb⟩ := bite hx
      clear hx
      by_cases hc27 : andI u1 63 = 27
      · have hx := ha hc27
        clear ha hb
        refine Ev.jp (pc2 := 1081) hsw (by rw [hc27]; rfl) ?_
        clear hc27
        exact y_Law_law_1081 hd ih v1 v2 v3 h _ hx
      have hx := hb hc27
      clear ha hb
      obtain ⟨ha, hb⟩ := bite hx
      clear hx
      by_cases hc28 : andI u1 63 = 28
      · have hx := ha hc28
        clear ha hb
        refine Ev.jp (pc2 := 1104) hsw (by rw [hc28]; rfl) ?_
        clear hc28
        exact y_Law_law_1104 hd ih v1 v2 v3 h _ hx
      have hx := hb hc28
      clear ha hb
      obtain ⟨ha, hb⟩ := bite hx
      clear hx
      by_cases hc29 : andI u1 63 = 29
      · have hx := ha hc29
        clear ha hb
        refine Ev.jp (pc2 := 1137) hsw (by rw [hc29]; rfl) ?_
        clear hc29
        exact y_Law_law_1137 hd ih v1 v2 v3 h _ hx
      have hx := hb hc29
      clear ha hb
      obtain ⟨ha, hb⟩ := bite hx
      clear hx
      by_cases hc30 : andI u1 63 = 30
      · have hx := ha hc30
        clear ha hb
        refine Ev.jp (pc2 := 1160) hsw (by rw [hc30]; rfl) ?_
        clear hc30
        exact y_Law_law_1160 hd ih v1 v2 v3 h _ hx
      have hx := hb hc30
      clear ha hb
      obtain ⟨ha, hb⟩ := bite hx
      clear hx
      by_cases hc31 : andI u1 63 = 31
      · have hx := ha hc31
        clear ha hb
        refine Ev.jp (pc2 := 1193) hsw (by rw [hc31]; rfl) ?_
        clear hc31
        exact y_Law_law_1193 hd ih v1 v2 v3 h _ hx
      have hx := hb hc31
      clear ha hb
      obtain ⟨ha, hb⟩ := bite hx
      clear hx
      by_cases hc32 : andI u1 63 = 32
      · have hx := ha hc32
        clear ha hb
        refine Ev.jp (pc2 := 1226) hsw (by rw [hc32]; rfl) ?_
        clear hc32
        exact y_Law_law_1226 hd ih v1 v2 v3 h _ hx
      have hx := hb hc32
      clear ha hb
      obtain ⟨ha, hb⟩ := bite hx
      clear hx
      by_cases hc33 : andI u1 63 = 33
      · have hx := ha hc33
        clear ha hb
        refine Ev.jp (pc2 := 1259) hsw (by rw [hc33]; rfl) ?_
        clear hc33
        exact y_Law_law_1259 hd ih v1 v2 v3 h _ hx
      have hx := hb hc33
      clear ha hb
      obtain ⟨ha, hb⟩ := bite hx
      clear hx
      by_cases hc34 : andI u1 63 = 34
      · have hx := ha hc34
        clear ha hb
        refine Ev.jp (pc2 := 1292) hsw (by rw [hc34]; rfl) ?_
        clear hc34
        exact y_Law_law_1292 hd ih v1 v2 v3 h _ hx
      have hx := hb hc34
      clear ha hb
      obtain ⟨ha, hb⟩ := bite hx
      clear hx
      by_cases hc35 : andI u1 63 = 35
      · have hx := ha hc35
        clear ha hb
        refine Ev.jp (pc2 := 1335) hsw (by rw [hc35]; rfl) ?_
        clear hc35
        exact y_Law_law_1335 hd ih v1 v2 v3 h _ hx
      have hx := hb hc35
      clear ha hb
      obtain ⟨ha, hb⟩ := bite hx
      clear hx
      by_cases hc36 : andI u1 63 = 36
      · have hx := ha hc36
        clear ha hb
        refine Ev.jp (pc2 := 1368) hsw (by rw [hc36]; rfl) ?_
        clear hc36
        exact y_Law_law_1368 hd ih v1 v2 v3 h _ hx
      have hx := hb hc36
      clear ha hb
      obtain ⟨ha, hb⟩ := bite hx
      clear hx
      by_cases hc37 : andI u1 63 = 37
      · have hx := ha hc37
        clear ha hb
        refine Ev.jp (pc2 := 1401) hsw (by rw [hc37]; rfl) ?_
        clear hc37
        exact y_Law_law_1401 hd ih v1 v2 v3 h _ hx
      have hx := hb hc37
      clear ha hb
      obtain ⟨ha, hb⟩ := bite hx
      clear hx
      by_cases hc38 : andI u1 63 = 38
      · have hx := ha hc38
        clear ha hb
        refine Ev.jp (pc2 := 1454) hsw (by rw [hc38]; rfl) ?_
        clear hc38
        exact y_Law_law_1454 hd ih v1 v2 v3 h _ hx
      have hx := hb hc38
      clear ha hb
      obtain ⟨ha, hb⟩ := bite hx
      clear hx
      by_cases hc39 : andI u1 63 = 39
      · have hx := ha hc39
        clear ha hb
        refine Ev.jp (pc2 := 1477) hsw (by rw [hc39]; rfl) ?_
        clear hc39
        exact y_Law_law_1477 hd ih v1 v2 v3 h _ hx
      have hx := hb hc39
      clear ha hb
      refine Ev.jp (pc2 := 1500) hsw (jsw (by omega)) ?_
      clear hc0 hc1 hc2 hc3 hc4 hc5 hc6 hc7 hc8 hc9 hc10 hc11 hc12 hc13 hc14 hc15 hc16 hc17 hc18 hc19 hc20 hc21 hc22 hc23 hc24 hc25 hc26 hc27 hc28 hc29 hc30 hc31 hc32 hc33 hc34 hc35 hc36 hc37 hc38 hc39
      exact y_Law_law_1500 hd ih v1 v2 v3 h _ hx
theorem x_Law_law {sc : AS} {d : Nat} (hd : 54 ≤ d) {h : AH} {r : (Int × AH)} (hx : Law_law sc h = some r) : Runs sc d 265 [(4, 1)] h (some (0, r.1)) r.2 := by
  obtain ⟨d, rfl⟩ : ∃ e, d = e + 1 := ⟨d - 1, by omega⟩
  have hd : 53 ≤ d := by omega
  unfold Law_law at hx
  refine ⟨⟨aM_265, rfl, Nat.le_of_ble_eq_true rfl⟩, ?_⟩
  show Ev sc d 265 0 [(4, 1), (9, 0), (9, 0), (9, 0)] [] h (some (0, r.1)) r.2
  obtain ⟨h1, hg, he, hx⟩ := bgd hx
  refine Ev.blk (is := [.new 8]) (pc2 := 3) (L2 := [(4, 1), (9, 0), (9, 0), (9, 0)]) (S2 := [(2, hNx h)]) (h2 := h1) (by decide +kernel) (by subst he; rfl) (by exact trivial) ?_
  clear hg he
  refine Ev.blk (is := [.dup]) (pc2 := 4) (L2 := [(4, 1), (9, 0), (9, 0), (9, 0)]) (S2 := [(2, hNx h), (2, hNx h)]) (h2 := h1) (by decide +kernel) rfl trivial ?_
  obtain ⟨_, hg, -, hx⟩ := bgd hx
  obtain ⟨h3, hc, hx⟩ := bca hx
  refine Ev.call (args := [(2, hNx h)]) (S2 := [(2, hNx h)]) (r1 := none) (h1 := h3) (i := .invokespecial 0) (by decide +kernel) rfl rfl (Nat.le_of_ble_eq_true rfl) (Or.inr (Or.inr ⟨rfl, _, _, rfl, hg⟩)) (x_X_init (by omega) hc) ?_
  obtain ⟨h4, hg, he, hx⟩ := bgd hx
  refine Ev.blk (is := [.astore_n 1, .new 9]) (pc2 := 11) (L2 := [(4, 1), (2, hNx h), (9, 0), (9, 0)]) (S2 := [(2, hNx h3)]) (h2 := h4) (by decide +kernel) (by subst he; rfl) (by exact trivial) ?_
  clear hg he
  refine Ev.blk (is := [.dup]) (pc2 := 12) (L2 := [(4, 1), (2, hNx h), (9, 0), (9, 0)]) (S2 := [(2, hNx h3), (2, hNx h3)]) (h2 := h4) (by decide +kernel) rfl trivial ?_
  obtain ⟨_, hg, -, hx⟩ := bgd hx
  obtain ⟨h6, hc, hx⟩ := bca hx
  refine Ev.call (args := [(2, hNx h3)]) (S2 := [(2, hNx h3)]) (r1 := none) (h1 := h6) (i := .invokespecial 160) (by decide +kernel) rfl rfl (Nat.le_of_ble_eq_true rfl) (Or.inr (Or.inr ⟨rfl, _, _, rfl, hg⟩)) (x_R_init (by omega) hc) ?_
  refine Ev.blk (is := [.astore_n 2, .iconst 0, .istore_n 3]) (pc2 := 18) (L2 := [(4, 1), (2, hNx h), (2, hNx h3), (0, 0)]) (S2 := []) (h2 := h6) (by decide +kernel) rfl trivial ?_
  exact y_Law_law_18 hd FU (hNx h) (hNx h3) 0 h6 _ hx
