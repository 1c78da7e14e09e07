/-! SHALLOW FUNCTIONS: what every method does, as a function of numbers and a heap -/
/-- PrimeProofs$Ledger.<init>()V -/
def Ledger_init (v0 : Int) (h : AH) : Option AH :=
  (gd (0 ≤ v0) (0)).bind fun u1 =>
  (gd (0 ≤ (60 : Int) ∧ (60 : Int) ≤ 2000) (hNew h 26 (60 : Int) (dfA 26))).bind fun h2 =>
  (gd (hTy h2 v0 = 3) (hSet h2 v0 0 (hNx h))).bind fun h3 =>
  (gd (0 ≤ (60 : Int) ∧ (60 : Int) ≤ 2000) (hNew h3 21 (60 : Int) (dfA 21))).bind fun h4 =>
  (gd (hTy h4 v0 = 3) (hSet h4 v0 1 (hNx h3))).bind fun h5 =>
  (gd (0 ≤ (60 : Int) ∧ (60 : Int) ≤ 2000) (hNew h5 22 (60 : Int) (dfA 22))).bind fun h6 =>
  (gd (hTy h6 v0 = 3) (hSet h6 v0 2 (hNx h5))).bind fun h7 =>
  (gd (0 ≤ (60 : Int) ∧ (60 : Int) ≤ 2000) (hNew h7 21 (60 : Int) (dfA 21))).bind fun h8 =>
  (gd (hTy h8 v0 = 3) (hSet h8 v0 3 (hNx h7))).bind fun h9 =>
  some h9
/-- PrimeProofs$Factors.<init>()V -/
def Factors_init (v0 : Int) (h : AH) : Option AH :=
  (gd (0 ≤ v0) (0)).bind fun u1 =>
  (gd (0 ≤ (9 : Int) ∧ (9 : Int) ≤ 2000) (hNew h 21 (9 : Int) (dfA 21))).bind fun h2 =>
  (gd (hTy h2 v0 = 1) (hSet h2 v0 0 (hNx h))).bind fun h3 =>
  (gd (0 ≤ (9 : Int) ∧ (9 : Int) ≤ 2000) (hNew h3 21 (9 : Int) (dfA 21))).bind fun h4 =>
  (gd (hTy h4 v0 = 1) (hSet h4 v0 1 (hNx h3))).bind fun h5 =>
  some h5
/-- PrimeProofs$Finder.<init>(LPrimeProofs$Ledger;)V -/
def Finder_init (v0 : Int) (v1 : Int) (h : AH) : Option AH :=
  (gd (0 ≤ v0) (0)).bind fun u1 =>
  (gd (True) (hNew h 1 3 (dfO 0))).bind fun h2 =>
  (gd (0 ≤ (hNx h)) 0).bind fun _ =>
  (Factors_init (hNx h) h2).bind fun h4 =>
  (gd (hTy h4 v0 = 2) (hSet h4 v0 1 (hNx h))).bind fun h5 =>
  (gd (True) (hNew h5 1 3 (dfO 0))).bind fun h6 =>
  (gd (0 ≤ (hNx h5)) 0).bind fun _ =>
  (Factors_init (hNx h5) h6).bind fun h8 =>
  (gd (hTy h8 v0 = 2) (hSet h8 v0 2 (hNx h5))).bind fun h9 =>
  (gd (0 ≤ (40 : Int) ∧ (40 : Int) ≤ 2000) (hNew h9 26 (40 : Int) (dfA 26))).bind fun h10 =>
  (gd (hTy h10 v0 = 2) (hSet h10 v0 3 (hNx h9))).bind fun h11 =>
  (gd (hTy h11 v0 = 2) (hSet h11 v0 0 v1)).bind fun h12 =>
  some h12
/-- PrimeProofs$Tape.<init>()V -/
def Tape_init (v0 : Int) (h : AH) : Option AH :=
  (gd (0 ≤ v0) (0)).bind fun u1 =>
  (gd (0 ≤ (400 : Int) ∧ (400 : Int) ≤ 2000) (hNew h 24 (400 : Int) (dfA 24))).bind fun h2 =>
  (gd (hTy h2 v0 = 8) (hSet h2 v0 0 (hNx h))).bind fun h3 =>
  some h3
/-- PrimeProofs$Side.<init>()V -/
def Side_init (v0 : Int) (h : AH) : Option AH :=
  (gd (0 ≤ v0) (0)).bind fun u1 =>
  (gd (0 ≤ (27 : Int) ∧ (27 : Int) ≤ 2000) (hNew h 21 (27 : Int) (dfA 21))).bind fun h2 =>
  (gd (hTy h2 v0 = 6) (hSet h2 v0 0 (hNx h))).bind fun h3 =>
  some h3
/-- PrimeProofs$Line.<init>()V -/
def Line_init (v0 : Int) (h : AH) : Option AH :=
  (gd (0 ≤ v0) (0)).bind fun u1 =>
  (gd (True) (hNew h 6 2 (dfO 5))).bind fun h2 =>
  (gd (0 ≤ (hNx h)) 0).bind fun _ =>
  (Side_init (hNx h) h2).bind fun h4 =>
  (gd (hTy h4 v0 = 4) (hSet h4 v0 0 (hNx h))).bind fun h5 =>
  (gd (True) (hNew h5 6 2 (dfO 5))).bind fun h6 =>
  (gd (0 ≤ (hNx h5)) 0).bind fun _ =>
  (Side_init (hNx h5) h6).bind fun h8 =>
  (gd (hTy h8 v0 = 4) (hSet h8 v0 1 (hNx h5))).bind fun h9 =>
  (gd (hTy h9 v0 = 4) (hSet h9 v0 6 (-1))).bind fun h10 =>
  some h10
/-- PrimeProofs$Reader.<init>(LPrimeProofs$Tape;LPrimeProofs$Ledger;)V -/
def Reader_init (v0 : Int) (v1 : Int) (v2 : Int) (h : AH) : Option AH :=
  (gd (0 ≤ v0) (0)).bind fun u1 =>
  (gd (True) (hNew h 4 7 (dfO 3))).bind fun h2 =>
  (gd (0 ≤ (hNx h)) 0).bind fun _ =>
  (Line_init (hNx h) h2).bind fun h4 =>
  (gd (hTy h4 v0 = 5) (hSet h4 v0 2 (hNx h))).bind fun h5 =>
  (gd (hTy h5 v0 = 5) (hSet h5 v0 0 v1)).bind fun h6 =>
  (gd (hTy h6 v0 = 5) (hSet h6 v0 1 v2)).bind fun h7 =>
  some h7
/-- PrimeProofs$Speller.<init>()V -/
def Speller_init (v0 : Int) (h : AH) : Option AH :=
  (gd (0 ≤ v0) (0)).bind fun u1 =>
  (gd (0 ≤ (400 : Int) ∧ (400 : Int) ≤ 2000) (hNew h 24 (400 : Int) (dfA 24))).bind fun h2 =>
  (gd (hTy h2 v0 = 7) (hSet h2 v0 0 (hNx h))).bind fun h3 =>
  some h3
/-- PrimeProofs.<init>()V -/
def X_init (v0 : Int) (h : AH) : Option AH :=
  (gd (0 ≤ v0) (0)).bind fun u1 =>
  (gd (True) (hNew h 3 6 (dfO 2))).bind fun h2 =>
  (gd (0 ≤ (hNx h)) 0).bind fun _ =>
  (Ledger_init (hNx h) h2).bind fun h4 =>
  (gd (hTy h4 v0 = 9) (hSet h4 v0 0 (hNx h))).bind fun h5 =>
  (gd (True) (hNew h5 2 4 (dfO 1))).bind fun h6 =>
  (gd (hTy h6 v0 = 9) (hCe h6 v0 0)).bind fun u7 =>
  (gd (0 ≤ (hNx h5)) 0).bind fun _ =>
  (Finder_init (hNx h5) u7 h6).bind fun h9 =>
  (gd (hTy h9 v0 = 9) (hSet h9 v0 1 (hNx h5))).bind fun h10 =>
  (gd (True) (hNew h10 8 2 (dfO 7))).bind fun h11 =>
  (gd (0 ≤ (hNx h10)) 0).bind fun _ =>
  (Tape_init (hNx h10) h11).bind fun h13 =>
  (gd (hTy h13 v0 = 9) (hSet h13 v0 2 (hNx h10))).bind fun h14 =>
  (gd (True) (hNew h14 5 6 (dfO 4))).bind fun h15 =>
  (gd (hTy h15 v0 = 9) (hCe h15 v0 2)).bind fun u16 =>
  (gd (hTy h15 v0 = 9) (hCe h15 v0 0)).bind fun u17 =>
  (gd (0 ≤ (hNx h14)) 0).bind fun _ =>
  (Reader_init (hNx h14) u16 u17 h15).bind fun h19 =>
  (gd (hTy h19 v0 = 9) (hSet h19 v0 3 (hNx h14))).bind fun h20 =>
  (gd (True) (hNew h20 7 2 (dfO 6))).bind fun h21 =>
  (gd (0 ≤ (hNx h20)) 0).bind fun _ =>
  (Speller_init (hNx h20) h21).bind fun h23 =>
  (gd (hTy h23 v0 = 9) (hSet h23 v0 4 (hNx h20))).bind fun h24 =>
  (gd (True) (hNew h24 1 3 (dfO 0))).bind fun h25 =>
  (gd (0 ≤ (hNx h24)) 0).bind fun _ =>
  (Factors_init (hNx h24) h25).bind fun h27 =>
  (gd (hTy h27 v0 = 9) (hSet h27 v0 5 (hNx h24))).bind fun h28 =>
  some h28
/-- PrimeProofs$Arithmetic.isNumber(I)Z -/
def Arithmetic_isNumber (v0 : Int) : Option Int :=
  if v0 < (2 : Int) then
    some 0
  else
    if (1000000000 : Int) < v0 then
      some 0
    else
      some 1
/-- PrimeProofs$Ledger.has(I)Z -/
def Ledger_has (v0 : Int) (v1 : Int) (h : AH) : Option Int :=
  if v1 < 0 then
    some 0
  else
    (gd (hTy h v0 = 3) (hCe h v0 5)).bind fun u1 =>
    if v1 < u1 then
      (gd (hTy h v0 = 3) (hCe h v0 0)).bind fun u2 =>
      (gd (hTy h u2 = 26 ∧ 0 ≤ v1 ∧ v1 < hLn h u2) (hCe h u2 v1)).bind fun u3 =>
      if u3 < 0 then
        some 0
      else
        some 1
    else
      some 0
/-- PrimeProofs$Ledger.isIn(JI)Z -/
def Ledger_isIn (v0 : Int) (v2 : Int) : Option Int :=
  if (andL (shrL v0 v2) 1) = (1 : Int) then
    some 1
  else
    some 0
/-- PrimeProofs$Ledger.isRight(I)Z -/
def Ledger_isRight (v0 : Int) (v1 : Int) (h : AH) : Option Int :=
  (gd (hTy h v0 = 3) 0).bind fun _ =>
  (Ledger_has v0 v1 h).bind fun u1 =>
  if u1 = 0 then
    some 0
  else
    (gd (hTy h v0 = 3) (hCe h v0 4)).bind fun u2 =>
    (Ledger_isIn u2 v1).bind fun u3 =>
    if u3 = 0 then
      some 0
    else
      some 1
/-- PrimeProofs$Ledger.leastOfSort(II)I -/
def Ledger_leastOfSort_2 : Nat → Int → Int → Int → Int → AH → Option Int
  | 0, _, _, _, _, _ => none
  | fu + 1, v0, v1, v2, v3, h =>
    (gd (hTy h v0 = 3) (hCe h v0 5)).bind fun u1 =>
    if v3 < u1 then
      (gd (hTy h v0 = 3) 0).bind fun _ =>
      (Ledger_isRight v0 v3 h).bind fun u2 =>
      if u2 = 0 then
        Ledger_leastOfSort_2 fu v0 v1 v2 (w32 (v3 + 1)) h
      else
        (gd (hTy h v0 = 3) (hCe h v0 0)).bind fun u3 =>
        (gd (hTy h u3 = 26 ∧ 0 ≤ v3 ∧ v3 < hLn h u3) (hCe h u3 v3)).bind fun u4 =>
        (gd (hTy h u4 = 4) (hCe h u4 2)).bind fun u5 =>
        if u5 = v1 then
          (gd (hTy h v0 = 3) (hCe h v0 0)).bind fun u6 =>
          (gd (hTy h u6 = 26 ∧ 0 ≤ v3 ∧ v3 < hLn h u6) (hCe h u6 v3)).bind fun u7 =>
          (gd (hTy h u7 = 4) (hCe h u7 3)).bind fun u8 =>
          if u8 = v2 then
            some v3
          else
            Ledger_leastOfSort_2 fu v0 v1 v2 (w32 (v3 + 1)) h
        else
          Ledger_leastOfSort_2 fu v0 v1 v2 (w32 (v3 + 1)) h
    else
      some (-1)
def Ledger_leastOfSort (v0 : Int) (v1 : Int) (v2 : Int) (h : AH) : Option Int :=
  Ledger_leastOfSort_2 FU v0 v1 v2 0 h
/-- PrimeProofs$Finder.draftAt(I)LPrimeProofs$Line; -/
def Finder_draftAt (v0 : Int) (v1 : Int) (h : AH) : Option (Int × AH) :=
  if v1 < 0 then
    some ((-1), h)
  else
    if v1 < (40 : Int) then
      (gd (hTy h v0 = 2) (hCe h v0 3)).bind fun u1 =>
      (gd (hTy h u1 = 26 ∧ 0 ≤ v1 ∧ v1 < hLn h u1) (hCe h u1 v1)).bind fun u2 =>
      if u2 < 0 then
        (gd (hTy h v0 = 2) (hCe h v0 3)).bind fun u3 =>
        (gd (True) (hNew h 4 7 (dfO 3))).bind fun h4 =>
        (gd (0 ≤ (hNx h)) 0).bind fun _ =>
        (Line_init (hNx h) h4).bind fun h6 =>
        (gd ((hTy h6 u3 = 26 ∧ 0 ≤ v1 ∧ v1 < hLn h6 u3) ∧ ((hNx h) < 0 ∨ hTy h6 (hNx h) = 4)) (hSet h6 u3 v1 (hNx h))).bind fun h7 =>
        (gd (hTy h7 v0 = 2) (hCe h7 v0 3)).bind fun u8 =>
        (gd (hTy h7 u8 = 26 ∧ 0 ≤ v1 ∧ v1 < hLn h7 u8) (hCe h7 u8 v1)).bind fun u9 =>
        some (u9, h7)
      else
        (gd (hTy h v0 = 2) (hCe h v0 3)).bind fun u10 =>
        (gd (hTy h u10 = 26 ∧ 0 ≤ v1 ∧ v1 < hLn h u10) (hCe h u10 v1)).bind fun u11 =>
        some (u11, h)
    else
      some ((-1), h)
/-- PrimeProofs$Line.begin(II)V -/
def Line_begin (v0 : Int) (v1 : Int) (v2 : Int) (h : AH) : Option AH :=
  (gd (hTy h v0 = 4) (hSet h v0 2 v1)).bind fun h1 =>
  (gd (hTy h1 v0 = 4) (hSet h1 v0 3 v2)).bind fun h2 =>
  (gd (hTy h2 v0 = 4) (hSet h2 v0 4 0)).bind fun h3 =>
  (gd (hTy h3 v0 = 4) (hSet h3 v0 5 0)).bind fun h4 =>
  (gd (hTy h4 v0 = 4) (hCe h4 v0 0)).bind fun u5 =>
  (gd (hTy h4 u5 = 6) (hSet h4 u5 1 0)).bind fun h6 =>
  (gd (hTy h6 v0 = 4) (hCe h6 v0 1)).bind fun u7 =>
  (gd (hTy h6 u7 = 6) (hSet h6 u7 1 0)).bind fun h8 =>
  (gd (hTy h8 v0 = 4) (hSet h8 v0 6 (-1))).bind fun h9 =>
  some h9
/-- PrimeProofs$Arithmetic.powerLeft(JJJ)J -/
def Arithmetic_powerLeft_24 : Nat → Int → Int → Int → Int → Option Int
  | 0, _, _, _, _ => none
  | fu + 1, v4, v6, v8, v10 =>
    if (0 : Int) < v10 then
      if (andL v10 1) = (1 : Int) then
        (gd (v4 ≠ 0) (Int.tmod (w64 (v6 * v8)) v4)).bind fun u1 =>
        (gd (v4 ≠ 0) (Int.tmod (w64 (v8 * v8)) v4)).bind fun u2 =>
        Arithmetic_powerLeft_24 fu v4 u1 u2 (shrL v10 1)
      else
        (gd (v4 ≠ 0) (Int.tmod (w64 (v8 * v8)) v4)).bind fun u3 =>
        Arithmetic_powerLeft_24 fu v4 v6 u3 (shrL v10 1)
    else
      some v6
def Arithmetic_powerLeft (v0 : Int) (v2 : Int) (v4 : Int) : Option Int :=
  if v4 < (1 : Int) then
    some 0
  else
    (gd (v4 ≠ 0) (Int.tmod 1 v4)).bind fun u1 =>
    (gd (v4 ≠ 0) (Int.tmod v0 v4)).bind fun u2 =>
    Arithmetic_powerLeft_24 FU v4 u1 u2 v2
/-- PrimeProofs$Arithmetic.passesBy(II)Z -/
def Arithmetic_passesBy_73 : Nat → Int → Int → Int → Int → Int → Option Int
  | 0, _, _, _, _, _ => none
  | fu + 1, v0, v3, v4, v6, v7 =>
    if v7 < v3 then
      if v6 = 0 then
        (Arithmetic_powerLeft v4 2 v0).bind fun u1 =>
        if u1 = (w32 (v0 - 1)) then
          Arithmetic_passesBy_73 fu v0 v3 u1 1 (w32 (v7 + 1))
        else
          Arithmetic_passesBy_73 fu v0 v3 u1 0 (w32 (v7 + 1))
      else
        (gd (0 ≤ v6 ∧ v6 ≤ 1) 0).bind fun _ => some v6
    else
      (gd (0 ≤ v6 ∧ v6 ≤ 1) 0).bind fun _ => some v6
def Arithmetic_passesBy_35 (v0 : Int) (v1 : Int) (v2 : Int) (v3 : Int) : Option Int :=
  (Arithmetic_powerLeft v1 v2 v0).bind fun u1 =>
  if u1 = (1 : Int) then
    Arithmetic_passesBy_73 FU v0 v3 u1 1 1
  else
    if u1 = (w32 (v0 - 1)) then
      Arithmetic_passesBy_73 FU v0 v3 u1 1 1
    else
      Arithmetic_passesBy_73 FU v0 v3 u1 0 1
def Arithmetic_passesBy_9 : Nat → Int → Int → Int → Int → Int → Option Int
  | 0, _, _, _, _, _ => none
  | fu + 1, v0, v1, v2, v3, v4 =>
    if v4 < (31 : Int) then
      (gd ((2 : Int) ≠ 0) (Int.tmod v2 2)).bind fun u1 =>
      if u1 = 0 then
        (gd ((2 : Int) ≠ 0) (w32 (Int.tdiv v2 2))).bind fun u2 =>
        Arithmetic_passesBy_9 fu v0 v1 u2 (w32 (v3 + 1)) (w32 (v4 + 1))
      else
        Arithmetic_passesBy_35 v0 v1 v2 v3
    else
      Arithmetic_passesBy_35 v0 v1 v2 v3
def Arithmetic_passesBy (v0 : Int) (v1 : Int) : Option Int :=
  Arithmetic_passesBy_9 FU v0 v1 (w32 (v0 - 1)) 0 0
/-- PrimeProofs$Arithmetic.isPrime(I)Z -/
def Arithmetic_isPrime_60 : Nat → Int → Int → Int → Option Int
  | 0, _, _, _ => none
  | fu + 1, v0, v2, v3 =>
    if v3 < v2 then
      (gd (0 ≤ v3 ∧ v3 < 4) (witA v3)).bind fun u1 =>
      (Arithmetic_passesBy v0 u1).bind fun u2 =>
      if u2 = 0 then
        some 0
      else
        Arithmetic_isPrime_60 fu v0 v2 (w32 (v3 + 1))
    else
      some 1
def Arithmetic_isPrime_16 : Nat → Int → Int → Int → Option Int
  | 0, _, _, _ => none
  | fu + 1, v0, v2, v3 =>
    if v3 < v2 then
      (gd (0 ≤ v3 ∧ v3 < 4) (witA v3)).bind fun u1 =>
      (gd (u1 ≠ 0) (Int.tmod v0 u1)).bind fun u2 =>
      if u2 = 0 then
        if v0 = u1 then
          some 1
        else
          some 0
      else
        Arithmetic_isPrime_16 fu v0 v2 (w32 (v3 + 1))
    else
      Arithmetic_isPrime_60 FU v0 4 0
def Arithmetic_isPrime (v0 : Int) : Option Int :=
  if v0 < (2 : Int) then
    some 0
  else
    Arithmetic_isPrime_16 FU v0 4 0
/-- PrimeProofs$Arithmetic.timesDivides(II)I -/
def Arithmetic_timesDivides_19 : Nat → Int → Int → Int → Int → Option Int
  | 0, _, _, _, _ => none
  | fu + 1, v1, v2, v3, v4 =>
    if v4 < (31 : Int) then
      (gd (v1 ≠ 0) (Int.tmod v2 v1)).bind fun u1 =>
      if u1 = 0 then
        (gd (v1 ≠ 0) (w32 (Int.tdiv v2 v1))).bind fun u2 =>
        Arithmetic_timesDivides_19 fu v1 u2 (w32 (v3 + 1)) (w32 (v4 + 1))
      else
        some v3
    else
      some v3
def Arithmetic_timesDivides (v0 : Int) (v1 : Int) : Option Int :=
  if v0 < (1 : Int) then
    some 0
  else
    if v1 < (2 : Int) then
      some 0
    else
      Arithmetic_timesDivides_19 FU v1 v0 0 0
/-- PrimeProofs$Factors.add(II)V -/
def Factors_add (v0 : Int) (v1 : Int) (v2 : Int) (h : AH) : Option AH :=
  (gd (hTy h v0 = 1) (hCe h v0 2)).bind fun u1 =>
  (gd (hTy h v0 = 1) (hCe h v0 0)).bind fun u2 =>
  (gd (21 ≤ hTy h u2) (hLn h u2)).bind fun u3 =>
  if u1 < u3 then
    (gd (hTy h v0 = 1) (hCe h v0 0)).bind fun u4 =>
    (gd (hTy h v0 = 1) (hCe h v0 2)).bind fun u5 =>
    (gd (hTy h u4 = 21 ∧ 0 ≤ u5 ∧ u5 < hLn h u4) (hSet h u4 u5 v1)).bind fun h6 =>
    (gd (hTy h6 v0 = 1) (hCe h6 v0 1)).bind fun u7 =>
    (gd (hTy h6 v0 = 1) (hCe h6 v0 2)).bind fun u8 =>
    (gd (hTy h6 u7 = 21 ∧ 0 ≤ u8 ∧ u8 < hLn h6 u7) (hSet h6 u7 u8 v2)).bind fun h9 =>
    (gd (hTy h9 v0 = 1) (hCe h9 v0 2)).bind fun u10 =>
    (gd (hTy h9 v0 = 1) (hSet h9 v0 2 (w32 (u10 + 1)))).bind fun h11 =>
    some h11
  else
    some h
/-- PrimeProofs$Factors.takeAll(II)I -/
def Factors_takeAll_18 : Nat → Int → Int → Int → Int → AH → Option (Int × AH)
  | 0, _, _, _, _, _ => none
  | fu + 1, v2, v3, v4, v5, h =>
    if v5 < v3 then
      if (1 : Int) < v2 then
        (gd (v2 ≠ 0) (w32 (Int.tdiv v4 v2))).bind fun u1 =>
        Factors_takeAll_18 fu v2 v3 u1 (w32 (v5 + 1)) h
      else
        some (v4, h)
    else
      some (v4, h)
def Factors_takeAll (v0 : Int) (v1 : Int) (v2 : Int) (h : AH) : Option (Int × AH) :=
  (Arithmetic_timesDivides v1 v2).bind fun u1 =>
  (gd (hTy h v0 = 1) 0).bind fun _ =>
  (Factors_add v0 v2 u1 h).bind fun h3 =>
  Factors_takeAll_18 FU v2 u1 v1 0 h3
/-- PrimeProofs$Factors.split(I)V -/
def Factors_split_71 (v0 : Int) (v2 : Int) (h : AH) : Option AH :=
  if (1 : Int) < v2 then
    (gd (hTy h v0 = 1) 0).bind fun _ =>
    (Factors_add v0 v2 1 h).bind fun h2 =>
    some h2
  else
    some h
def Factors_split_15 : Nat → Int → Int → Int → Int → AH → Option AH
  | 0, _, _, _, _, _ => none
  | fu + 1, v0, v2, v3, v4, h =>
    if v3 = 0 then
      if v2 < (w64 (v4 * v4)) then
        Factors_split_71 v0 v2 h
      else
        (gd (v4 ≠ 0) (Int.tmod v2 v4)).bind fun u1 =>
        if u1 = 0 then
          (gd (hTy h v0 = 1) 0).bind fun _ =>
          (Factors_takeAll v0 v2 v4 h).bind fun u2 =>
          (Arithmetic_isPrime u2.1).bind fun u3 =>
          if v4 = (2 : Int) then
            Factors_split_15 fu v0 u2.1 u3 (w32 (v4 + 1)) u2.2
          else
            Factors_split_15 fu v0 u2.1 u3 (w32 (v4 + 2)) u2.2
        else
          if v4 = (2 : Int) then
            Factors_split_15 fu v0 v2 v3 (w32 (v4 + 1)) h
          else
            Factors_split_15 fu v0 v2 v3 (w32 (v4 + 2)) h
    else
      Factors_split_71 v0 v2 h
def Factors_split (v0 : Int) (v1 : Int) (h : AH) : Option AH :=
  (gd (hTy h v0 = 1) (hSet h v0 2 0)).bind fun h1 =>
  (Arithmetic_isPrime v1).bind fun u2 =>
  Factors_split_15 FU v0 v1 u2 2 h1
/-- PrimeProofs$Side.put(III)V -/
def Side_put (v0 : Int) (v1 : Int) (v2 : Int) (v3 : Int) (h : AH) : Option AH :=
  if v1 < 0 then
    some h
  else
    (gd (hTy h v0 = 6) (hCe h v0 1)).bind fun u1 =>
    if v1 < u1 then
      if v2 < 0 then
        some h
      else
        if v2 < (3 : Int) then
          (gd (hTy h v0 = 6) (hCe h v0 0)).bind fun u2 =>
          (gd (hTy h u2 = 21 ∧ 0 ≤ (w32 ((w32 (v1 * 3)) + v2)) ∧ (w32 ((w32 (v1 * 3)) + v2)) < hLn h u2) (hSet h u2 (w32 ((w32 (v1 * 3)) + v2)) v3)).bind fun h3 =>
          some h3
        else
          some h
    else
      some h
/-- PrimeProofs$Side.append(III)V -/
def Side_append (v0 : Int) (v1 : Int) (v2 : Int) (v3 : Int) (h : AH) : Option AH :=
  (gd (hTy h v0 = 6) (hCe h v0 1)).bind fun u1 =>
  if u1 < (9 : Int) then
    (gd (hTy h v0 = 6) (hCe h v0 1)).bind fun u2 =>
    (gd (hTy h v0 = 6) (hSet h v0 1 (w32 (u2 + 1)))).bind fun h3 =>
    (gd (hTy h3 v0 = 6) (hCe h3 v0 1)).bind fun u4 =>
    (gd (hTy h3 v0 = 6) 0).bind fun _ =>
    (Side_put v0 (w32 (u4 - 1)) 0 v1 h3).bind fun h6 =>
    (gd (hTy h6 v0 = 6) (hCe h6 v0 1)).bind fun u7 =>
    (gd (hTy h6 v0 = 6) 0).bind fun _ =>
    (Side_put v0 (w32 (u7 - 1)) 1 v2 h6).bind fun h9 =>
    (gd (hTy h9 v0 = 6) (hCe h9 v0 1)).bind fun u10 =>
    (gd (hTy h9 v0 = 6) 0).bind fun _ =>
    (Side_put v0 (w32 (u10 - 1)) 2 v3 h9).bind fun h12 =>
    some h12
  else
    some h
/-- PrimeProofs$Finder.layOne(LPrimeProofs$Side;LPrimeProofs$Factors;I)V -/
def Finder_layOne (v0 : Int) (v1 : Int) (v2 : Int) (h : AH) : Option AH :=
  if v2 < 0 then
    some h
  else
    (gd (hTy h v1 = 1) (hCe h v1 2)).bind fun u1 =>
    if v2 < u1 then
      (gd (hTy h v1 = 1) (hCe h v1 0)).bind fun u2 =>
      (gd (hTy h u2 = 21 ∧ 0 ≤ v2 ∧ v2 < hLn h u2) (hCe h u2 v2)).bind fun u3 =>
      (gd (hTy h v1 = 1) (hCe h v1 1)).bind fun u4 =>
      (gd (hTy h u4 = 21 ∧ 0 ≤ v2 ∧ v2 < hLn h u4) (hCe h u4 v2)).bind fun u5 =>
      (gd (hTy h v0 = 6) 0).bind fun _ =>
      (Side_append v0 u3 u5 0 h).bind fun h7 =>
      some h7
    else
      some h
/-- PrimeProofs$Finder.layAll(LPrimeProofs$Side;LPrimeProofs$Factors;)V -/
def Finder_layAll_2 : Nat → Int → Int → Int → AH → Option AH
  | 0, _, _, _, _ => none
  | fu + 1, v0, v1, v2, h =>
    (gd (hTy h v1 = 1) (hCe h v1 2)).bind fun u1 =>
    if v2 < u1 then
      (Finder_layOne v0 v1 v2 h).bind fun h3 =>
      Finder_layAll_2 fu v0 v1 (w32 (v2 + 1)) h3
    else
      some h
def Finder_layAll (v0 : Int) (v1 : Int) (h : AH) : Option AH :=
  Finder_layAll_2 FU v0 v1 0 h
/-- PrimeProofs$Side.cell(II)I -/
def Side_cell (v0 : Int) (v1 : Int) (v2 : Int) (h : AH) : Option Int :=
  if v1 < 0 then
    some 0
  else
    (gd (hTy h v0 = 6) (hCe h v0 1)).bind fun u1 =>
    if v1 < u1 then
      if v2 < 0 then
        some 0
      else
        if v2 < (3 : Int) then
          (gd (hTy h v0 = 6) (hCe h v0 0)).bind fun u2 =>
          (gd (hTy h u2 = 21 ∧ 0 ≤ (w32 ((w32 (v1 * 3)) + v2)) ∧ (w32 ((w32 (v1 * 3)) + v2)) < hLn h u2) (hCe h u2 (w32 ((w32 (v1 * 3)) + v2)))).bind fun u3 =>
          some u3
        else
          some 0
    else
      some 0
/-- PrimeProofs$Side.product()J -/
def Side_product_15 (k4 : Int → Int → Int → AH → Option Int) : Nat → Int → Int → Int → Int → AH → Option Int
  | 0, _, _, _, _, _ => none
  | fu + 1, v0, v1, v3, v4, h =>
    (gd (hTy h v0 = 6) 0).bind fun _ =>
    (Side_cell v0 v3 1 h).bind fun u1 =>
    if v4 < u1 then
      (gd (hTy h v0 = 6) 0).bind fun _ =>
      (Side_cell v0 v3 0 h).bind fun u2 =>
      if (w64 (v1 * u2)) < (2000000000 : Int) then
        Side_product_15 k4 fu v0 (w64 (v1 * u2)) v3 (w32 (v4 + 1)) h
      else
        some 2000000000
    else
      k4 v0 v1 (w32 (v3 + 1)) h
def Side_product_4 : Nat → Int → Int → Int → AH → Option Int
  | 0, _, _, _, _ => none
  | fu + 1, v0, v1, v3, h =>
    (gd (hTy h v0 = 6) (hCe h v0 1)).bind fun u1 =>
    if v3 < u1 then
      Side_product_15 (fun a0 a1 a2 h0 => Side_product_4 fu a0 a1 a2 h0) FU v0 v1 v3 0 h
    else
      some v1
def Side_product (v0 : Int) (h : AH) : Option Int :=
  Side_product_4 FU v0 1 0 h
/-- PrimeProofs$Checker.divides(JJ)Z -/
def Checker_divides (v0 : Int) (v2 : Int) : Option Int :=
  if (0 : Int) < v0 then
    (gd (v0 ≠ 0) (Int.tmod v2 v0)).bind fun u1 =>
    if u1 = (0 : Int) then
      some 1
    else
      some 0
  else
    some 0
/-- PrimeProofs$Arithmetic.commonOf(JJ)J -/
def Arithmetic_commonOf_9 : Nat → Int → Int → Int → Option Int
  | 0, _, _, _ => none
  | fu + 1, v4, v6, v8 =>
    if v8 < (200 : Int) then
      if v6 = (0 : Int) then
        some v4
      else
        (gd (v6 ≠ 0) (Int.tmod v4 v6)).bind fun u1 =>
        Arithmetic_commonOf_9 fu v6 u1 (w32 (v8 + 1))
    else
      some v4
def Arithmetic_commonOf (v0 : Int) (v2 : Int) : Option Int :=
  Arithmetic_commonOf_9 FU v0 v2 0
/-- PrimeProofs$Checker.isEnough(JJJ)Z -/
def Checker_isEnough (v0 : Int) (v2 : Int) (v4 : Int) : Option Int :=
  (Arithmetic_commonOf v0 v2).bind fun u1 =>
  if u1 < (1 : Int) then
    some 0
  else
    (gd (u1 ≠ 0) (w64 (Int.tdiv v0 u1))).bind fun u2 =>
    if (w64 (u2 * v2)) < (1 : Int) then
      some 0
    else
      (gd ((w64 (u2 * v2)) ≠ 0) (w64 (Int.tdiv v4 (w64 (u2 * v2))))).bind fun u3 =>
      if u3 < (w64 (u2 * v2)) then
        (gd ((w64 (u2 * v2)) ≠ 0) (Int.tmod v4 (w64 (u2 * v2)))).bind fun u4 =>
        if (1 : Int) < u4 then
          if u4 < v4 then
            (gd (u4 ≠ 0) (Int.tmod v4 u4)).bind fun u5 =>
            if u5 = (0 : Int) then
              some 0
            else
              some 1
          else
            some 1
        else
          some 1
      else
        some 0
/-- PrimeProofs$Checker.productFault(LPrimeProofs$Line;)I -/
def Checker_productFault (v0 : Int) (h : AH) : Option Int :=
  (gd (hTy h v0 = 4) (hCe h v0 2)).bind fun u1 =>
  (gd (hTy h v0 = 4) (hCe h v0 0)).bind fun u2 =>
  (gd (hTy h u2 = 6) 0).bind fun _ =>
  (Side_product u2 h).bind fun u3 =>
  (gd (hTy h v0 = 4) (hCe h v0 1)).bind fun u4 =>
  (gd (hTy h u4 = 6) 0).bind fun _ =>
  (Side_product u4 h).bind fun u5 =>
  (gd (hTy h v0 = 4) (hCe h v0 3)).bind fun u6 =>
  if u6 = 1 then
    if u3 = (w64 (u1 - 1)) then
      some 0
    else
      some 3
  else if u6 = 2 then
    (Checker_divides u3 (w64 (u1 - 1))).bind fun u7 =>
    if u7 = 0 then
      some 3
    else
      if u1 < (w64 (u3 * u3)) then
        some 0
      else
        some 4
  else if u6 = 3 then
    if u5 = (w64 (u1 + 1)) then
      some 0
    else
      some 3
  else if u6 = 4 then
    (Checker_divides u3 (w64 (u1 - 1))).bind fun u8 =>
    if u8 = 0 then
      some 3
    else
      (Checker_divides u5 (w64 (u1 + 1))).bind fun u9 =>
      if u9 = 0 then
        some 3
      else
        (Checker_isEnough u3 u5 u1).bind fun u10 =>
        if u10 = 0 then
          some 4
        else
          some 0
  else 
    some 0
/-- PrimeProofs$Finder.layByTurns(LPrimeProofs$Line;II)V -/
def Finder_layByTurns_41 (k12 : Int → Int → Int → Int → Int → Int → AH → Option AH) (v0 : Int) (v1 : Int) (v4 : Int) (v5 : Int) (v7 : Int) (h : AH) : Option AH :=
  (gd (hTy h v1 = 4) (hCe h v1 1)).bind fun u1 =>
  (gd (hTy h v0 = 2) (hCe h v0 2)).bind fun u2 =>
  (Finder_layOne u1 u2 (w32 (v5 + (-1))) h).bind fun h4 =>
  k12 v0 v1 v4 (w32 (v5 + (-1))) 0 (w32 (v7 + 1)) h4
def Finder_layByTurns_63 (k12 : Int → Int → Int → Int → Int → Int → AH → Option AH) (v0 : Int) (v1 : Int) (v4 : Int) (v5 : Int) (v6 : Int) (v7 : Int) (h : AH) : Option AH :=
  if 0 < v4 then
    (gd (hTy h v1 = 4) (hCe h v1 0)).bind fun u1 =>
    (gd (hTy h v0 = 2) (hCe h v0 1)).bind fun u2 =>
    (Finder_layOne u1 u2 (w32 (v4 + (-1))) h).bind fun h4 =>
    k12 v0 v1 (w32 (v4 + (-1))) v5 1 (w32 (v7 + 1)) h4
  else
    k12 v0 v1 v4 v5 v6 (w32 (v7 + 1)) h
def Finder_layByTurns_12 : Nat → Int → Int → Int → Int → Int → Int → AH → Option AH
  | 0, _, _, _, _, _, _, _ => none
  | fu + 1, v0, v1, v4, v5, v6, v7, h =>
    if v7 < (18 : Int) then
      (Checker_productFault v1 h).bind fun u1 =>
      if u1 = 0 then
        some h
      else
        if 0 < v5 then
          if v6 = 0 then
            if v4 = 0 then
              Finder_layByTurns_41 (fun a0 a1 a2 a3 a4 a5 h0 => Finder_layByTurns_12 fu a0 a1 a2 a3 a4 a5 h0) v0 v1 v4 v5 v7 h
            else
              Finder_layByTurns_63 (fun a0 a1 a2 a3 a4 a5 h0 => Finder_layByTurns_12 fu a0 a1 a2 a3 a4 a5 h0) v0 v1 v4 v5 v6 v7 h
          else
            Finder_layByTurns_41 (fun a0 a1 a2 a3 a4 a5 h0 => Finder_layByTurns_12 fu a0 a1 a2 a3 a4 a5 h0) v0 v1 v4 v5 v7 h
        else
          Finder_layByTurns_63 (fun a0 a1 a2 a3 a4 a5 h0 => Finder_layByTurns_12 fu a0 a1 a2 a3 a4 a5 h0) v0 v1 v4 v5 v6 v7 h
    else
      some h
def Finder_layByTurns (v0 : Int) (v1 : Int) (v2 : Int) (v3 : Int) (h : AH) : Option AH :=
  Finder_layByTurns_12 FU v0 v1 v2 v3 0 0 h
/-- PrimeProofs$Finder.lay(LPrimeProofs$Line;II)Z -/
def Finder_lay (v0 : Int) (v1 : Int) (v2 : Int) (v3 : Int) (h : AH) : Option (Int × AH) :=
  (gd (hTy h v1 = 4) 0).bind fun _ =>
  (Line_begin v1 v2 v3 h).bind fun h2 =>
  (Arithmetic_isPrime v2).bind fun u3 =>
  if u3 = 0 then
    some (0, h2)
  else
    if v3 = 0 then
      if v2 < (100 : Int) then
        some (1, h2)
      else
        some (0, h2)
    else
      if v2 = (2 : Int) then
        some (0, h2)
      else
        (gd (hTy h2 v0 = 2) (hCe h2 v0 1)).bind fun u4 =>
        (gd (hTy h2 u4 = 1) 0).bind fun _ =>
        (Factors_split u4 (w32 (v2 - 1)) h2).bind fun h6 =>
        (gd (hTy h6 v0 = 2) (hCe h6 v0 2)).bind fun u7 =>
        (gd (hTy h6 u7 = 1) 0).bind fun _ =>
        (Factors_split u7 (w32 (v2 + 1)) h6).bind fun h9 =>
        if v3 = 1 then
          (gd (hTy h9 v1 = 4) (hCe h9 v1 0)).bind fun u10 =>
          (gd (hTy h9 v0 = 2) (hCe h9 v0 1)).bind fun u11 =>
          (Finder_layAll u10 u11 h9).bind fun h13 =>
          some (1, h13)
        else if v3 = 2 then
          (gd (hTy h9 v0 = 2) (hCe h9 v0 1)).bind fun u14 =>
          (gd (hTy h9 u14 = 1) (hCe h9 u14 2)).bind fun u15 =>
          (gd (hTy h9 v0 = 2) 0).bind fun _ =>
          (Finder_layByTurns v0 v1 u15 0 h9).bind fun h17 =>
          some (1, h17)
        else if v3 = 3 then
          (gd (hTy h9 v1 = 4) (hCe h9 v1 1)).bind fun u18 =>
          (gd (hTy h9 v0 = 2) (hCe h9 v0 2)).bind fun u19 =>
          (Finder_layAll u18 u19 h9).bind fun h21 =>
          some (1, h21)
        else 
          (gd (hTy h9 v0 = 2) (hCe h9 v0 1)).bind fun u22 =>
          (gd (hTy h9 u22 = 1) (hCe h9 u22 2)).bind fun u23 =>
          (gd (hTy h9 v0 = 2) (hCe h9 v0 2)).bind fun u24 =>
          (gd (hTy h9 u24 = 1) (hCe h9 u24 2)).bind fun u25 =>
          (gd (hTy h9 v0 = 2) 0).bind fun _ =>
          (Finder_layByTurns v0 v1 u23 u25 h9).bind fun h27 =>
          some (1, h27)
/-- PrimeProofs$Checker.rowFault(III)I -/
def Checker_rowFault (v0 : Int) (v1 : Int) (v2 : Int) : Option Int :=
  (Arithmetic_powerLeft v2 (w32 (v0 - 1)) v0).bind fun u1 =>
  if u1 = (1 : Int) then
    if v1 < (1 : Int) then
      some 6
    else
      (gd (v1 ≠ 0) (w32 (Int.tdiv (w32 (v0 - 1)) v1))).bind fun u2 =>
      (Arithmetic_powerLeft v2 u2 v0).bind fun u3 =>
      (Arithmetic_commonOf (w64 (u3 - 1)) v0).bind fun u4 =>
      if u4 = (1 : Int) then
        some 0
      else
        some 6
  else
    some 5
/-- java/lang/Math.max(II)I -/
def Math_max (v0 : Int) (v1 : Int) : Option Int :=
  if v0 < v1 then
    some v1
  else
    some v0
/-- PrimeProofs$Checker.downFault(LPrimeProofs$Line;)I -/
def Checker_downFault_9 : Nat → Int → Int → Int → Int → AH → Option Int
  | 0, _, _, _, _, _ => none
  | fu + 1, v0, v1, v2, v3, h =>
    (gd (hTy h v1 = 6) (hCe h v1 1)).bind fun u1 =>
    if v3 < u1 then
      (gd (hTy h v0 = 4) (hCe h v0 2)).bind fun u2 =>
      (gd (hTy h v1 = 6) 0).bind fun _ =>
      (Side_cell v1 v3 0 h).bind fun u3 =>
      (gd (hTy h v1 = 6) 0).bind fun _ =>
      (Side_cell v1 v3 2 h).bind fun u4 =>
      (Checker_rowFault u2 u3 u4).bind fun u5 =>
      if u5 = (5 : Int) then
        some 5
      else
        (Math_max v2 u5).bind fun u6 =>
        Checker_downFault_9 fu v0 v1 u6 (w32 (v3 + 1)) h
    else
      some v2
def Checker_downFault (v0 : Int) (h : AH) : Option Int :=
  (gd (hTy h v0 = 4) (hCe h v0 0)).bind fun u1 =>
  Checker_downFault_9 FU v0 u1 0 0 h
/-- PrimeProofs$Finder.seekOneBase(LPrimeProofs$Line;)Z -/
def Finder_seekOneBase_11 (k2 : Int → Int → AH → Option (Int × AH)) : Nat → Int → Int → Int → AH → Option (Int × AH)
  | 0, _, _, _, _ => none
  | fu + 1, v0, v1, v2, h =>
    (gd (hTy h v0 = 4) (hCe h v0 0)).bind fun u1 =>
    (gd (hTy h u1 = 6) (hCe h u1 1)).bind fun u2 =>
    if v2 < u2 then
      (gd (hTy h v0 = 4) (hCe h v0 0)).bind fun u3 =>
      (gd (hTy h u3 = 6) 0).bind fun _ =>
      (Side_put u3 v2 2 v1 h).bind fun h5 =>
      Finder_seekOneBase_11 k2 fu v0 v1 (w32 (v2 + 1)) h5
    else
      (Checker_downFault v0 h).bind fun u6 =>
      if u6 = 0 then
        some (1, h)
      else
        k2 v0 (w32 (v1 + 1)) h
def Finder_seekOneBase_2 : Nat → Int → Int → AH → Option (Int × AH)
  | 0, _, _, _ => none
  | fu + 1, v0, v1, h =>
    if (999 : Int) < v1 then
      some (0, h)
    else
      Finder_seekOneBase_11 (fun a0 a1 h0 => Finder_seekOneBase_2 fu a0 a1 h0) FU v0 v1 0 h
def Finder_seekOneBase (v0 : Int) (h : AH) : Option (Int × AH) :=
  Finder_seekOneBase_2 FU v0 2 h
/-- PrimeProofs$Finder.leastBase(II)I -/
def Finder_leastBase_2 : Nat → Int → Int → Int → Option Int
  | 0, _, _, _ => none
  | fu + 1, v0, v1, v2 =>
    if (999 : Int) < v2 then
      some (-1)
    else
      (Checker_rowFault v0 v1 v2).bind fun u1 =>
      if u1 = 0 then
        some v2
      else
        Finder_leastBase_2 fu v0 v1 (w32 (v2 + 1))
def Finder_leastBase (v0 : Int) (v1 : Int) : Option Int :=
  Finder_leastBase_2 FU v0 v1 2
/-- PrimeProofs$Finder.seekBases(LPrimeProofs$Line;)Z -/
def Finder_seekBases_2 : Nat → Int → Int → AH → Option (Int × AH)
  | 0, _, _, _ => none
  | fu + 1, v0, v1, h =>
    (gd (hTy h v0 = 4) (hCe h v0 0)).bind fun u1 =>
    (gd (hTy h u1 = 6) (hCe h u1 1)).bind fun u2 =>
    if v1 < u2 then
      (gd (hTy h v0 = 4) (hCe h v0 2)).bind fun u3 =>
      (gd (hTy h v0 = 4) (hCe h v0 0)).bind fun u4 =>
      (gd (hTy h u4 = 6) 0).bind fun _ =>
      (Side_cell u4 v1 0 h).bind fun u5 =>
      (Finder_leastBase u3 u5).bind fun u6 =>
      if u6 < 0 then
        some (0, h)
      else
        (gd (hTy h v0 = 4) (hCe h v0 0)).bind fun u7 =>
        (gd (hTy h u7 = 6) 0).bind fun _ =>
        (Side_put u7 v1 2 u6 h).bind fun h9 =>
        Finder_seekBases_2 fu v0 (w32 (v1 + 1)) h9
    else
      some (1, h)
def Finder_seekBases (v0 : Int) (h : AH) : Option (Int × AH) :=
  Finder_seekBases_2 FU v0 0 h
/-- PrimeProofs$Line.hasPQ()Z -/
def Line_hasPQ (v0 : Int) (h : AH) : Option Int :=
  (gd (hTy h v0 = 4) (hCe h v0 3)).bind fun u1 =>
  if u1 = (3 : Int) then
    some 1
  else
    (gd (hTy h v0 = 4) (hCe h v0 3)).bind fun u2 =>
    if u2 = (4 : Int) then
      some 1
    else
      some 0
/-- java/lang/Math.floorMod(JJ)J -/
def Math_floorMod (v0 : Int) (v2 : Int) : Option Int :=
  (gd (v2 ≠ 0) (Int.tmod v0 v2)).bind fun u1 =>
  if (xorL v0 v2) < (0 : Int) then
    if u1 = (0 : Int) then
      some u1
    else
      some (w64 (u1 + v2))
  else
    some u1
/-- PrimeProofs$Arithmetic.jacobiOf(JJ)I -/
def Arithmetic_jacobiOf_136 (k24 : Int → Int → Int → Int → Option Int) (v4 : Int) (v6 : Int) (v8 : Int) (v9 : Int) : Option Int :=
  (gd (v4 ≠ 0) (Int.tmod v6 v4)).bind fun u1 =>
  k24 u1 v4 v8 (w32 (v9 + 1))
def Arithmetic_jacobiOf_105 (k24 : Int → Int → Int → Int → Option Int) (v4 : Int) (v6 : Int) (v8 : Int) (v9 : Int) : Option Int :=
  (gd ((4 : Int) ≠ 0) (Int.tmod v4 4)).bind fun u1 =>
  if u1 = (3 : Int) then
    (gd ((4 : Int) ≠ 0) (Int.tmod v6 4)).bind fun u2 =>
    if u2 = (3 : Int) then
      Arithmetic_jacobiOf_136 k24 v4 v6 (w32 (-v8)) v9
    else
      Arithmetic_jacobiOf_136 k24 v4 v6 v8 v9
  else
    Arithmetic_jacobiOf_136 k24 v4 v6 v8 v9
def Arithmetic_jacobiOf_42 (k24 : Int → Int → Int → Int → Option Int) : Nat → Int → Int → Int → Int → Int → Option Int
  | 0, _, _, _, _, _ => none
  | fu + 1, v4, v6, v8, v9, v10 =>
    if v10 < (64 : Int) then
      (gd ((2 : Int) ≠ 0) (Int.tmod v4 2)).bind fun u1 =>
      if u1 = (0 : Int) then
        (gd ((2 : Int) ≠ 0) (w64 (Int.tdiv v4 2))).bind fun u2 =>
        (gd ((8 : Int) ≠ 0) (Int.tmod v6 8)).bind fun u3 =>
        if u3 = (3 : Int) then
          Arithmetic_jacobiOf_42 k24 fu u2 v6 (w32 (-v8)) v9 (w32 (v10 + 1))
        else
          (gd ((8 : Int) ≠ 0) (Int.tmod v6 8)).bind fun u4 =>
          if u4 = (5 : Int) then
            Arithmetic_jacobiOf_42 k24 fu u2 v6 (w32 (-v8)) v9 (w32 (v10 + 1))
          else
            Arithmetic_jacobiOf_42 k24 fu u2 v6 v8 v9 (w32 (v10 + 1))
      else
        Arithmetic_jacobiOf_105 k24 v4 v6 v8 v9
    else
      Arithmetic_jacobiOf_105 k24 v4 v6 v8 v9
def Arithmetic_jacobiOf_24 : Nat → Int → Int → Int → Int → Option Int
  | 0, _, _, _, _ => none
  | fu + 1, v4, v6, v8, v9 =>
    if v9 < (200 : Int) then
      if v4 = (0 : Int) then
        if v6 = (1 : Int) then
          some v8
        else
          some 0
      else
        Arithmetic_jacobiOf_42 (fun a0 a1 a2 a3 => Arithmetic_jacobiOf_24 fu a0 a1 a2 a3) FU v4 v6 v8 v9 0
    else
      if v6 = (1 : Int) then
        some v8
      else
        some 0
def Arithmetic_jacobiOf (v0 : Int) (v2 : Int) : Option Int :=
  if v2 < (1 : Int) then
    some 0
  else
    (Math_floorMod v0 v2).bind fun u1 =>
    Arithmetic_jacobiOf_24 FU u1 v2 1 0
/-- PrimeProofs$Arithmetic.sequenceLeft(JJJJ)J -/
def Arithmetic_sequenceLeft_22 : Nat → Int → Int → Int → Int → Int → Int → Int → Option Int
  | 0, _, _, _, _, _, _, _ => none
  | fu + 1, v0, v2, v4, v6, v8, v10, v12 =>
    if v12 < 0 then
      some v8
    else
      (Math_floorMod (w64 ((w64 (2 * v10)) - (w64 (v0 * v8)))) v6).bind fun u1 =>
      (gd (v6 ≠ 0) (Int.tmod (w64 (v8 * u1)) v6)).bind fun u2 =>
      (gd (v6 ≠ 0) (Int.tmod (w64 (v8 * v8)) v6)).bind fun u3 =>
      (Math_floorMod (w64 ((w64 (v10 * v10)) - (w64 (v2 * u3)))) v6).bind fun u4 =>
      if (andL (shrL v4 v12) 1) = (0 : Int) then
        Arithmetic_sequenceLeft_22 fu v0 v2 v4 v6 u2 u4 (w32 (v12 + (-1)))
      else
        (Math_floorMod (w64 ((w64 (v0 * u4)) - (w64 (v2 * u2)))) v6).bind fun u5 =>
        Arithmetic_sequenceLeft_22 fu v0 v2 v4 v6 u4 u5 (w32 (v12 + (-1)))
def Arithmetic_sequenceLeft (v0 : Int) (v2 : Int) (v4 : Int) (v6 : Int) : Option Int :=
  if v6 < (1 : Int) then
    some 0
  else
    (gd (v6 ≠ 0) (Int.tmod 1 v6)).bind fun u1 =>
    Arithmetic_sequenceLeft_22 FU v0 v2 v4 v6 0 u1 31
/-- PrimeProofs$Checker.upFault(LPrimeProofs$Line;)I -/
def Checker_upFault_91 : Nat → Int → Int → Int → AH → Option Int
  | 0, _, _, _, _ => none
  | fu + 1, v0, v1, v5, h =>
    (gd (hTy h v0 = 4) (hCe h v0 1)).bind fun u1 =>
    (gd (hTy h u1 = 6) (hCe h u1 1)).bind fun u2 =>
    if v5 < u2 then
      (gd (hTy h v0 = 4) (hCe h v0 1)).bind fun u3 =>
      (gd (hTy h u3 = 6) 0).bind fun _ =>
      (Side_cell u3 v5 0 h).bind fun u4 =>
      if u4 < (1 : Int) then
        some 9
      else
        (gd (hTy h v0 = 4) (hCe h v0 4)).bind fun u5 =>
        (gd (hTy h v0 = 4) (hCe h v0 5)).bind fun u6 =>
        (gd (u4 ≠ 0) (w64 (Int.tdiv (w64 (v1 + 1)) u4))).bind fun u7 =>
        (Arithmetic_sequenceLeft u5 u6 u7 v1).bind fun u8 =>
        (Arithmetic_commonOf u8 v1).bind fun u9 =>
        if u9 = (1 : Int) then
          Checker_upFault_91 fu v0 v1 (w32 (v5 + 1)) h
        else
          some 9
    else
      some 0
def Checker_upFault (v0 : Int) (h : AH) : Option Int :=
  (gd (hTy h v0 = 4) 0).bind fun _ =>
  (Line_hasPQ v0 h).bind fun u1 =>
  if u1 = 0 then
    some 0
  else
    (gd (hTy h v0 = 4) (hCe h v0 2)).bind fun u2 =>
    (gd (hTy h v0 = 4) (hCe h v0 4)).bind fun u3 =>
    (gd (hTy h v0 = 4) (hCe h v0 4)).bind fun u4 =>
    (gd (hTy h v0 = 4) (hCe h v0 5)).bind fun u5 =>
    (Arithmetic_jacobiOf (w64 ((w64 (u3 * u4)) - (w64 (4 * u5)))) u2).bind fun u6 =>
    if u6 = (-1 : Int) then
      (gd (hTy h v0 = 4) (hCe h v0 5)).bind fun u7 =>
      (Arithmetic_commonOf u7 u2).bind fun u8 =>
      if u8 = (1 : Int) then
        (gd (hTy h v0 = 4) (hCe h v0 4)).bind fun u9 =>
        (gd (hTy h v0 = 4) (hCe h v0 5)).bind fun u10 =>
        (Arithmetic_sequenceLeft u9 u10 (w64 (u2 + 1)) u2).bind fun u11 =>
        if u11 = (0 : Int) then
          Checker_upFault_91 FU v0 u2 0 h
        else
          some 8
      else
        some 7
    else
      some 7
/-- PrimeProofs$Finder.seekPQ(LPrimeProofs$Line;)Z -/
def Finder_seekPQ_10 (k2 : Int → Int → AH → Option (Int × AH)) : Nat → Int → Int → Int → AH → Option (Int × AH)
  | 0, _, _, _, _ => none
  | fu + 1, v0, v1, v2, h =>
    if (99 : Int) < v2 then
      k2 v0 (w32 (v1 + 1)) h
    else
      (gd (hTy h v0 = 4) (hSet h v0 4 v1)).bind fun h1 =>
      (gd (hTy h1 v0 = 4) (hSet h1 v0 5 v2)).bind fun h2 =>
      (Checker_upFault v0 h2).bind fun u3 =>
      if u3 = 0 then
        some (1, h2)
      else
        Finder_seekPQ_10 k2 fu v0 v1 (w32 (v2 + 1)) h2
def Finder_seekPQ_2 : Nat → Int → Int → AH → Option (Int × AH)
  | 0, _, _, _ => none
  | fu + 1, v0, v1, h =>
    if (99 : Int) < v1 then
      some (0, h)
    else
      Finder_seekPQ_10 (fun a0 a1 h0 => Finder_seekPQ_2 fu a0 a1 h0) FU v0 v1 1 h
def Finder_seekPQ (v0 : Int) (h : AH) : Option (Int × AH) :=
  Finder_seekPQ_2 FU v0 1 h
/-- PrimeProofs$Finder.seek(LPrimeProofs$Line;)Z -/
def Finder_seek (v0 : Int) (h : AH) : Option (Int × AH) :=
  (gd (hTy h v0 = 4) (hCe h v0 3)).bind fun u1 =>
  if u1 = 1 then
    (Finder_seekOneBase v0 h).bind fun u2 =>
    (gd (0 ≤ u2.1 ∧ u2.1 ≤ 1) 0).bind fun _ => some (u2.1, u2.2)
  else if u1 = 2 then
    (Finder_seekBases v0 h).bind fun u3 =>
    (gd (0 ≤ u3.1 ∧ u3.1 ≤ 1) 0).bind fun _ => some (u3.1, u3.2)
  else if u1 = 3 then
    (Finder_seekPQ v0 h).bind fun u4 =>
    (gd (0 ≤ u4.1 ∧ u4.1 ≤ 1) 0).bind fun _ => some (u4.1, u4.2)
  else if u1 = 4 then
    (Finder_seekBases v0 h).bind fun u5 =>
    if u5.1 = 0 then
      some (0, u5.2)
    else
      (Finder_seekPQ v0 u5.2).bind fun u6 =>
      if u6.1 = 0 then
        some (0, u6.2)
      else
        some (1, u6.2)
  else 
    some (1, h)
/-- PrimeProofs$Line.rowCount()I -/
def Line_rowCount (v0 : Int) (h : AH) : Option Int :=
  (gd (hTy h v0 = 4) (hCe h v0 0)).bind fun u1 =>
  (gd (hTy h u1 = 6) (hCe h u1 1)).bind fun u2 =>
  (gd (hTy h v0 = 4) (hCe h v0 1)).bind fun u3 =>
  (gd (hTy h u3 = 6) (hCe h u3 1)).bind fun u4 =>
  some (w32 (u2 + u4))
/-- PrimeProofs$Line.divisor(I)I -/
def Line_divisor (v0 : Int) (v1 : Int) (h : AH) : Option Int :=
  (gd (hTy h v0 = 4) (hCe h v0 0)).bind fun u1 =>
  (gd (hTy h u1 = 6) (hCe h u1 1)).bind fun u2 =>
  if v1 < u2 then
    (gd (hTy h v0 = 4) (hCe h v0 0)).bind fun u3 =>
    (gd (hTy h u3 = 6) 0).bind fun _ =>
    (Side_cell u3 v1 0 h).bind fun u4 =>
    some u4
  else
    (gd (hTy h v0 = 4) (hCe h v0 1)).bind fun u5 =>
    (gd (hTy h v0 = 4) (hCe h v0 0)).bind fun u6 =>
    (gd (hTy h u6 = 6) (hCe h u6 1)).bind fun u7 =>
    (gd (hTy h u5 = 6) 0).bind fun _ =>
    (Side_cell u5 (w32 (v1 - u7)) 0 h).bind fun u8 =>
    some u8
/-- PrimeProofs$Ledger.leastAhead(JII)I -/
def Ledger_leastAhead_3 : Nat → Int → Int → Int → Int → Int → AH → Option Int
  | 0, _, _, _, _, _, _ => none
  | fu + 1, v0, v1, v3, v4, v5, h =>
    if v5 < v3 then
      (Ledger_isIn v1 v5).bind fun u1 =>
      if u1 = 0 then
        Ledger_leastAhead_3 fu v0 v1 v3 v4 (w32 (v5 + 1)) h
      else
        (gd (hTy h v0 = 3) 0).bind fun _ =>
        (Ledger_has v0 v5 h).bind fun u2 =>
        if u2 = 0 then
          Ledger_leastAhead_3 fu v0 v1 v3 v4 (w32 (v5 + 1)) h
        else
          (gd (hTy h v0 = 3) (hCe h v0 0)).bind fun u3 =>
          (gd (hTy h u3 = 26 ∧ 0 ≤ v5 ∧ v5 < hLn h u3) (hCe h u3 v5)).bind fun u4 =>
          (gd (hTy h u4 = 4) (hCe h u4 2)).bind fun u5 =>
          if u5 = v4 then
            some v5
          else
            Ledger_leastAhead_3 fu v0 v1 v3 v4 (w32 (v5 + 1)) h
    else
      some (-1)
def Ledger_leastAhead (v0 : Int) (v1 : Int) (v3 : Int) (v4 : Int) (h : AH) : Option Int :=
  Ledger_leastAhead_3 FU v0 v1 v3 v4 0 h
/-- PrimeProofs$Ledger.leastFor(I)I -/
def Ledger_leastFor (v0 : Int) (v1 : Int) (h : AH) : Option Int :=
  (gd (hTy h v0 = 3) (hCe h v0 4)).bind fun u1 =>
  (gd (hTy h v0 = 3) (hCe h v0 5)).bind fun u2 =>
  (gd (hTy h v0 = 3) 0).bind fun _ =>
  (Ledger_leastAhead v0 u1 u2 v1 h).bind fun u3 =>
  some u3
/-- PrimeProofs$Side.copy(LPrimeProofs$Side;)V -/
def Side_copy (v0 : Int) (v1 : Int) (h : AH) : Option AH :=
  (gd (hTy h v1 = 6) (hCe h v1 1)).bind fun u1 =>
  (gd (hTy h v0 = 6) (hSet h v0 1 u1)).bind fun h2 =>
  (gd (hTy h2 v1 = 6) (hCe h2 v1 0)).bind fun u3 =>
  (gd (hTy h2 v0 = 6) (hCe h2 v0 0)).bind fun u4 =>
  (gd (hTy h2 v0 = 6) (hCe h2 v0 0)).bind fun u5 =>
  (gd (21 ≤ hTy h2 u5) (hLn h2 u5)).bind fun u6 =>
  (gd (hTy h2 u3 = 21 ∧ hTy h2 u4 = 21 ∧ 0 ≤ (0 : Int) ∧ 0 ≤ (0 : Int) ∧ 0 ≤ u6 ∧ (0 : Int) + u6 ≤ hLn h2 u3 ∧ (0 : Int) + u6 ≤ hLn h2 u4) (hCpy h2 u3 (0 : Int) u4 (0 : Int) u6)).bind fun h7 =>
  some h7
/-- PrimeProofs$Line.copy(LPrimeProofs$Line;)V -/
def Line_copy (v0 : Int) (v1 : Int) (h : AH) : Option AH :=
  (gd (hTy h v1 = 4) (hCe h v1 2)).bind fun u1 =>
  (gd (hTy h v0 = 4) (hSet h v0 2 u1)).bind fun h2 =>
  (gd (hTy h2 v1 = 4) (hCe h2 v1 3)).bind fun u3 =>
  (gd (hTy h2 v0 = 4) (hSet h2 v0 3 u3)).bind fun h4 =>
  (gd (hTy h4 v1 = 4) (hCe h4 v1 4)).bind fun u5 =>
  (gd (hTy h4 v0 = 4) (hSet h4 v0 4 u5)).bind fun h6 =>
  (gd (hTy h6 v1 = 4) (hCe h6 v1 5)).bind fun u7 =>
  (gd (hTy h6 v0 = 4) (hSet h6 v0 5 u7)).bind fun h8 =>
  (gd (hTy h8 v0 = 4) (hCe h8 v0 0)).bind fun u9 =>
  (gd (hTy h8 v1 = 4) (hCe h8 v1 0)).bind fun u10 =>
  (gd (hTy h8 u9 = 6) 0).bind fun _ =>
  (Side_copy u9 u10 h8).bind fun h12 =>
  (gd (hTy h12 v0 = 4) (hCe h12 v0 1)).bind fun u13 =>
  (gd (hTy h12 v1 = 4) (hCe h12 v1 1)).bind fun u14 =>
  (gd (hTy h12 u13 = 6) 0).bind fun _ =>
  (Side_copy u13 u14 h12).bind fun h16 =>
  (gd (hTy h16 v1 = 4) (hCe h16 v1 6)).bind fun u17 =>
  (gd (hTy h16 v0 = 4) (hSet h16 v0 6 u17)).bind fun h18 =>
  some h18
/-- PrimeProofs$Ledger.append(LPrimeProofs$Line;)I -/
def Ledger_append_40 (v0 : Int) (v1 : Int) (h : AH) : Option (Int × AH) :=
  (gd (hTy h v0 = 3) (hCe h v0 0)).bind fun u1 =>
  (gd (hTy h v0 = 3) (hCe h v0 5)).bind fun u2 =>
  (gd (hTy h u1 = 26 ∧ 0 ≤ u2 ∧ u2 < hLn h u1) (hCe h u1 u2)).bind fun u3 =>
  (gd (hTy h u3 = 4) 0).bind fun _ =>
  (Line_copy u3 v1 h).bind fun h5 =>
  (gd (hTy h5 v0 = 3) (hCe h5 v0 5)).bind fun u6 =>
  (gd (hTy h5 v0 = 3) (hSet h5 v0 5 (w32 (u6 + 1)))).bind fun h7 =>
  (gd (hTy h7 v0 = 3) (hCe h7 v0 5)).bind fun u8 =>
  some (w32 (u8 - 1), h7)
def Ledger_append (v0 : Int) (v1 : Int) (h : AH) : Option (Int × AH) :=
  (gd (hTy h v0 = 3) (hCe h v0 5)).bind fun u1 =>
  if u1 < (60 : Int) then
    (gd (hTy h v0 = 3) (hCe h v0 0)).bind fun u2 =>
    (gd (hTy h v0 = 3) (hCe h v0 5)).bind fun u3 =>
    (gd (hTy h u2 = 26 ∧ 0 ≤ u3 ∧ u3 < hLn h u2) (hCe h u2 u3)).bind fun u4 =>
    if u4 < 0 then
      (gd (hTy h v0 = 3) (hCe h v0 0)).bind fun u5 =>
      (gd (hTy h v0 = 3) (hCe h v0 5)).bind fun u6 =>
      (gd (True) (hNew h 4 7 (dfO 3))).bind fun h7 =>
      (gd (0 ≤ (hNx h)) 0).bind fun _ =>
      (Line_init (hNx h) h7).bind fun h9 =>
      (gd ((hTy h9 u5 = 26 ∧ 0 ≤ u6 ∧ u6 < hLn h9 u5) ∧ ((hNx h) < 0 ∨ hTy h9 (hNx h) = 4)) (hSet h9 u5 u6 (hNx h))).bind fun h10 =>
      Ledger_append_40 v0 v1 h10
    else
      Ledger_append_40 v0 v1 h
  else
    some ((-3), h)
/-- PrimeProofs$Ledger.settle(II)V -/
def Ledger_settle_54 : Nat → Int → Int → Int → Int → AH → Option AH
  | 0, _, _, _, _, _ => none
  | fu + 1, v0, v1, v3, v4, h =>
    (gd (hTy h v3 = 4) 0).bind fun _ =>
    (Line_rowCount v3 h).bind fun u1 =>
    if v4 < u1 then
      (gd (hTy h v0 = 3) (hCe h v0 4)).bind fun u2 =>
      (gd (hTy h v3 = 4) 0).bind fun _ =>
      (Line_divisor v3 v4 h).bind fun u3 =>
      (gd (hTy h v0 = 3) 0).bind fun _ =>
      (Ledger_leastAhead v0 u2 v1 u3 h).bind fun u4 =>
      if u4 < 0 then
        Ledger_settle_54 fu v0 v1 v3 (w32 (v4 + 1)) h
      else
        (gd (hTy h v0 = 3) (hCe h v0 2)).bind fun u5 =>
        (gd (hTy h u5 = 22 ∧ 0 ≤ v1 ∧ v1 < hLn h u5) (hCe h u5 v1)).bind fun u6 =>
        (gd (hTy h v0 = 3) (hCe h v0 2)).bind fun u7 =>
        (gd (hTy h u7 = 22 ∧ 0 ≤ u4 ∧ u4 < hLn h u7) (hCe h u7 u4)).bind fun u8 =>
        (gd (hTy h u5 = 22 ∧ 0 ≤ v1 ∧ v1 < hLn h u5) (hSet h u5 v1 (orL u6 u8))).bind fun h9 =>
        (gd (hTy h9 v0 = 3) (hCe h9 v0 3)).bind fun u10 =>
        (gd (hTy h9 v0 = 3) (hCe h9 v0 3)).bind fun u11 =>
        (gd (hTy h9 u11 = 21 ∧ 0 ≤ v1 ∧ v1 < hLn h9 u11) (hCe h9 u11 v1)).bind fun u12 =>
        (gd (hTy h9 v0 = 3) (hCe h9 v0 3)).bind fun u13 =>
        (gd (hTy h9 u13 = 21 ∧ 0 ≤ u4 ∧ u4 < hLn h9 u13) (hCe h9 u13 u4)).bind fun u14 =>
        (Math_max u12 (w32 (u14 + 1))).bind fun u15 =>
        (gd (hTy h9 u10 = 21 ∧ 0 ≤ v1 ∧ v1 < hLn h9 u10) (hSet h9 u10 v1 u15)).bind fun h16 =>
        Ledger_settle_54 fu v0 v1 v3 (w32 (v4 + 1)) h16
    else
      (gd (hTy h v0 = 3) (hCe h v0 4)).bind fun u17 =>
      (gd (hTy h v0 = 3) (hSet h v0 4 (orL u17 (shlL 1 v1)))).bind fun h18 =>
      some h18
def Ledger_settle (v0 : Int) (v1 : Int) (v2 : Int) (h : AH) : Option AH :=
  (gd (hTy h v0 = 3) (hCe h v0 0)).bind fun u1 =>
  (gd (hTy h u1 = 26 ∧ 0 ≤ v1 ∧ v1 < hLn h u1) (hCe h u1 v1)).bind fun u2 =>
  (gd (hTy h v0 = 3) (hCe h v0 1)).bind fun u3 =>
  (gd (hTy h u3 = 21 ∧ 0 ≤ v1 ∧ v1 < hLn h u3) (hSet h u3 v1 v2)).bind fun h4 =>
  (gd (hTy h4 v0 = 3) (hCe h4 v0 2)).bind fun u5 =>
  (gd (hTy h4 u5 = 22 ∧ 0 ≤ v1 ∧ v1 < hLn h4 u5) (hSet h4 u5 v1 (shlL 1 v1))).bind fun h6 =>
  (gd (hTy h6 v0 = 3) (hCe h6 v0 3)).bind fun u7 =>
  (gd (hTy h6 u7 = 21 ∧ 0 ≤ v1 ∧ v1 < hLn h6 u7) (hSet h6 u7 v1 (0 : Int))).bind fun h8 =>
  (gd (hTy h8 v0 = 3) (hCe h8 v0 4)).bind fun u9 =>
  (gd (hTy h8 v0 = 3) (hSet h8 v0 4 (andL u9 (xorL (shlL 1 v1) (-1))))).bind fun h10 =>
  if v2 = 0 then
    Ledger_settle_54 FU v0 v1 u2 0 h10
  else
    some h10
/-- PrimeProofs$Ledger.appendRight(LPrimeProofs$Line;)I -/
def Ledger_appendRight (v0 : Int) (v1 : Int) (h : AH) : Option (Int × AH) :=
  (gd (hTy h v0 = 3) 0).bind fun _ =>
  (Ledger_append v0 v1 h).bind fun u1 =>
  if u1.1 < 0 then
    some (u1.1, u1.2)
  else
    (gd (hTy u1.2 v0 = 3) 0).bind fun _ =>
    (Ledger_settle v0 u1.1 0 u1.2).bind fun h3 =>
    some (u1.1, h3)
/-- PrimeProofs$Finder.bringAt(III)I -/
def Finder_bringAt_86 (slf : Int → Int → Int → Int → AH → Option (Int × AH)) (k40 : Int → Int → Int → Int → AH → Option (Int × AH)) (v0 : Int) (v3 : Int) (v4 : Int) (v5 : Int) (s0 : Int) (s1 : Int) (s2 : Int) (h : AH) : Option (Int × AH) :=
  (gd (hTy h s2 = 2) 0).bind fun _ =>
  (slf s2 s1 s0 (w32 (v3 + 1)) h).bind fun u1 =>
  if u1.1 < 0 then
    some (u1.1, u1.2)
  else
    k40 v0 v3 v4 (w32 (v5 + 1)) u1.2
def Finder_bringAt_40 (slf : Int → Int → Int → Int → AH → Option (Int × AH)) : Nat → Int → Int → Int → Int → AH → Option (Int × AH)
  | 0, _, _, _, _, _ => none
  | fu + 1, v0, v3, v4, v5, h =>
    (gd (hTy h v4 = 4) 0).bind fun _ =>
    (Line_rowCount v4 h).bind fun u1 =>
    if v5 < u1 then
      (gd (hTy h v4 = 4) 0).bind fun _ =>
      (Line_divisor v4 v5 h).bind fun u2 =>
      (gd (hTy h v0 = 2) (hCe h v0 0)).bind fun u3 =>
      (gd (hTy h u3 = 3) 0).bind fun _ =>
      (Ledger_leastFor u3 u2 h).bind fun u4 =>
      if u4 < 0 then
        if u2 < (100 : Int) then
          Finder_bringAt_86 slf (fun a0 a1 a2 a3 h0 => Finder_bringAt_40 slf fu a0 a1 a2 a3 h0) v0 v3 v4 v5 0 u2 v0 h
        else
          Finder_bringAt_86 slf (fun a0 a1 a2 a3 h0 => Finder_bringAt_40 slf fu a0 a1 a2 a3 h0) v0 v3 v4 v5 1 u2 v0 h
      else
        Finder_bringAt_40 slf fu v0 v3 v4 (w32 (v5 + 1)) h
    else
      (gd (hTy h v0 = 2) (hCe h v0 0)).bind fun u5 =>
      (gd (hTy h u5 = 3) 0).bind fun _ =>
      (Ledger_appendRight u5 v4 h).bind fun u6 =>
      some (u6.1, u6.2)
def Finder_bringAt_B (slf : Int → Int → Int → Int → AH → Option (Int × AH)) (v0 : Int) (v1 : Int) (v2 : Int) (v3 : Int) (h : AH) : Option (Int × AH) :=
  (gd (hTy h v0 = 2) 0).bind fun _ =>
  (Finder_draftAt v0 v3 h).bind fun u1 =>
  if u1.1 < 0 then
    some ((-3), u1.2)
  else
    (gd (hTy u1.2 v0 = 2) 0).bind fun _ =>
    (Finder_lay v0 u1.1 v1 v2 u1.2).bind fun u2 =>
    if u2.1 = 0 then
      some ((-2), u2.2)
    else
      (Finder_seek u1.1 u2.2).bind fun u3 =>
      if u3.1 = 0 then
        some ((-2), u3.2)
      else
        Finder_bringAt_40 slf FU v0 v3 u1.1 0 u3.2
def Finder_bringAt : Nat → Int → Int → Int → Int → AH → Option (Int × AH)
  | 0, _, _, _, _, _ => none
  | fu + 1, v0, v1, v2, v3, h => Finder_bringAt_B (Finder_bringAt fu) v0 v1 v2 v3 h
/-- java/lang/Math.min(II)I -/
def Math_min (v0 : Int) (v1 : Int) : Option Int :=
  if v1 < v0 then
    some v1
  else
    some v0
/-- PrimeProofs$Ledger.shorten(I)V -/
def Ledger_shorten (v0 : Int) (v1 : Int) (h : AH) : Option AH :=
  (gd (hTy h v0 = 3) (hCe h v0 5)).bind fun u1 =>
  (Math_min u1 v1).bind fun u2 =>
  (Math_max 0 u2).bind fun u3 =>
  (gd (hTy h v0 = 3) (hSet h v0 5 u3)).bind fun h4 =>
  (gd (hTy h4 v0 = 3) (hCe h4 v0 4)).bind fun u5 =>
  (gd (hTy h4 v0 = 3) (hCe h4 v0 5)).bind fun u6 =>
  (gd (hTy h4 v0 = 3) (hSet h4 v0 4 (andL u5 (w64 ((shlL 1 u6) - 1))))).bind fun h7 =>
  some h7
/-- PrimeProofs$Finder.bring(II)I -/
def Finder_bring (v0 : Int) (v1 : Int) (v2 : Int) (h : AH) : Option (Int × AH) :=
  (gd (hTy h v0 = 2) (hCe h v0 0)).bind fun u1 =>
  (gd (hTy h u1 = 3) (hCe h u1 5)).bind fun u2 =>
  (gd (hTy h v0 = 2) 0).bind fun _ =>
  (Finder_bringAt 45 v0 v1 v2 0 h).bind fun u3 =>
  if u3.1 < 0 then
    (gd (hTy u3.2 v0 = 2) (hCe u3.2 v0 0)).bind fun u4 =>
    (gd (hTy u3.2 u4 = 3) 0).bind fun _ =>
    (Ledger_shorten u4 u2 u3.2).bind fun h6 =>
    some (u3.1, h6)
  else
    some (u3.1, u3.2)
/-- PrimeProofs.find(II)I -/
def X_find (v0 : Int) (v1 : Int) (v2 : Int) (h : AH) : Option (Int × AH) :=
  (Arithmetic_isNumber v1).bind fun u1 =>
  if u1 = 0 then
    some ((-1), h)
  else
    if v2 < 0 then
      some ((-1), h)
    else
      if (4 : Int) < v2 then
        some ((-1), h)
      else
        (gd (hTy h v0 = 9) (hCe h v0 0)).bind fun u2 =>
        (gd (hTy h u2 = 3) 0).bind fun _ =>
        (Ledger_leastOfSort u2 v1 v2 h).bind fun u3 =>
        if u3 < 0 then
          (gd (hTy h v0 = 9) (hCe h v0 1)).bind fun u4 =>
          (gd (hTy h u4 = 2) 0).bind fun _ =>
          (Finder_bring u4 v1 v2 h).bind fun u5 =>
          some (u5.1, u5.2)
        else
          some (u3, h)
/-- PrimeProofs$Tape.hasRoomFor(I)Z -/
def Tape_hasRoomFor (v0 : Int) (v1 : Int) (h : AH) : Option Int :=
  (gd (hTy h v0 = 8) (hCe h v0 1)).bind fun u1 =>
  if (400 : Int) < (w32 (u1 + v1)) then
    some 0
  else
    some 1
/-- PrimeProofs$Tape.append(I)V -/
def Tape_append_3 : Nat → Int → Int → Int → AH → Option AH
  | 0, _, _, _, _ => none
  | fu + 1, v0, v1, v2, h =>
    if v2 < 0 then
      some h
    else
      (gd (hTy h v0 = 8) (hCe h v0 1)).bind fun u1 =>
      if u1 < (400 : Int) then
        (gd (hTy h v0 = 8) (hCe h v0 0)).bind fun u2 =>
        (gd (hTy h v0 = 8) (hCe h v0 1)).bind fun u3 =>
        (gd ((hTy h u2 = 24 ∧ 0 ≤ u3 ∧ u3 < hLn h u2) ∧ 0 ≤ ((andI (ushrI v1 v2) 255) % 65536) ∧ ((andI (ushrI v1 v2) 255) % 65536) < 65536) (hSet h u2 u3 ((andI (ushrI v1 v2) 255) % 65536))).bind fun h4 =>
        (gd (hTy h4 v0 = 8) (hCe h4 v0 1)).bind fun u5 =>
        (gd (hTy h4 v0 = 8) (hSet h4 v0 1 (w32 (u5 + 1)))).bind fun h6 =>
        Tape_append_3 fu v0 v1 (w32 (v2 + (-8))) h6
      else
        some h
def Tape_append (v0 : Int) (v1 : Int) (h : AH) : Option AH :=
  Tape_append_3 FU v0 v1 24 h
/-- PrimeProofs.feed(IIIII)I -/
def X_feed (v0 : Int) (v1 : Int) (v2 : Int) (v3 : Int) (v4 : Int) (v5 : Int) (h : AH) : Option (Int × AH) :=
  (gd (hTy h v0 = 9) (hCe h v0 2)).bind fun u1 =>
  (gd (hTy h u1 = 8) 0).bind fun _ =>
  (Tape_hasRoomFor u1 20 h).bind fun u2 =>
  if u2 = 0 then
    some ((-1), h)
  else
    (gd (hTy h v0 = 9) (hCe h v0 2)).bind fun u3 =>
    (gd (hTy h u3 = 8) 0).bind fun _ =>
    (Tape_append u3 v1 h).bind fun h5 =>
    (gd (hTy h5 v0 = 9) (hCe h5 v0 2)).bind fun u6 =>
    (gd (hTy h5 u6 = 8) 0).bind fun _ =>
    (Tape_append u6 v2 h5).bind fun h8 =>
    (gd (hTy h8 v0 = 9) (hCe h8 v0 2)).bind fun u9 =>
    (gd (hTy h8 u9 = 8) 0).bind fun _ =>
    (Tape_append u9 v3 h8).bind fun h11 =>
    (gd (hTy h11 v0 = 9) (hCe h11 v0 2)).bind fun u12 =>
    (gd (hTy h11 u12 = 8) 0).bind fun _ =>
    (Tape_append u12 v4 h11).bind fun h14 =>
    (gd (hTy h14 v0 = 9) (hCe h14 v0 2)).bind fun u15 =>
    (gd (hTy h14 u15 = 8) 0).bind fun _ =>
    (Tape_append u15 v5 h14).bind fun h17 =>
    (gd (hTy h17 v0 = 9) (hCe h17 v0 2)).bind fun u18 =>
    (gd (hTy h17 u18 = 8) (hCe h17 u18 1)).bind fun u19 =>
    some (u19, h17)
/-- PrimeProofs.back(I)I -/
def X_back (v0 : Int) (v1 : Int) (h : AH) : Option (Int × AH) :=
  if v1 < 0 then
    some ((-1), h)
  else
    (gd (hTy h v0 = 9) (hCe h v0 2)).bind fun u1 =>
    (gd (hTy h u1 = 8) (hCe h u1 1)).bind fun u2 =>
    if u2 < v1 then
      some ((-1), h)
    else
      (gd (hTy h v0 = 9) (hCe h v0 2)).bind fun u3 =>
      (gd (hTy h u3 = 8) (hCe h u3 1)).bind fun u4 =>
      (gd (hTy h u3 = 8) (hSet h u3 1 (w32 (u4 - v1)))).bind fun h5 =>
      (gd (hTy h5 v0 = 9) (hCe h5 v0 2)).bind fun u6 =>
      (gd (hTy h5 u6 = 8) (hCe h5 u6 1)).bind fun u7 =>
      some (u7, h5)
/-- PrimeProofs$Reader.kindOf(C)I -/
def Reader_kindOf (v0 : Int) : Option Int :=
  if v0 < (97 : Int) then
    if v0 < (48 : Int) then
      some 3
    else
      if (57 : Int) < v0 then
        some 3
      else
        some 2
  else
    if (122 : Int) < v0 then
      if v0 < (48 : Int) then
        some 3
      else
        if (57 : Int) < v0 then
          some 3
        else
          some 2
    else
      some 1
/-- PrimeProofs$Reader.advance()V -/
def Reader_advance_137 : Nat → Int → Int → Int → AH → Option AH
  | 0, _, _, _, _ => none
  | fu + 1, v0, v1, v2, h =>
    (gd (hTy h v0 = 5) (hCe h v0 3)).bind fun u1 =>
    if u1 = (3 : Int) then
      if v1 = 0 then
        some h
      else
        (gd (hTy h v0 = 5) (hSet h v0 3 3)).bind fun h2 =>
        some h2
    else
      (gd (hTy h v0 = 5) (hCe h v0 0)).bind fun u3 =>
      (gd (hTy h u3 = 8) (hCe h u3 1)).bind fun u4 =>
      if v2 < u4 then
        (gd (hTy h v0 = 5) (hCe h v0 0)).bind fun u5 =>
        (gd (hTy h u5 = 8) (hCe h u5 0)).bind fun u6 =>
        (gd (hTy h u6 = 24 ∧ 0 ≤ v2 ∧ v2 < hLn h u6) (hCe h u6 v2)).bind fun u7 =>
        (Reader_kindOf u7).bind fun u8 =>
        (gd (hTy h v0 = 5) (hCe h v0 3)).bind fun u9 =>
        if u8 = u9 then
          (gd (hTy h v0 = 5) (hSet h v0 5 (w32 (v2 + 1)))).bind fun h10 =>
          Reader_advance_137 fu v0 v1 (w32 (v2 + 1)) h10
        else
          if v1 = 0 then
            some h
          else
            (gd (hTy h v0 = 5) (hSet h v0 3 3)).bind fun h11 =>
            some h11
      else
        if v1 = 0 then
          some h
        else
          (gd (hTy h v0 = 5) (hSet h v0 3 3)).bind fun h12 =>
          some h12
def Reader_advance_75 (v0 : Int) (v1 : Int) (h : AH) : Option AH :=
  (gd (hTy h v0 = 5) (hCe h v0 4)).bind fun u1 =>
  (gd (hTy h v0 = 5) (hSet h v0 5 u1)).bind fun h2 =>
  (gd (hTy h2 v0 = 5) (hCe h2 v0 4)).bind fun u3 =>
  (gd (hTy h2 v0 = 5) (hCe h2 v0 0)).bind fun u4 =>
  (gd (hTy h2 u4 = 8) (hCe h2 u4 1)).bind fun u5 =>
  if u3 < u5 then
    (gd (hTy h2 v0 = 5) (hCe h2 v0 0)).bind fun u6 =>
    (gd (hTy h2 u6 = 8) (hCe h2 u6 0)).bind fun u7 =>
    (gd (hTy h2 v0 = 5) (hCe h2 v0 4)).bind fun u8 =>
    (gd (hTy h2 u7 = 24 ∧ 0 ≤ u8 ∧ u8 < hLn h2 u7) (hCe h2 u7 u8)).bind fun u9 =>
    (Reader_kindOf u9).bind fun u10 =>
    (gd (hTy h2 v0 = 5) (hSet h2 v0 3 u10)).bind fun h11 =>
    (gd (hTy h11 v0 = 5) (hCe h11 v0 4)).bind fun u12 =>
    (gd (hTy h11 v0 = 5) (hSet h11 v0 5 (w32 (u12 + 1)))).bind fun h13 =>
    (gd (hTy h13 v0 = 5) (hCe h13 v0 5)).bind fun u14 =>
    Reader_advance_137 FU v0 v1 u14 h13
  else
    (gd (hTy h2 v0 = 5) (hSet h2 v0 3 0)).bind fun h15 =>
    some h15
def Reader_advance_35 : Nat → Int → Int → Int → AH → Option AH
  | 0, _, _, _, _ => none
  | fu + 1, v0, v1, v2, h =>
    (gd (hTy h v0 = 5) (hCe h v0 0)).bind fun u1 =>
    (gd (hTy h u1 = 8) (hCe h u1 1)).bind fun u2 =>
    if v2 < u2 then
      (gd (hTy h v0 = 5) (hCe h v0 0)).bind fun u3 =>
      (gd (hTy h u3 = 8) (hCe h u3 0)).bind fun u4 =>
      (gd (hTy h u4 = 24 ∧ 0 ≤ v2 ∧ v2 < hLn h u4) (hCe h u4 v2)).bind fun u5 =>
      if u5 = (32 : Int) then
        (gd (hTy h v0 = 5) (hSet h v0 4 (w32 (v2 + 1)))).bind fun h6 =>
        Reader_advance_35 fu v0 0 (w32 (v2 + 1)) h6
      else
        Reader_advance_75 v0 v1 h
    else
      Reader_advance_75 v0 v1 h
def Reader_advance (v0 : Int) (h : AH) : Option AH :=
  (gd (hTy h v0 = 5) (hCe h v0 3)).bind fun u1 =>
  if u1 = (1 : Int) then
    (gd (hTy h v0 = 5) (hCe h v0 5)).bind fun u2 =>
    (gd (hTy h v0 = 5) (hSet h v0 4 u2)).bind fun h3 =>
    (gd (hTy h3 v0 = 5) (hCe h3 v0 5)).bind fun u4 =>
    Reader_advance_35 FU v0 1 u4 h3
  else
    (gd (hTy h v0 = 5) (hCe h v0 3)).bind fun u5 =>
    if u5 = (2 : Int) then
      (gd (hTy h v0 = 5) (hCe h v0 5)).bind fun u6 =>
      (gd (hTy h v0 = 5) (hSet h v0 4 u6)).bind fun h7 =>
      (gd (hTy h7 v0 = 5) (hCe h7 v0 5)).bind fun u8 =>
      Reader_advance_35 FU v0 1 u8 h7
    else
      (gd (hTy h v0 = 5) (hCe h v0 5)).bind fun u9 =>
      (gd (hTy h v0 = 5) (hSet h v0 4 u9)).bind fun h10 =>
      (gd (hTy h10 v0 = 5) (hCe h10 v0 5)).bind fun u11 =>
      Reader_advance_35 FU v0 0 u11 h10
/-- PrimeProofs$Speller.nameOf(I)Ljava/lang/String; -/
def Speller_nameOf (v0 : Int) : Option Int :=
  if v0 = 1 then
    some 0
  else if v0 = 2 then
    some 1
  else if v0 = 3 then
    some 2
  else if v0 = 4 then
    some 3
  else 
    some 4
/-- java/lang/String.coder()B -/
def Str_coder (v0 : Int) : Option Int :=
  if (1 : Int) = 0 then
    (gd (-128 ≤ (1 : Int) ∧ (1 : Int) ≤ 127) 0).bind fun _ => some 1
  else
    (gd (-128 ≤ (0 : Int) ∧ (0 : Int) ≤ 127) 0).bind fun _ => some 0
/-- java/lang/String.length()I -/
def Str_length (v0 : Int) : Option Int :=
  (gd (0 ≤ v0 ∧ v0 < 10) 0).bind fun _ =>
  (Str_coder v0).bind fun u1 =>
  some (shrI (stLn v0) u1)
/-- java/lang/String.isLatin1()Z -/
def Str_isLatin1 (v0 : Int) : Option Int :=
  if (1 : Int) = 0 then
    some 0
  else
    if (0 : Int) = 0 then
      some 1
    else
      some 0
/-- jdk/internal/util/Preconditions.checkIndex(IILjava/util/function/BiFunction;)I -/
def Precond_checkIndex_9 (v0 : Int) (v1 : Int) : Option Int :=
  none
def Precond_checkIndex (v0 : Int) (v1 : Int) : Option Int :=
  if v0 < 0 then
    Precond_checkIndex_9 v0 v1
  else
    if v0 < v1 then
      some v0
    else
      Precond_checkIndex_9 v0 v1
/-- java/lang/String.checkIndex(II)V -/
def Str_checkIndex (v0 : Int) (v1 : Int) : Option Int :=
  (Precond_checkIndex v0 v1).bind fun u1 =>
  some 0
/-- java/lang/StringLatin1.charAt([BI)C -/
def Latin_charAt (v0 : Int) (v1 : Int) : Option Int :=
  (Str_checkIndex v1 (stLn v0)).bind fun u1 =>
  (gd (0 ≤ v1 ∧ v1 < stLn v0) (stCh v0 v1)).bind fun u2 =>
  (gd (0 ≤ ((andI u2 255) % 65536) ∧ ((andI u2 255) % 65536) < 65536) 0).bind fun _ => some ((andI u2 255) % 65536)
/-- java/lang/String.charAt(I)C -/
def Str_charAt (v0 : Int) (v1 : Int) : Option Int :=
  (gd (0 ≤ v0 ∧ v0 < 10) 0).bind fun _ =>
  (Str_isLatin1 v0).bind fun u1 =>
  if u1 = 0 then
    none
  else
    (Latin_charAt v0 v1).bind fun u2 =>
    (gd (0 ≤ u2 ∧ u2 < 65536) 0).bind fun _ => some u2
/-- PrimeProofs$Reader.isWord(Ljava/lang/String;)Z -/
def Reader_isWord_28 : Nat → Int → Int → Int → AH → Option Int
  | 0, _, _, _, _ => none
  | fu + 1, v0, v1, v2, h =>
    (gd (0 ≤ v1 ∧ v1 < 10) 0).bind fun _ =>
    (Str_length v1).bind fun u1 =>
    if v2 < u1 then
      (gd (hTy h v0 = 5) (hCe h v0 4)).bind fun u2 =>
      (gd (hTy h v0 = 5) (hCe h v0 0)).bind fun u3 =>
      (gd (hTy h u3 = 8) (hCe h u3 1)).bind fun u4 =>
      if (w32 (u2 + v2)) < u4 then
        (gd (hTy h v0 = 5) (hCe h v0 0)).bind fun u5 =>
        (gd (hTy h u5 = 8) (hCe h u5 0)).bind fun u6 =>
        (gd (hTy h v0 = 5) (hCe h v0 4)).bind fun u7 =>
        (gd (hTy h u6 = 24 ∧ 0 ≤ (w32 (u7 + v2)) ∧ (w32 (u7 + v2)) < hLn h u6) (hCe h u6 (w32 (u7 + v2)))).bind fun u8 =>
        (gd (0 ≤ v1 ∧ v1 < 10) 0).bind fun _ =>
        (Str_charAt v1 v2).bind fun u9 =>
        if u8 = u9 then
          Reader_isWord_28 fu v0 v1 (w32 (v2 + 1)) h
        else
          some 0
      else
        some 0
    else
      some 1
def Reader_isWord (v0 : Int) (v1 : Int) (h : AH) : Option Int :=
  (gd (hTy h v0 = 5) (hCe h v0 3)).bind fun u1 =>
  if u1 = (1 : Int) then
    (gd (hTy h v0 = 5) (hCe h v0 5)).bind fun u2 =>
    (gd (hTy h v0 = 5) (hCe h v0 4)).bind fun u3 =>
    (gd (0 ≤ v1 ∧ v1 < 10) 0).bind fun _ =>
    (Str_length v1).bind fun u4 =>
    if (w32 (u2 - u3)) = u4 then
      Reader_isWord_28 FU v0 v1 0 h
    else
      some 0
  else
    some 0
/-- PrimeProofs$Reader.sortTold()I -/
def Reader_sortTold_2 : Nat → Int → Int → AH → Option Int
  | 0, _, _, _ => none
  | fu + 1, v0, v1, h =>
    if (4 : Int) < v1 then
      some (-1)
    else
      (Speller_nameOf v1).bind fun u1 =>
      (gd (hTy h v0 = 5) 0).bind fun _ =>
      (Reader_isWord v0 u1 h).bind fun u2 =>
      if u2 = 0 then
        Reader_sortTold_2 fu v0 (w32 (v1 + 1)) h
      else
        some v1
def Reader_sortTold (v0 : Int) (h : AH) : Option Int :=
  Reader_sortTold_2 FU v0 0 h
/-- PrimeProofs$Reader.tellInt(II)I -/
def Reader_tellInt_80 (v0 : Int) (v1 : Int) (v2 : Int) (v3 : Int) (h : AH) : Option (Int × AH) :=
  if v3 < v1 then
    some ((-1), h)
  else
    if v2 < v3 then
      some ((-1), h)
    else
      (gd (hTy h v0 = 5) 0).bind fun _ =>
      (Reader_advance v0 h).bind fun h2 =>
      some (w32 v3, h2)
def Reader_tellInt_32 : Nat → Int → Int → Int → Int → Int → AH → Option (Int × AH)
  | 0, _, _, _, _, _, _ => none
  | fu + 1, v0, v1, v2, v3, v5, h =>
    (gd (hTy h v0 = 5) (hCe h v0 5)).bind fun u1 =>
    if v5 < u1 then
      (gd (hTy h v0 = 5) (hCe h v0 0)).bind fun u2 =>
      (gd (hTy h u2 = 8) (hCe h u2 1)).bind fun u3 =>
      if v5 < u3 then
        (gd (hTy h v0 = 5) (hCe h v0 0)).bind fun u4 =>
        (gd (hTy h u4 = 8) (hCe h u4 0)).bind fun u5 =>
        (gd (hTy h u5 = 24 ∧ 0 ≤ v5 ∧ v5 < hLn h u5) (hCe h u5 v5)).bind fun u6 =>
        Reader_tellInt_32 fu v0 v1 v2 (w64 ((w64 (10 * v3)) + (w32 (u6 - 48)))) (w32 (v5 + 1)) h
      else
        Reader_tellInt_80 v0 v1 v2 v3 h
    else
      Reader_tellInt_80 v0 v1 v2 v3 h
def Reader_tellInt (v0 : Int) (v1 : Int) (v2 : Int) (h : AH) : Option (Int × AH) :=
  (gd (hTy h v0 = 5) (hCe h v0 3)).bind fun u1 =>
  if u1 = (2 : Int) then
    (gd (hTy h v0 = 5) (hCe h v0 5)).bind fun u2 =>
    (gd (hTy h v0 = 5) (hCe h v0 4)).bind fun u3 =>
    if (10 : Int) < (w32 (u2 - u3)) then
      some ((-1), h)
    else
      (gd (hTy h v0 = 5) (hCe h v0 4)).bind fun u4 =>
      Reader_tellInt_32 FU v0 v1 v2 0 u4 h
  else
    some ((-1), h)
/-- PrimeProofs$Reader.tellWord(Ljava/lang/String;)Z -/
def Reader_tellWord (v0 : Int) (v1 : Int) (h : AH) : Option (Int × AH) :=
  (gd (hTy h v0 = 5) 0).bind fun _ =>
  (Reader_isWord v0 v1 h).bind fun u1 =>
  if u1 = 0 then
    some (0, h)
  else
    (gd (hTy h v0 = 5) 0).bind fun _ =>
    (Reader_advance v0 h).bind fun h3 =>
    some (1, h3)
/-- PrimeProofs$Reader.tellRows(LPrimeProofs$Side;I)Z -/
def Reader_tellRows_67 (k2 : Int → Int → Int → Int → AH → Option (Int × AH)) (v0 : Int) (v1 : Int) (v2 : Int) (v3 : Int) (v4 : Int) (v5 : Int) (s0 : Int) (h : AH) : Option (Int × AH) :=
  if s0 = (-1 : Int) then
    some (0, h)
  else
    (gd (hTy h v1 = 6) 0).bind fun _ =>
    (Side_append v1 v4 v5 s0 h).bind fun h2 =>
    k2 v0 v1 v2 (w32 (v3 + 1)) h2
def Reader_tellRows_2 : Nat → Int → Int → Int → Int → AH → Option (Int × AH)
  | 0, _, _, _, _, _ => none
  | fu + 1, v0, v1, v2, v3, h =>
    if v3 < (9 : Int) then
      (gd (hTy h v0 = 5) (hCe h v0 3)).bind fun u1 =>
      if u1 = (2 : Int) then
        (gd (hTy h v0 = 5) 0).bind fun _ =>
        (Reader_tellInt v0 2 1000000000 h).bind fun u2 =>
        if u2.1 = (-1 : Int) then
          some (0, u2.2)
        else
          (gd (hTy u2.2 v0 = 5) 0).bind fun _ =>
          (Reader_tellInt v0 1 30 u2.2).bind fun u3 =>
          if u3.1 = (-1 : Int) then
            some (0, u3.2)
          else
            if v2 = (-1 : Int) then
              (gd (hTy u3.2 v0 = 5) 0).bind fun _ =>
              (Reader_tellInt v0 2 999 u3.2).bind fun u4 =>
              Reader_tellRows_67 (fun a0 a1 a2 a3 h0 => Reader_tellRows_2 fu a0 a1 a2 a3 h0) v0 v1 v2 v3 u2.1 u3.1 u4.1 u4.2
            else
              Reader_tellRows_67 (fun a0 a1 a2 a3 h0 => Reader_tellRows_2 fu a0 a1 a2 a3 h0) v0 v1 v2 v3 u2.1 u3.1 v2 u3.2
      else
        (gd (hTy h v0 = 5) (hCe h v0 3)).bind fun u5 =>
        if u5 = (2 : Int) then
          some (0, h)
        else
          some (1, h)
    else
      (gd (hTy h v0 = 5) (hCe h v0 3)).bind fun u6 =>
      if u6 = (2 : Int) then
        some (0, h)
      else
        some (1, h)
def Reader_tellRows (v0 : Int) (v1 : Int) (v2 : Int) (h : AH) : Option (Int × AH) :=
  Reader_tellRows_2 FU v0 v1 v2 0 h
/-- PrimeProofs$Reader.tellPratt()Z -/
def Reader_tellPratt (v0 : Int) (h : AH) : Option (Int × AH) :=
  (gd (hTy h v0 = 5) 0).bind fun _ =>
  (Reader_tellWord v0 5 h).bind fun u1 =>
  if u1.1 = 0 then
    some (0, u1.2)
  else
    (gd (hTy u1.2 v0 = 5) 0).bind fun _ =>
    (Reader_tellInt v0 2 999 u1.2).bind fun u2 =>
    if u2.1 = (-1 : Int) then
      some (0, u2.2)
    else
      (gd (hTy u2.2 v0 = 5) 0).bind fun _ =>
      (Reader_tellWord v0 6 u2.2).bind fun u3 =>
      if u3.1 = 0 then
        some (0, u3.2)
      else
        (gd (hTy u3.2 v0 = 5) (hCe u3.2 v0 2)).bind fun u4 =>
        (gd (hTy u3.2 u4 = 4) (hCe u3.2 u4 0)).bind fun u5 =>
        (gd (hTy u3.2 v0 = 5) 0).bind fun _ =>
        (Reader_tellRows v0 u5 u2.1 u3.2).bind fun u6 =>
        if u6.1 = 0 then
          some (0, u6.2)
        else
          some (1, u6.2)
/-- PrimeProofs$Reader.tellEnd()Z -/
def Reader_tellEnd (v0 : Int) (h : AH) : Option (Int × AH) :=
  (gd (hTy h v0 = 5) (hCe h v0 3)).bind fun u1 =>
  if u1 = (3 : Int) then
    (gd (hTy h v0 = 5) (hCe h v0 4)).bind fun u2 =>
    (gd (hTy h v0 = 5) (hCe h v0 0)).bind fun u3 =>
    (gd (hTy h u3 = 8) (hCe h u3 1)).bind fun u4 =>
    if u2 < u4 then
      (gd (hTy h v0 = 5) (hCe h v0 0)).bind fun u5 =>
      (gd (hTy h u5 = 8) (hCe h u5 0)).bind fun u6 =>
      (gd (hTy h v0 = 5) (hCe h v0 4)).bind fun u7 =>
      (gd (hTy h u6 = 24 ∧ 0 ≤ u7 ∧ u7 < hLn h u6) (hCe h u6 u7)).bind fun u8 =>
      if u8 = (59 : Int) then
        (gd (hTy h v0 = 5) 0).bind fun _ =>
        (Reader_advance v0 h).bind fun h10 =>
        some (1, h10)
      else
        some (0, h)
    else
      some (0, h)
  else
    some (0, h)
/-- PrimeProofs$Reader.tellPQ()Z -/
def Reader_tellPQ (v0 : Int) (h : AH) : Option (Int × AH) :=
  (gd (hTy h v0 = 5) 0).bind fun _ =>
  (Reader_tellWord v0 7 h).bind fun u1 =>
  if u1.1 = 0 then
    some (0, u1.2)
  else
    (gd (hTy u1.2 v0 = 5) (hCe u1.2 v0 2)).bind fun u2 =>
    (gd (hTy u1.2 v0 = 5) 0).bind fun _ =>
    (Reader_tellInt v0 1 99 u1.2).bind fun u3 =>
    (gd (hTy u3.2 u2 = 4) (hSet u3.2 u2 4 u3.1)).bind fun h4 =>
    (gd (hTy h4 v0 = 5) (hCe h4 v0 2)).bind fun u5 =>
    (gd (hTy h4 u5 = 4) (hCe h4 u5 4)).bind fun u6 =>
    if u6 = (-1 : Int) then
      some (0, h4)
    else
      (gd (hTy h4 v0 = 5) (hCe h4 v0 2)).bind fun u7 =>
      (gd (hTy h4 v0 = 5) 0).bind fun _ =>
      (Reader_tellInt v0 1 99 h4).bind fun u8 =>
      (gd (hTy u8.2 u7 = 4) (hSet u8.2 u7 5 u8.1)).bind fun h9 =>
      (gd (hTy h9 v0 = 5) (hCe h9 v0 2)).bind fun u10 =>
      (gd (hTy h9 u10 = 4) (hCe h9 u10 5)).bind fun u11 =>
      if u11 = (-1 : Int) then
        some (0, h9)
      else
        some (1, h9)
/-- PrimeProofs$Reader.tellLine()Z -/
def Reader_tellLine (v0 : Int) (h : AH) : Option (Int × AH) :=
  (gd (hTy h v0 = 5) 0).bind fun _ =>
  (Reader_sortTold v0 h).bind fun u1 =>
  if u1 = (-1 : Int) then
    some (0, h)
  else
    (gd (hTy h v0 = 5) 0).bind fun _ =>
    (Reader_advance v0 h).bind fun h3 =>
    (gd (hTy h3 v0 = 5) 0).bind fun _ =>
    (Reader_tellInt v0 2 1000000000 h3).bind fun u4 =>
    if u4.1 = (-1 : Int) then
      some (0, u4.2)
    else
      (gd (hTy u4.2 v0 = 5) (hCe u4.2 v0 2)).bind fun u5 =>
      (gd (hTy u4.2 u5 = 4) 0).bind fun _ =>
      (Line_begin u5 u4.1 u1 u4.2).bind fun h7 =>
      if u1 = 1 then
        (gd (hTy h7 v0 = 5) 0).bind fun _ =>
        (Reader_tellPratt v0 h7).bind fun u8 =>
        if u8.1 = 0 then
          some (0, u8.2)
        else
          (gd (hTy u8.2 v0 = 5) 0).bind fun _ =>
          (Reader_tellEnd v0 u8.2).bind fun u9 =>
          if u9.1 = 0 then
            some (0, u9.2)
          else
            some (1, u9.2)
      else if u1 = 2 then
        (gd (hTy h7 v0 = 5) 0).bind fun _ =>
        (Reader_tellWord v0 6 h7).bind fun u10 =>
        if u10.1 = 0 then
          some (0, u10.2)
        else
          (gd (hTy u10.2 v0 = 5) (hCe u10.2 v0 2)).bind fun u11 =>
          (gd (hTy u10.2 u11 = 4) (hCe u10.2 u11 0)).bind fun u12 =>
          (gd (hTy u10.2 v0 = 5) 0).bind fun _ =>
          (Reader_tellRows v0 u12 (-1) u10.2).bind fun u13 =>
          if u13.1 = 0 then
            some (0, u13.2)
          else
            (gd (hTy u13.2 v0 = 5) 0).bind fun _ =>
            (Reader_tellEnd v0 u13.2).bind fun u14 =>
            if u14.1 = 0 then
              some (0, u14.2)
            else
              some (1, u14.2)
      else if u1 = 3 then
        (gd (hTy h7 v0 = 5) 0).bind fun _ =>
        (Reader_tellPQ v0 h7).bind fun u15 =>
        if u15.1 = 0 then
          some (0, u15.2)
        else
          (gd (hTy u15.2 v0 = 5) 0).bind fun _ =>
          (Reader_tellWord v0 6 u15.2).bind fun u16 =>
          if u16.1 = 0 then
            some (0, u16.2)
          else
            (gd (hTy u16.2 v0 = 5) (hCe u16.2 v0 2)).bind fun u17 =>
            (gd (hTy u16.2 u17 = 4) (hCe u16.2 u17 1)).bind fun u18 =>
            (gd (hTy u16.2 v0 = 5) 0).bind fun _ =>
            (Reader_tellRows v0 u18 0 u16.2).bind fun u19 =>
            if u19.1 = 0 then
              some (0, u19.2)
            else
              (gd (hTy u19.2 v0 = 5) 0).bind fun _ =>
              (Reader_tellEnd v0 u19.2).bind fun u20 =>
              if u20.1 = 0 then
                some (0, u20.2)
              else
                some (1, u20.2)
      else if u1 = 4 then
        (gd (hTy h7 v0 = 5) 0).bind fun _ =>
        (Reader_tellPQ v0 h7).bind fun u21 =>
        if u21.1 = 0 then
          some (0, u21.2)
        else
          (gd (hTy u21.2 v0 = 5) 0).bind fun _ =>
          (Reader_tellWord v0 8 u21.2).bind fun u22 =>
          if u22.1 = 0 then
            some (0, u22.2)
          else
            (gd (hTy u22.2 v0 = 5) (hCe u22.2 v0 2)).bind fun u23 =>
            (gd (hTy u22.2 u23 = 4) (hCe u22.2 u23 0)).bind fun u24 =>
            (gd (hTy u22.2 v0 = 5) 0).bind fun _ =>
            (Reader_tellRows v0 u24 (-1) u22.2).bind fun u25 =>
            if u25.1 = 0 then
              some (0, u25.2)
            else
              (gd (hTy u25.2 v0 = 5) 0).bind fun _ =>
              (Reader_tellWord v0 9 u25.2).bind fun u26 =>
              if u26.1 = 0 then
                some (0, u26.2)
              else
                (gd (hTy u26.2 v0 = 5) (hCe u26.2 v0 2)).bind fun u27 =>
                (gd (hTy u26.2 u27 = 4) (hCe u26.2 u27 1)).bind fun u28 =>
                (gd (hTy u26.2 v0 = 5) 0).bind fun _ =>
                (Reader_tellRows v0 u28 0 u26.2).bind fun u29 =>
                if u29.1 = 0 then
                  some (0, u29.2)
                else
                  (gd (hTy u29.2 v0 = 5) 0).bind fun _ =>
                  (Reader_tellEnd v0 u29.2).bind fun u30 =>
                  if u30.1 = 0 then
                    some (0, u30.2)
                  else
                    some (1, u30.2)
      else 
        (gd (hTy h7 v0 = 5) 0).bind fun _ =>
        (Reader_tellEnd v0 h7).bind fun u31 =>
        (gd (0 ≤ u31.1 ∧ u31.1 ≤ 1) 0).bind fun _ => some (u31.1, u31.2)
/-- PrimeProofs$Reader.pass(Z)I -/
def Reader_pass_18 : Nat → Int → Int → Int → Int → AH → Option (Int × AH)
  | 0, _, _, _, _, _ => none
  | fu + 1, v0, v1, v2, v3, h =>
    if v3 < (400 : Int) then
      (gd (hTy h v0 = 5) (hCe h v0 3)).bind fun u1 =>
      if u1 = 0 then
        some (v2, h)
      else
        (gd (hTy h v0 = 5) 0).bind fun _ =>
        (Reader_tellLine v0 h).bind fun u2 =>
        if u2.1 = 0 then
          (gd (hTy u2.2 v0 = 5) (hCe u2.2 v0 4)).bind fun u3 =>
          some (w32 ((-4) - u3), u2.2)
        else
          if v1 = 0 then
            Reader_pass_18 fu v0 v1 (w32 (v2 + 1)) (w32 (v3 + 1)) u2.2
          else
            (gd (hTy u2.2 v0 = 5) (hCe u2.2 v0 1)).bind fun u4 =>
            (gd (hTy u2.2 v0 = 5) (hCe u2.2 v0 2)).bind fun u5 =>
            (gd (hTy u2.2 u4 = 3) 0).bind fun _ =>
            (Ledger_append u4 u5 u2.2).bind fun u6 =>
            Reader_pass_18 fu v0 v1 (w32 (v2 + 1)) (w32 (v3 + 1)) u6.2
    else
      some (v2, h)
def Reader_pass (v0 : Int) (v1 : Int) (h : AH) : Option (Int × AH) :=
  (gd (hTy h v0 = 5) (hSet h v0 3 3)).bind fun h1 =>
  (gd (hTy h1 v0 = 5) (hSet h1 v0 5 0)).bind fun h2 =>
  (gd (hTy h2 v0 = 5) 0).bind fun _ =>
  (Reader_advance v0 h2).bind fun h4 =>
  Reader_pass_18 FU v0 v1 0 0 h4
/-- PrimeProofs$Checker.hasFault1(LPrimeProofs$Line;)Z -/
def Checker_hasFault1 (v0 : Int) (h : AH) : Option Int :=
  (gd (hTy h v0 = 4) (hCe h v0 3)).bind fun u1 =>
  if u1 = 0 then
    (gd (hTy h v0 = 4) (hCe h v0 2)).bind fun u2 =>
    if u2 < (100 : Int) then
      (gd (hTy h v0 = 4) (hCe h v0 2)).bind fun u3 =>
      (Arithmetic_isPrime u3).bind fun u4 =>
      if u4 = 0 then
        some 1
      else
        some 0
    else
      some 1
  else
    (gd (hTy h v0 = 4) (hCe h v0 2)).bind fun u5 =>
    (gd ((2 : Int) ≠ 0) (Int.tmod u5 2)).bind fun u6 =>
    if u6 = 0 then
      some 1
    else
      some 0
/-- PrimeProofs$Side.repeats()Z -/
def Side_repeats_12 (k2 : Int → Int → AH → Option Int) : Nat → Int → Int → Int → AH → Option Int
  | 0, _, _, _, _ => none
  | fu + 1, v0, v1, v2, h =>
    if v2 < v1 then
      (gd (hTy h v0 = 6) 0).bind fun _ =>
      (Side_cell v0 v1 0 h).bind fun u1 =>
      (gd (hTy h v0 = 6) 0).bind fun _ =>
      (Side_cell v0 v2 0 h).bind fun u2 =>
      if u1 = u2 then
        some 1
      else
        Side_repeats_12 k2 fu v0 v1 (w32 (v2 + 1)) h
    else
      k2 v0 (w32 (v1 + 1)) h
def Side_repeats_2 : Nat → Int → Int → AH → Option Int
  | 0, _, _, _ => none
  | fu + 1, v0, v1, h =>
    (gd (hTy h v0 = 6) (hCe h v0 1)).bind fun u1 =>
    if v1 < u1 then
      Side_repeats_12 (fun a0 a1 h0 => Side_repeats_2 fu a0 a1 h0) FU v0 v1 0 h
    else
      some 0
def Side_repeats (v0 : Int) (h : AH) : Option Int :=
  Side_repeats_2 FU v0 0 h
/-- PrimeProofs$Ledger.stands(IJ)Z -/
def Ledger_stands_11 : Nat → Int → Int → Int → Int → Int → AH → Option Int
  | 0, _, _, _, _, _, _ => none
  | fu + 1, v0, v1, v2, v4, v5, h =>
    (gd (hTy h v4 = 4) 0).bind fun _ =>
    (Line_rowCount v4 h).bind fun u1 =>
    if v5 < u1 then
      (gd (hTy h v4 = 4) 0).bind fun _ =>
      (Line_divisor v4 v5 h).bind fun u2 =>
      (gd (hTy h v0 = 3) 0).bind fun _ =>
      (Ledger_leastAhead v0 v2 v1 u2 h).bind fun u3 =>
      if u3 < 0 then
        some 0
      else
        Ledger_stands_11 fu v0 v1 v2 v4 (w32 (v5 + 1)) h
    else
      some 1
def Ledger_stands (v0 : Int) (v1 : Int) (v2 : Int) (h : AH) : Option Int :=
  (gd (hTy h v0 = 3) (hCe h v0 0)).bind fun u1 =>
  (gd (hTy h u1 = 26 ∧ 0 ≤ v1 ∧ v1 < hLn h u1) (hCe h u1 v1)).bind fun u2 =>
  Ledger_stands_11 FU v0 v1 v2 u2 0 h
/-- PrimeProofs$Checker.laterFault(LPrimeProofs$Line;)I -/
def Checker_laterFault_23 (v0 : Int) (v1 : Int) (h : AH) : Option Int :=
  if v1 = 0 then
    (Checker_upFault v0 h).bind fun u1 =>
    some u1
  else
    some v1
def Checker_laterFault (v0 : Int) (h : AH) : Option Int :=
  (gd (hTy h v0 = 4) (hCe h v0 3)).bind fun u1 =>
  if u1 = 0 then
    some 0
  else
    (Checker_productFault v0 h).bind fun u2 =>
    if u2 = 0 then
      (Checker_downFault v0 h).bind fun u3 =>
      Checker_laterFault_23 v0 u3 h
    else
      Checker_laterFault_23 v0 u2 h
/-- PrimeProofs$Ledger.faultOf(I)I -/
def Ledger_faultOf (v0 : Int) (v1 : Int) (h : AH) : Option (Int × AH) :=
  (gd (hTy h v0 = 3) (hCe h v0 0)).bind fun u1 =>
  (gd (hTy h u1 = 26 ∧ 0 ≤ v1 ∧ v1 < hLn h u1) (hCe h u1 v1)).bind fun u2 =>
  (Checker_hasFault1 u2 h).bind fun u3 =>
  if u3 = 0 then
    (gd (hTy h u2 = 4) (hCe h u2 0)).bind fun u4 =>
    (gd (hTy h u4 = 6) 0).bind fun _ =>
    (Side_repeats u4 h).bind fun u5 =>
    if u5 = 0 then
      (gd (hTy h u2 = 4) (hCe h u2 1)).bind fun u6 =>
      (gd (hTy h u6 = 6) 0).bind fun _ =>
      (Side_repeats u6 h).bind fun u7 =>
      if u7 = 0 then
        (gd (hTy h v0 = 3) (hCe h v0 4)).bind fun u8 =>
        (gd (hTy h v0 = 3) 0).bind fun _ =>
        (Ledger_stands v0 v1 u8 h).bind fun u9 =>
        if u9 = 0 then
          some (2, h)
        else
          (gd (hTy h u2 = 4) (hCe h u2 6)).bind fun u10 =>
          if u10 = (-1 : Int) then
            (Checker_laterFault u2 h).bind fun u11 =>
            (gd (hTy h u2 = 4) (hSet h u2 6 u11)).bind fun h12 =>
            (gd (hTy h12 u2 = 4) (hCe h12 u2 6)).bind fun u13 =>
            some (u13, h12)
          else
            (gd (hTy h u2 = 4) (hCe h u2 6)).bind fun u14 =>
            some (u14, h)
      else
        some (2, h)
    else
      some (2, h)
  else
    some (1, h)
/-- PrimeProofs$Ledger.checkFrom(I)V -/
def Ledger_checkFrom_6 : Nat → Int → Int → AH → Option AH
  | 0, _, _, _ => none
  | fu + 1, v0, v2, h =>
    (gd (hTy h v0 = 3) (hCe h v0 5)).bind fun u1 =>
    if v2 < u1 then
      (gd (hTy h v0 = 3) 0).bind fun _ =>
      (Ledger_has v0 v2 h).bind fun u2 =>
      if u2 = 0 then
        Ledger_checkFrom_6 fu v0 (w32 (v2 + 1)) h
      else
        (gd (hTy h v0 = 3) 0).bind fun _ =>
        (Ledger_faultOf v0 v2 h).bind fun u3 =>
        (gd (hTy u3.2 v0 = 3) 0).bind fun _ =>
        (Ledger_settle v0 v2 u3.1 u3.2).bind fun h5 =>
        Ledger_checkFrom_6 fu v0 (w32 (v2 + 1)) h5
    else
      some h
def Ledger_checkFrom (v0 : Int) (v1 : Int) (h : AH) : Option AH :=
  (Math_max v1 0).bind fun u1 =>
  Ledger_checkFrom_6 FU v0 u1 h
/-- PrimeProofs.read()I -/
def X_read_28 (v0 : Int) (v1 : Int) (v2 : Int) (h : AH) : Option (Int × AH) :=
  if 0 < v2 then
    (gd (hTy h v0 = 9) (hCe h v0 3)).bind fun u1 =>
    (gd (hTy h u1 = 5) 0).bind fun _ =>
    (Reader_pass u1 1 h).bind fun u2 =>
    (gd (hTy u2.2 v0 = 9) (hCe u2.2 v0 0)).bind fun u3 =>
    (gd (hTy u2.2 u3 = 3) 0).bind fun _ =>
    (Ledger_checkFrom u3 v1 u2.2).bind fun h5 =>
    (gd (hTy h5 v0 = 9) (hCe h5 v0 2)).bind fun u6 =>
    (gd (hTy h5 u6 = 8) (hSet h5 u6 1 0)).bind fun h7 =>
    some (v2, h7)
  else
    (gd (hTy h v0 = 9) (hCe h v0 2)).bind fun u8 =>
    (gd (hTy h u8 = 8) (hSet h u8 1 0)).bind fun h9 =>
    some (v2, h9)
def X_read (v0 : Int) (h : AH) : Option (Int × AH) :=
  (gd (hTy h v0 = 9) (hCe h v0 0)).bind fun u1 =>
  (gd (hTy h u1 = 3) (hCe h u1 5)).bind fun u2 =>
  (gd (hTy h v0 = 9) (hCe h v0 3)).bind fun u3 =>
  (gd (hTy h u3 = 5) 0).bind fun _ =>
  (Reader_pass u3 0 h).bind fun u4 =>
  if (w32 (60 - u2)) < u4.1 then
    X_read_28 v0 u2 (-3) u4.2
  else
    X_read_28 v0 u2 u4.1 u4.2
/-- PrimeProofs.isPQ(I)Z -/
def X_isPQ (v0 : Int) : Option Int :=
  if v0 < (1 : Int) then
    some 0
  else
    if (99 : Int) < v0 then
      some 0
    else
      some 1
/-- PrimeProofs.set(III)I -/
def X_set_125 (v0 : Int) (v1 : Int) (v4 : Int) (v5 : Int) (h : AH) : Option (Int × AH) :=
  (gd (hTy h v4 = 4) (hSet h v4 6 (-1))).bind fun h1 =>
  (gd (hTy h1 v0 = 9) (hCe h1 v0 0)).bind fun u2 =>
  (gd (hTy h1 u2 = 3) 0).bind fun _ =>
  (Ledger_checkFrom u2 v1 h1).bind fun h4 =>
  some (v5, h4)
def X_set_87 (v0 : Int) (v1 : Int) (v2 : Int) (v3 : Int) (v4 : Int) (h : AH) : Option (Int × AH) :=
  if v2 = (2 : Int) then
    (gd (hTy h v4 = 4) 0).bind fun _ =>
    (Line_hasPQ v4 h).bind fun u1 =>
    if u1 = 0 then
      some ((-1), h)
    else
      (X_isPQ v3).bind fun u2 =>
      if u2 = 0 then
        some ((-1), h)
      else
        (gd (hTy h v4 = 4) (hCe h v4 5)).bind fun u3 =>
        (gd (hTy h v4 = 4) (hSet h v4 5 v3)).bind fun h4 =>
        X_set_125 v0 v1 v4 u3 h4
  else
    some ((-1), h)
def X_set_51 (v0 : Int) (v1 : Int) (v2 : Int) (v3 : Int) (v4 : Int) (h : AH) : Option (Int × AH) :=
  if v2 = (1 : Int) then
    (gd (hTy h v4 = 4) 0).bind fun _ =>
    (Line_hasPQ v4 h).bind fun u1 =>
    if u1 = 0 then
      X_set_87 v0 v1 v2 v3 v4 h
    else
      (X_isPQ v3).bind fun u2 =>
      if u2 = 0 then
        X_set_87 v0 v1 v2 v3 v4 h
      else
        (gd (hTy h v4 = 4) (hCe h v4 4)).bind fun u3 =>
        (gd (hTy h v4 = 4) (hSet h v4 4 v3)).bind fun h4 =>
        X_set_125 v0 v1 v4 u3 h4
  else
    X_set_87 v0 v1 v2 v3 v4 h
def X_set (v0 : Int) (v1 : Int) (v2 : Int) (v3 : Int) (h : AH) : Option (Int × AH) :=
  (gd (hTy h v0 = 9) (hCe h v0 0)).bind fun u1 =>
  (gd (hTy h u1 = 3) 0).bind fun _ =>
  (Ledger_has u1 v1 h).bind fun u2 =>
  if u2 = 0 then
    some ((-1), h)
  else
    (gd (hTy h v0 = 9) (hCe h v0 0)).bind fun u3 =>
    (gd (hTy h u3 = 3) (hCe h u3 0)).bind fun u4 =>
    (gd (hTy h u4 = 26 ∧ 0 ≤ v1 ∧ v1 < hLn h u4) (hCe h u4 v1)).bind fun u5 =>
    if v2 = 0 then
      (Arithmetic_isNumber v3).bind fun u6 =>
      if u6 = 0 then
        X_set_51 v0 v1 v2 v3 u5 h
      else
        (gd (hTy h u5 = 4) (hCe h u5 2)).bind fun u7 =>
        (gd (hTy h u5 = 4) (hSet h u5 2 v3)).bind fun h8 =>
        X_set_125 v0 v1 u5 u7 h8
    else
      X_set_51 v0 v1 v2 v3 u5 h
/-- PrimeProofs$Line.side(Z)LPrimeProofs$Side; -/
def Line_side (v0 : Int) (v1 : Int) (h : AH) : Option Int :=
  if v1 = 0 then
    (gd (hTy h v0 = 4) (hCe h v0 0)).bind fun u1 =>
    some u1
  else
    (gd (hTy h v0 = 4) (hCe h v0 1)).bind fun u2 =>
    some u2
/-- PrimeProofs$Side.has(I)Z -/
def Side_has (v0 : Int) (v1 : Int) (h : AH) : Option Int :=
  if v1 < 0 then
    some 0
  else
    (gd (hTy h v0 = 6) (hCe h v0 1)).bind fun u1 =>
    if v1 < u1 then
      some 1
    else
      some 0
/-- PrimeProofs$Ledger.hasRow(IZI)Z -/
def Ledger_hasRow (v0 : Int) (v1 : Int) (v2 : Int) (v3 : Int) (h : AH) : Option Int :=
  (gd (hTy h v0 = 3) 0).bind fun _ =>
  (Ledger_has v0 v1 h).bind fun u1 =>
  if u1 = 0 then
    some 0
  else
    (gd (hTy h v0 = 3) (hCe h v0 0)).bind fun u2 =>
    (gd (hTy h u2 = 26 ∧ 0 ≤ v1 ∧ v1 < hLn h u2) (hCe h u2 v1)).bind fun u3 =>
    (gd (hTy h u3 = 4) 0).bind fun _ =>
    (Line_side u3 v2 h).bind fun u4 =>
    (gd (hTy h u4 = 6) 0).bind fun _ =>
    (Side_has u4 v3 h).bind fun u5 =>
    if u5 = 0 then
      some 0
    else
      some 1
/-- PrimeProofs$Side.fits(ZII)Z -/
def Side_fits (v0 : Int) (v1 : Int) (v2 : Int) : Option Int :=
  if v1 = 0 then
    (Arithmetic_isNumber v2).bind fun u1 =>
    (gd (0 ≤ u1 ∧ u1 ≤ 1) 0).bind fun _ => some u1
  else if v1 = 1 then
    if v2 < (1 : Int) then
      some 0
    else
      if (30 : Int) < v2 then
        some 0
      else
        some 1
  else if v1 = 2 then
    if v0 = 0 then
      if v2 < (2 : Int) then
        some 0
      else
        if (999 : Int) < v2 then
          some 0
        else
          some 1
    else
      some 0
  else 
    some 0
/-- PrimeProofs.alter(IZIII)I -/
def X_alter (v0 : Int) (v1 : Int) (v2 : Int) (v3 : Int) (v4 : Int) (v5 : Int) (h : AH) : Option (Int × AH) :=
  (gd (hTy h v0 = 9) (hCe h v0 0)).bind fun u1 =>
  (gd (hTy h u1 = 3) 0).bind fun _ =>
  (Ledger_hasRow u1 v1 v2 v3 h).bind fun u2 =>
  if u2 = 0 then
    some ((-1), h)
  else
    (Side_fits v2 v4 v5).bind fun u3 =>
    if u3 = 0 then
      some ((-1), h)
    else
      (gd (hTy h v0 = 9) (hCe h v0 0)).bind fun u4 =>
      (gd (hTy h u4 = 3) (hCe h u4 0)).bind fun u5 =>
      (gd (hTy h u5 = 26 ∧ 0 ≤ v1 ∧ v1 < hLn h u5) (hCe h u5 v1)).bind fun u6 =>
      (gd (hTy h u6 = 4) 0).bind fun _ =>
      (Line_side u6 v2 h).bind fun u7 =>
      (gd (hTy h u7 = 6) 0).bind fun _ =>
      (Side_cell u7 v3 v4 h).bind fun u8 =>
      (gd (hTy h u7 = 6) 0).bind fun _ =>
      (Side_put u7 v3 v4 v5 h).bind fun h10 =>
      (gd (hTy h10 u6 = 4) (hSet h10 u6 6 (-1))).bind fun h11 =>
      (gd (hTy h11 v0 = 9) (hCe h11 v0 0)).bind fun u12 =>
      (gd (hTy h11 u12 = 3) 0).bind fun _ =>
      (Ledger_checkFrom u12 v1 h11).bind fun h14 =>
      some (u8, h14)
/-- PrimeProofs$Side.takeOut(I)V -/
def Side_takeOut_12 : Nat → Int → Int → AH → Option AH
  | 0, _, _, _ => none
  | fu + 1, v0, v2, h =>
    (gd (hTy h v0 = 6) (hCe h v0 1)).bind fun u1 =>
    if (w32 (v2 + 3)) < (w32 (u1 * 3)) then
      (gd (hTy h v0 = 6) (hCe h v0 0)).bind fun u2 =>
      (gd (hTy h v0 = 6) (hCe h v0 0)).bind fun u3 =>
      (gd (hTy h u3 = 21 ∧ 0 ≤ (w32 (v2 + 3)) ∧ (w32 (v2 + 3)) < hLn h u3) (hCe h u3 (w32 (v2 + 3)))).bind fun u4 =>
      (gd (hTy h u2 = 21 ∧ 0 ≤ v2 ∧ v2 < hLn h u2) (hSet h u2 v2 u4)).bind fun h5 =>
      Side_takeOut_12 fu v0 (w32 (v2 + 1)) h5
    else
      (gd (hTy h v0 = 6) (hCe h v0 1)).bind fun u6 =>
      (gd (hTy h v0 = 6) (hSet h v0 1 (w32 (u6 - 1)))).bind fun h7 =>
      some h7
def Side_takeOut (v0 : Int) (v1 : Int) (h : AH) : Option AH :=
  (gd (hTy h v0 = 6) 0).bind fun _ =>
  (Side_has v0 v1 h).bind fun u1 =>
  if u1 = 0 then
    some h
  else
    Side_takeOut_12 FU v0 (w32 (v1 * 3)) h
/-- PrimeProofs.cut(IZI)I -/
def X_cut (v0 : Int) (v1 : Int) (v2 : Int) (v3 : Int) (h : AH) : Option (Int × AH) :=
  (gd (hTy h v0 = 9) (hCe h v0 0)).bind fun u1 =>
  (gd (hTy h u1 = 3) 0).bind fun _ =>
  (Ledger_hasRow u1 v1 v2 v3 h).bind fun u2 =>
  if u2 = 0 then
    some ((-1), h)
  else
    (gd (hTy h v0 = 9) (hCe h v0 0)).bind fun u3 =>
    (gd (hTy h u3 = 3) (hCe h u3 0)).bind fun u4 =>
    (gd (hTy h u4 = 26 ∧ 0 ≤ v1 ∧ v1 < hLn h u4) (hCe h u4 v1)).bind fun u5 =>
    (gd (hTy h u5 = 4) 0).bind fun _ =>
    (Line_side u5 v2 h).bind fun u6 =>
    (gd (hTy h u6 = 6) 0).bind fun _ =>
    (Side_takeOut u6 v3 h).bind fun h8 =>
    (gd (hTy h8 u5 = 4) (hSet h8 u5 6 (-1))).bind fun h9 =>
    (gd (hTy h9 v0 = 9) (hCe h9 v0 0)).bind fun u10 =>
    (gd (hTy h9 u10 = 3) 0).bind fun _ =>
    (Ledger_checkFrom u10 v1 h9).bind fun h12 =>
    (gd (hTy h12 u6 = 6) (hCe h12 u6 1)).bind fun u13 =>
    some (u13, h12)
/-- java/lang/Math.abs(I)I -/
def Math_abs (v0 : Int) : Option Int :=
  if v0 < 0 then
    some (w32 (-v0))
  else
    some v0
/-- PrimeProofs$Ledger.shift(II)V -/
def Ledger_shift_47 : Nat → Int → Int → Int → Int → Int → Int → Int → AH → Option AH
  | 0, _, _, _, _, _, _, _, _ => none
  | fu + 1, v0, v1, v2, v3, v4, v5, v6, h =>
    if v6 < v5 then
      (gd (hTy h v0 = 3) (hCe h v0 0)).bind fun u1 =>
      (gd (hTy h v0 = 3) (hCe h v0 0)).bind fun u2 =>
      (gd (hTy h u2 = 26 ∧ 0 ≤ (w32 (v1 + (w32 ((w32 (v6 + 1)) * v4)))) ∧ (w32 (v1 + (w32 ((w32 (v6 + 1)) * v4)))) < hLn h u2) (hCe h u2 (w32 (v1 + (w32 ((w32 (v6 + 1)) * v4)))))).bind fun u3 =>
      (gd ((hTy h u1 = 26 ∧ 0 ≤ (w32 (v1 + (w32 (v6 * v4)))) ∧ (w32 (v1 + (w32 (v6 * v4)))) < hLn h u1) ∧ (u3 < 0 ∨ hTy h u3 = 4)) (hSet h u1 (w32 (v1 + (w32 (v6 * v4)))) u3)).bind fun h4 =>
      Ledger_shift_47 fu v0 v1 v2 v3 v4 v5 (w32 (v6 + 1)) h4
    else
      (gd (hTy h v0 = 3) (hCe h v0 0)).bind fun u5 =>
      (gd ((hTy h u5 = 26 ∧ 0 ≤ v2 ∧ v2 < hLn h u5) ∧ (v3 < 0 ∨ hTy h v3 = 4)) (hSet h u5 v2 v3)).bind fun h6 =>
      some h6
def Ledger_shift_34 (v0 : Int) (v1 : Int) (v2 : Int) (v3 : Int) (s0 : Int) (h : AH) : Option AH :=
  (Math_abs (w32 (v2 - v1))).bind fun u1 =>
  Ledger_shift_47 FU v0 v1 v2 v3 s0 u1 0 h
def Ledger_shift (v0 : Int) (v1 : Int) (v2 : Int) (h : AH) : Option AH :=
  (gd (hTy h v0 = 3) 0).bind fun _ =>
  (Ledger_has v0 v1 h).bind fun u1 =>
  if u1 = 0 then
    some h
  else
    (gd (hTy h v0 = 3) 0).bind fun _ =>
    (Ledger_has v0 v2 h).bind fun u2 =>
    if u2 = 0 then
      some h
    else
      (gd (hTy h v0 = 3) (hCe h v0 0)).bind fun u3 =>
      (gd (hTy h u3 = 26 ∧ 0 ≤ v1 ∧ v1 < hLn h u3) (hCe h u3 v1)).bind fun u4 =>
      if v1 < v2 then
        Ledger_shift_34 v0 v1 v2 u4 1 h
      else
        Ledger_shift_34 v0 v1 v2 u4 (-1) h
/-- PrimeProofs.move(II)I -/
def X_move (v0 : Int) (v1 : Int) (v2 : Int) (h : AH) : Option (Int × AH) :=
  (gd (hTy h v0 = 9) (hCe h v0 0)).bind fun u1 =>
  (gd (hTy h u1 = 3) 0).bind fun _ =>
  (Ledger_has u1 v1 h).bind fun u2 =>
  if u2 = 0 then
    some ((-1), h)
  else
    (gd (hTy h v0 = 9) (hCe h v0 0)).bind fun u3 =>
    (gd (hTy h u3 = 3) 0).bind fun _ =>
    (Ledger_has u3 v2 h).bind fun u4 =>
    if u4 = 0 then
      some ((-1), h)
    else
      if v1 = v2 then
        some ((-1), h)
      else
        (gd (hTy h v0 = 9) (hCe h v0 0)).bind fun u5 =>
        (gd (hTy h u5 = 3) 0).bind fun _ =>
        (Ledger_shift u5 v1 v2 h).bind fun h7 =>
        (gd (hTy h7 v0 = 9) (hCe h7 v0 0)).bind fun u8 =>
        (Math_min v1 v2).bind fun u9 =>
        (gd (hTy h7 u8 = 3) 0).bind fun _ =>
        (Ledger_checkFrom u8 u9 h7).bind fun h11 =>
        (gd (hTy h11 v0 = 9) (hCe h11 v0 0)).bind fun u12 =>
        (gd (hTy h11 u12 = 3) 0).bind fun _ =>
        (Ledger_isRight u12 v2 h11).bind fun u13 =>
        if u13 = 0 then
          some (0, h11)
        else
          some (1, h11)
/-- PrimeProofs$Finder.laidAlone(II)LPrimeProofs$Line; -/
def Finder_laidAlone (v0 : Int) (v1 : Int) (v2 : Int) (h : AH) : Option (Int × AH) :=
  (gd (hTy h v0 = 2) 0).bind fun _ =>
  (Finder_draftAt v0 0 h).bind fun u1 =>
  if u1.1 < 0 then
    some ((-1), u1.2)
  else
    (gd (hTy u1.2 v0 = 2) 0).bind fun _ =>
    (Finder_lay v0 u1.1 v1 v2 u1.2).bind fun u2 =>
    if u2.1 = 0 then
      some ((-1), u2.2)
    else
      some (u1.1, u2.2)
/-- PrimeProofs$Finder.foundAlone(II)LPrimeProofs$Line; -/
def Finder_foundAlone (v0 : Int) (v1 : Int) (v2 : Int) (h : AH) : Option (Int × AH) :=
  (gd (hTy h v0 = 2) 0).bind fun _ =>
  (Finder_laidAlone v0 v1 v2 h).bind fun u1 =>
  if u1.1 < 0 then
    some ((-1), u1.2)
  else
    (Finder_seek u1.1 u1.2).bind fun u2 =>
    if u2.1 = 0 then
      some ((-1), u2.2)
    else
      some (u1.1, u2.2)
/-- PrimeProofs.mend(I)I -/
def X_mend (v0 : Int) (v1 : Int) (h : AH) : Option (Int × AH) :=
  (gd (hTy h v0 = 9) (hCe h v0 0)).bind fun u1 =>
  (gd (hTy h u1 = 3) 0).bind fun _ =>
  (Ledger_has u1 v1 h).bind fun u2 =>
  if u2 = 0 then
    some ((-1), h)
  else
    (gd (hTy h v0 = 9) (hCe h v0 0)).bind fun u3 =>
    (gd (hTy h u3 = 3) (hCe h u3 0)).bind fun u4 =>
    (gd (hTy h u4 = 26 ∧ 0 ≤ v1 ∧ v1 < hLn h u4) (hCe h u4 v1)).bind fun u5 =>
    (gd (hTy h v0 = 9) (hCe h v0 1)).bind fun u6 =>
    (gd (hTy h u5 = 4) (hCe h u5 2)).bind fun u7 =>
    (gd (hTy h u5 = 4) (hCe h u5 3)).bind fun u8 =>
    (gd (hTy h u6 = 2) 0).bind fun _ =>
    (Finder_foundAlone u6 u7 u8 h).bind fun u9 =>
    if u9.1 < 0 then
      some ((-2), u9.2)
    else
      (gd (hTy u9.2 u5 = 4) 0).bind fun _ =>
      (Line_copy u5 u9.1 u9.2).bind fun h11 =>
      (gd (hTy h11 v0 = 9) (hCe h11 v0 0)).bind fun u12 =>
      (gd (hTy h11 u12 = 3) 0).bind fun _ =>
      (Ledger_checkFrom u12 v1 h11).bind fun h14 =>
      (gd (hTy h14 v0 = 9) (hCe h14 v0 0)).bind fun u15 =>
      (gd (hTy h14 u15 = 3) (hCe h14 u15 1)).bind fun u16 =>
      (gd (hTy h14 u16 = 21 ∧ 0 ≤ v1 ∧ v1 < hLn h14 u16) (hCe h14 u16 v1)).bind fun u17 =>
      some (u17, h14)
/-- PrimeProofs$Ledger.keepOnly(J)V -/
def Ledger_keepOnly_5 : Nat → Int → Int → Int → Int → AH → Option AH
  | 0, _, _, _, _, _ => none
  | fu + 1, v0, v1, v3, v4, h =>
    (gd (hTy h v0 = 3) (hCe h v0 5)).bind fun u1 =>
    if v4 < u1 then
      (Ledger_isIn v1 v4).bind fun u2 =>
      if u2 = 0 then
        Ledger_keepOnly_5 fu v0 v1 v3 (w32 (v4 + 1)) h
      else
        (gd (hTy h v0 = 3) (hCe h v0 0)).bind fun u3 =>
        (gd (hTy h u3 = 26 ∧ 0 ≤ v3 ∧ v3 < hLn h u3) (hCe h u3 v3)).bind fun u4 =>
        (gd (hTy h v0 = 3) (hCe h v0 0)).bind fun u5 =>
        (gd (hTy h v0 = 3) (hCe h v0 0)).bind fun u6 =>
        (gd (hTy h u6 = 26 ∧ 0 ≤ v4 ∧ v4 < hLn h u6) (hCe h u6 v4)).bind fun u7 =>
        (gd ((hTy h u5 = 26 ∧ 0 ≤ v3 ∧ v3 < hLn h u5) ∧ (u7 < 0 ∨ hTy h u7 = 4)) (hSet h u5 v3 u7)).bind fun h8 =>
        (gd (hTy h8 v0 = 3) (hCe h8 v0 0)).bind fun u9 =>
        (gd ((hTy h8 u9 = 26 ∧ 0 ≤ v4 ∧ v4 < hLn h8 u9) ∧ (u4 < 0 ∨ hTy h8 u4 = 4)) (hSet h8 u9 v4 u4)).bind fun h10 =>
        Ledger_keepOnly_5 fu v0 v1 (w32 (v3 + 1)) (w32 (v4 + 1)) h10
    else
      (gd (hTy h v0 = 3) 0).bind fun _ =>
      (Ledger_shorten v0 v3 h).bind fun h12 =>
      some h12
def Ledger_keepOnly (v0 : Int) (v1 : Int) (h : AH) : Option AH :=
  Ledger_keepOnly_5 FU v0 v1 0 0 h
/-- PrimeProofs.prune(I)I -/
def X_prune (v0 : Int) (v1 : Int) (h : AH) : Option (Int × AH) :=
  (gd (hTy h v0 = 9) (hCe h v0 0)).bind fun u1 =>
  (gd (hTy h u1 = 3) 0).bind fun _ =>
  (Ledger_has u1 v1 h).bind fun u2 =>
  if u2 = 0 then
    some ((-1), h)
  else
    (gd (hTy h v0 = 9) (hCe h v0 0)).bind fun u3 =>
    (gd (hTy h u3 = 3) 0).bind fun _ =>
    (Ledger_isRight u3 v1 h).bind fun u4 =>
    if u4 = 0 then
      some ((-2), h)
    else
      (gd (hTy h v0 = 9) (hCe h v0 0)).bind fun u5 =>
      (gd (hTy h v0 = 9) (hCe h v0 0)).bind fun u6 =>
      (gd (hTy h u6 = 3) (hCe h u6 2)).bind fun u7 =>
      (gd (hTy h u7 = 22 ∧ 0 ≤ v1 ∧ v1 < hLn h u7) (hCe h u7 v1)).bind fun u8 =>
      (gd (hTy h u5 = 3) 0).bind fun _ =>
      (Ledger_keepOnly u5 u8 h).bind fun h10 =>
      (gd (hTy h10 v0 = 9) (hCe h10 v0 0)).bind fun u11 =>
      (gd (hTy h10 u11 = 3) 0).bind fun _ =>
      (Ledger_checkFrom u11 0 h10).bind fun h13 =>
      (gd (hTy h13 v0 = 9) (hCe h13 v0 0)).bind fun u14 =>
      (gd (hTy h13 u14 = 3) (hCe h13 u14 5)).bind fun u15 =>
      some (u15, h13)
/-- PrimeProofs.drop()I -/
def X_drop (v0 : Int) (h : AH) : Option (Int × AH) :=
  (gd (hTy h v0 = 9) (hCe h v0 0)).bind fun u1 =>
  (gd (hTy h u1 = 3) (hCe h u1 5)).bind fun u2 =>
  if u2 = 0 then
    some ((-1), h)
  else
    (gd (hTy h v0 = 9) (hCe h v0 0)).bind fun u3 =>
    (gd (hTy h v0 = 9) (hCe h v0 0)).bind fun u4 =>
    (gd (hTy h u4 = 3) (hCe h u4 5)).bind fun u5 =>
    (gd (hTy h u3 = 3) 0).bind fun _ =>
    (Ledger_shorten u3 (w32 (u5 - 1)) h).bind fun h7 =>
    (gd (hTy h7 v0 = 9) (hCe h7 v0 0)).bind fun u8 =>
    (gd (hTy h7 u8 = 3) (hCe h7 u8 5)).bind fun u9 =>
    some (u9, h7)
/-- PrimeProofs.clear()I -/
def X_clear (v0 : Int) (h : AH) : Option (Int × AH) :=
  (gd (hTy h v0 = 9) (hCe h v0 0)).bind fun u1 =>
  (gd (hTy h u1 = 3) (hCe h u1 5)).bind fun u2 =>
  (gd (hTy h v0 = 9) (hCe h v0 0)).bind fun u3 =>
  (gd (hTy h u3 = 3) 0).bind fun _ =>
  (Ledger_shorten u3 0 h).bind fun h5 =>
  some (u2, h5)
/-- PrimeProofs.line(II)I -/
def X_line (v0 : Int) (v1 : Int) (v2 : Int) (h : AH) : Option Int :=
  (gd (hTy h v0 = 9) (hCe h v0 0)).bind fun u1 =>
  (gd (hTy h u1 = 3) 0).bind fun _ =>
  (Ledger_has u1 v1 h).bind fun u2 =>
  if u2 = 0 then
    some (-1)
  else
    (gd (hTy h v0 = 9) (hCe h v0 0)).bind fun u3 =>
    (gd (hTy h u3 = 3) (hCe h u3 0)).bind fun u4 =>
    (gd (hTy h u4 = 26 ∧ 0 ≤ v1 ∧ v1 < hLn h u4) (hCe h u4 v1)).bind fun u5 =>
    if v2 = 0 then
      (gd (hTy h u5 = 4) (hCe h u5 2)).bind fun u6 =>
      some u6
    else if v2 = 1 then
      (gd (hTy h u5 = 4) (hCe h u5 3)).bind fun u7 =>
      some u7
    else if v2 = 2 then
      (gd (hTy h u5 = 4) (hCe h u5 4)).bind fun u8 =>
      some u8
    else if v2 = 3 then
      (gd (hTy h u5 = 4) (hCe h u5 5)).bind fun u9 =>
      some u9
    else if v2 = 4 then
      (gd (hTy h u5 = 4) (hCe h u5 0)).bind fun u10 =>
      (gd (hTy h u10 = 6) (hCe h u10 1)).bind fun u11 =>
      some u11
    else if v2 = 5 then
      (gd (hTy h u5 = 4) (hCe h u5 1)).bind fun u12 =>
      (gd (hTy h u12 = 6) (hCe h u12 1)).bind fun u13 =>
      some u13
    else if v2 = 6 then
      (gd (hTy h v0 = 9) (hCe h v0 0)).bind fun u14 =>
      (gd (hTy h u14 = 3) (hCe h u14 1)).bind fun u15 =>
      (gd (hTy h u15 = 21 ∧ 0 ≤ v1 ∧ v1 < hLn h u15) (hCe h u15 v1)).bind fun u16 =>
      some u16
    else 
      some (-1)
/-- PrimeProofs.row(IZII)I -/
def X_row (v0 : Int) (v1 : Int) (v2 : Int) (v3 : Int) (v4 : Int) (h : AH) : Option Int :=
  (gd (hTy h v0 = 9) (hCe h v0 0)).bind fun u1 =>
  (gd (hTy h u1 = 3) 0).bind fun _ =>
  (Ledger_hasRow u1 v1 v2 v3 h).bind fun u2 =>
  if u2 = 0 then
    some (-1)
  else
    if v4 < 0 then
      some (-1)
    else
      if (3 : Int) < v4 then
        some (-1)
      else
        (gd (hTy h v0 = 9) (hCe h v0 0)).bind fun u3 =>
        (gd (hTy h u3 = 3) (hCe h u3 0)).bind fun u4 =>
        (gd (hTy h u4 = 26 ∧ 0 ≤ v1 ∧ v1 < hLn h u4) (hCe h u4 v1)).bind fun u5 =>
        (gd (hTy h u5 = 4) 0).bind fun _ =>
        (Line_side u5 v2 h).bind fun u6 =>
        if v4 < (3 : Int) then
          (gd (hTy h u6 = 6) 0).bind fun _ =>
          (Side_cell u6 v3 v4 h).bind fun u7 =>
          some u7
        else
          (gd (hTy h v0 = 9) (hCe h v0 0)).bind fun u8 =>
          (gd (hTy h v0 = 9) (hCe h v0 0)).bind fun u9 =>
          (gd (hTy h u9 = 3) (hCe h u9 4)).bind fun u10 =>
          (gd (hTy h u6 = 6) 0).bind fun _ =>
          (Side_cell u6 v3 0 h).bind fun u11 =>
          (gd (hTy h u8 = 3) 0).bind fun _ =>
          (Ledger_leastAhead u8 u10 v1 u11 h).bind fun u12 =>
          if u12 < 0 then
            some (-2)
          else
            some u12
/-- PrimeProofs.right()J -/
def X_right (v0 : Int) (h : AH) : Option Int :=
  (gd (hTy h v0 = 9) (hCe h v0 0)).bind fun u1 =>
  (gd (hTy h u1 = 3) (hCe h u1 4)).bind fun u2 =>
  some u2
/-- PrimeProofs.rests(I)J -/
def X_rests (v0 : Int) (v1 : Int) (h : AH) : Option Int :=
  (gd (hTy h v0 = 9) (hCe h v0 0)).bind fun u1 =>
  (gd (hTy h u1 = 3) 0).bind fun _ =>
  (Ledger_has u1 v1 h).bind fun u2 =>
  if u2 = 0 then
    some (-1)
  else
    (gd (hTy h v0 = 9) (hCe h v0 0)).bind fun u3 =>
    (gd (hTy h u3 = 3) 0).bind fun _ =>
    (Ledger_isRight u3 v1 h).bind fun u4 =>
    if u4 = 0 then
      some (-2)
    else
      (gd (hTy h v0 = 9) (hCe h v0 0)).bind fun u5 =>
      (gd (hTy h u5 = 3) (hCe h u5 2)).bind fun u6 =>
      (gd (hTy h u6 = 22 ∧ 0 ≤ v1 ∧ v1 < hLn h u6) (hCe h u6 v1)).bind fun u7 =>
      some u7
/-- PrimeProofs.deep(I)I -/
def X_deep (v0 : Int) (v1 : Int) (h : AH) : Option Int :=
  (gd (hTy h v0 = 9) (hCe h v0 0)).bind fun u1 =>
  (gd (hTy h u1 = 3) 0).bind fun _ =>
  (Ledger_has u1 v1 h).bind fun u2 =>
  if u2 = 0 then
    some (-1)
  else
    (gd (hTy h v0 = 9) (hCe h v0 0)).bind fun u3 =>
    (gd (hTy h u3 = 3) 0).bind fun _ =>
    (Ledger_isRight u3 v1 h).bind fun u4 =>
    if u4 = 0 then
      some (-2)
    else
      (gd (hTy h v0 = 9) (hCe h v0 0)).bind fun u5 =>
      (gd (hTy h u5 = 3) (hCe h u5 3)).bind fun u6 =>
      (gd (hTy h u6 = 21 ∧ 0 ≤ v1 ∧ v1 < hLn h u6) (hCe h u6 v1)).bind fun u7 =>
      some u7
/-- PrimeProofs$Ledger.fallen(I)J -/
def Ledger_fallen_18 : Nat → Int → Int → Int → AH → Option Int
  | 0, _, _, _, _ => none
  | fu + 1, v0, v2, v4, h =>
    (gd (hTy h v0 = 3) (hCe h v0 5)).bind fun u1 =>
    if v4 < u1 then
      (Ledger_isIn v2 v4).bind fun u2 =>
      if u2 = 0 then
        Ledger_fallen_18 fu v0 v2 (w32 (v4 + 1)) h
      else
        (gd (hTy h v0 = 3) 0).bind fun _ =>
        (Ledger_stands v0 v4 v2 h).bind fun u3 =>
        if u3 = 0 then
          Ledger_fallen_18 fu v0 (andL v2 (xorL (shlL 1 v4) (-1))) (w32 (v4 + 1)) h
        else
          Ledger_fallen_18 fu v0 v2 (w32 (v4 + 1)) h
    else
      (gd (hTy h v0 = 3) (hCe h v0 4)).bind fun u4 =>
      some (andL u4 (xorL v2 (-1)))
def Ledger_fallen (v0 : Int) (v1 : Int) (h : AH) : Option Int :=
  (gd (hTy h v0 = 3) (hCe h v0 4)).bind fun u1 =>
  Ledger_fallen_18 FU v0 (andL u1 (xorL (shlL 1 v1) (-1))) (w32 (v1 + 1)) h
/-- PrimeProofs.falls(I)J -/
def X_falls (v0 : Int) (v1 : Int) (h : AH) : Option Int :=
  (gd (hTy h v0 = 9) (hCe h v0 0)).bind fun u1 =>
  (gd (hTy h u1 = 3) 0).bind fun _ =>
  (Ledger_has u1 v1 h).bind fun u2 =>
  if u2 = 0 then
    some (-1)
  else
    (gd (hTy h v0 = 9) (hCe h v0 0)).bind fun u3 =>
    (gd (hTy h u3 = 3) 0).bind fun _ =>
    (Ledger_isRight u3 v1 h).bind fun u4 =>
    if u4 = 0 then
      some (-2)
    else
      (gd (hTy h v0 = 9) (hCe h v0 0)).bind fun u5 =>
      (gd (hTy h u5 = 3) 0).bind fun _ =>
      (Ledger_fallen u5 v1 h).bind fun u6 =>
      some u6
/-- PrimeProofs$Checker.powerCost(I)I -/
def Checker_powerCost_5 : Nat → Int → Int → Option Int
  | 0, _, _ => none
  | fu + 1, v1, v2 =>
    if 0 < v2 then
      Checker_powerCost_5 fu (w32 (v1 + (w32 (1 + (andI v2 1))))) (shrI v2 1)
    else
      some v1
def Checker_powerCost (v0 : Int) : Option Int :=
  Checker_powerCost_5 FU (-2) v0
/-- PrimeProofs$Checker.costOf(LPrimeProofs$Line;)I -/
def Checker_costOf_11 : Nat → Int → Int → Int → Int → AH → Option Int
  | 0, _, _, _, _, _ => none
  | fu + 1, v0, v1, v2, v3, h =>
    (gd (hTy h v0 = 4) (hCe h v0 0)).bind fun u1 =>
    (gd (hTy h u1 = 6) (hCe h u1 1)).bind fun u2 =>
    if v3 < u2 then
      (gd (hTy h v0 = 4) (hCe h v0 0)).bind fun u3 =>
      (gd (hTy h u3 = 6) 0).bind fun _ =>
      (Side_cell u3 v3 0 h).bind fun u4 =>
      if 0 < u4 then
        (Checker_powerCost v2).bind fun u5 =>
        (gd (u4 ≠ 0) (w32 (Int.tdiv v2 u4))).bind fun u6 =>
        (Checker_powerCost u6).bind fun u7 =>
        Checker_costOf_11 fu v0 (w32 (v1 + (w32 (u5 + u7)))) v2 (w32 (v3 + 1)) h
      else
        Checker_costOf_11 fu v0 v1 v2 (w32 (v3 + 1)) h
    else
      some v1
def Checker_costOf (v0 : Int) (h : AH) : Option Int :=
  (gd (hTy h v0 = 4) (hCe h v0 2)).bind fun u1 =>
  Checker_costOf_11 FU v0 0 (w32 (u1 - 1)) 0 h
/-- PrimeProofs.cost(I)I -/
def X_cost (v0 : Int) (v1 : Int) (h : AH) : Option Int :=
  (gd (hTy h v0 = 9) (hCe h v0 0)).bind fun u1 =>
  (gd (hTy h u1 = 3) 0).bind fun _ =>
  (Ledger_has u1 v1 h).bind fun u2 =>
  if u2 = 0 then
    some (-1)
  else
    (gd (hTy h v0 = 9) (hCe h v0 0)).bind fun u3 =>
    (gd (hTy h u3 = 3) 0).bind fun _ =>
    (Ledger_isRight u3 v1 h).bind fun u4 =>
    if u4 = 0 then
      some (-2)
    else
      (gd (hTy h v0 = 9) (hCe h v0 0)).bind fun u5 =>
      (gd (hTy h u5 = 3) (hCe h u5 0)).bind fun u6 =>
      (gd (hTy h u6 = 26 ∧ 0 ≤ v1 ∧ v1 < hLn h u6) (hCe h u6 v1)).bind fun u7 =>
      (Checker_costOf u7 h).bind fun u8 =>
      some u8
/-- PrimeProofs$Checker.goodBases(LPrimeProofs$Line;I)I -/
def Checker_goodBases_15 : Nat → Int → Int → Int → Int → AH → Option Int
  | 0, _, _, _, _, _ => none
  | fu + 1, v0, v2, v3, v4, h =>
    if (999 : Int) < v4 then
      some v2
    else
      (gd (hTy h v0 = 4) (hCe h v0 2)).bind fun u1 =>
      (Checker_rowFault u1 v3 v4).bind fun u2 =>
      if u2 = 0 then
        Checker_goodBases_15 fu v0 (w32 (v2 + 1)) v3 (w32 (v4 + 1)) h
      else
        Checker_goodBases_15 fu v0 v2 v3 (w32 (v4 + 1)) h
def Checker_goodBases (v0 : Int) (v1 : Int) (h : AH) : Option Int :=
  (gd (hTy h v0 = 4) (hCe h v0 0)).bind fun u1 =>
  (gd (hTy h u1 = 6) 0).bind fun _ =>
  (Side_cell u1 v1 0 h).bind fun u2 =>
  Checker_goodBases_15 FU v0 0 u2 2 h
/-- PrimeProofs.loose(II)I -/
def X_loose (v0 : Int) (v1 : Int) (v2 : Int) (h : AH) : Option Int :=
  (gd (hTy h v0 = 9) (hCe h v0 0)).bind fun u1 =>
  (gd (hTy h u1 = 3) 0).bind fun _ =>
  (Ledger_hasRow u1 v1 0 v2 h).bind fun u2 =>
  if u2 = 0 then
    some (-1)
  else
    (gd (hTy h v0 = 9) (hCe h v0 0)).bind fun u3 =>
    (gd (hTy h u3 = 3) 0).bind fun _ =>
    (Ledger_isRight u3 v1 h).bind fun u4 =>
    if u4 = 0 then
      some (-2)
    else
      (gd (hTy h v0 = 9) (hCe h v0 0)).bind fun u5 =>
      (gd (hTy h u5 = 3) (hCe h u5 0)).bind fun u6 =>
      (gd (hTy h u6 = 26 ∧ 0 ≤ v1 ∧ v1 < hLn h u6) (hCe h u6 v1)).bind fun u7 =>
      (Checker_goodBases u7 v2 h).bind fun u8 =>
      some u8
/-- PrimeProofs.shared(II)J -/
def X_shared (v0 : Int) (v1 : Int) (v2 : Int) (h : AH) : Option Int :=
  (gd (hTy h v0 = 9) (hCe h v0 0)).bind fun u1 =>
  (gd (hTy h u1 = 3) 0).bind fun _ =>
  (Ledger_has u1 v1 h).bind fun u2 =>
  if u2 = 0 then
    some (-1)
  else
    (gd (hTy h v0 = 9) (hCe h v0 0)).bind fun u3 =>
    (gd (hTy h u3 = 3) 0).bind fun _ =>
    (Ledger_has u3 v2 h).bind fun u4 =>
    if u4 = 0 then
      some (-1)
    else
      (gd (hTy h v0 = 9) (hCe h v0 0)).bind fun u5 =>
      (gd (hTy h u5 = 3) 0).bind fun _ =>
      (Ledger_isRight u5 v1 h).bind fun u6 =>
      if u6 = 0 then
        some (-2)
      else
        (gd (hTy h v0 = 9) (hCe h v0 0)).bind fun u7 =>
        (gd (hTy h u7 = 3) 0).bind fun _ =>
        (Ledger_isRight u7 v2 h).bind fun u8 =>
        if u8 = 0 then
          some (-2)
        else
          (gd (hTy h v0 = 9) (hCe h v0 0)).bind fun u9 =>
          (gd (hTy h u9 = 3) (hCe h u9 2)).bind fun u10 =>
          (gd (hTy h u10 = 22 ∧ 0 ≤ v1 ∧ v1 < hLn h u10) (hCe h u10 v1)).bind fun u11 =>
          (gd (hTy h v0 = 9) (hCe h v0 0)).bind fun u12 =>
          (gd (hTy h u12 = 3) (hCe h u12 2)).bind fun u13 =>
          (gd (hTy h u13 = 22 ∧ 0 ≤ v2 ∧ v2 < hLn h u13) (hCe h u13 v2)).bind fun u14 =>
          some (andL u11 u14)
/-- PrimeProofs$Speller.writeSign(C)V -/
def Speller_writeSign (v0 : Int) (v1 : Int) (h : AH) : Option AH :=
  (gd (hTy h v0 = 7) (hCe h v0 1)).bind fun u1 =>
  if u1 < (400 : Int) then
    (gd (hTy h v0 = 7) (hCe h v0 0)).bind fun u2 =>
    (gd (hTy h v0 = 7) (hCe h v0 1)).bind fun u3 =>
    (gd ((hTy h u2 = 24 ∧ 0 ≤ u3 ∧ u3 < hLn h u2) ∧ 0 ≤ v1 ∧ v1 < 65536) (hSet h u2 u3 v1)).bind fun h4 =>
    (gd (hTy h4 v0 = 7) (hCe h4 v0 1)).bind fun u5 =>
    (gd (hTy h4 v0 = 7) (hSet h4 v0 1 (w32 (u5 + 1)))).bind fun h6 =>
    some h6
  else
    some h
/-- PrimeProofs$Speller.writeBlank()V -/
def Speller_writeBlank (v0 : Int) (h : AH) : Option AH :=
  (gd (hTy h v0 = 7) (hCe h v0 1)).bind fun u1 =>
  if 0 < u1 then
    (gd (hTy h v0 = 7) 0).bind fun _ =>
    (Speller_writeSign v0 32 h).bind fun h3 =>
    some h3
  else
    some h
/-- PrimeProofs$Speller.writeWord(Ljava/lang/String;)V -/
def Speller_writeWord_6 : Nat → Int → Int → Int → AH → Option AH
  | 0, _, _, _, _ => none
  | fu + 1, v0, v1, v2, h =>
    (gd (0 ≤ v1 ∧ v1 < 10) 0).bind fun _ =>
    (Str_length v1).bind fun u1 =>
    if v2 < u1 then
      (gd (0 ≤ v1 ∧ v1 < 10) 0).bind fun _ =>
      (Str_charAt v1 v2).bind fun u2 =>
      (gd (hTy h v0 = 7) 0).bind fun _ =>
      (Speller_writeSign v0 u2 h).bind fun h4 =>
      Speller_writeWord_6 fu v0 v1 (w32 (v2 + 1)) h4
    else
      some h
def Speller_writeWord (v0 : Int) (v1 : Int) (h : AH) : Option AH :=
  (gd (hTy h v0 = 7) 0).bind fun _ =>
  (Speller_writeBlank v0 h).bind fun h2 =>
  Speller_writeWord_6 FU v0 v1 0 h2
/-- PrimeProofs$Speller.writeInt(I)V -/
def Speller_writeInt_40 (k9 : Int → Int → Int → Int → AH → Option AH) (v0 : Int) (v1 : Int) (v3 : Int) (v4 : Int) (s0 : Int) (h : AH) : Option AH :=
  if s0 = 0 then
    (gd ((10 : Int) ≠ 0) (w32 (Int.tdiv v3 10))).bind fun u1 =>
    k9 v0 v1 s0 u1 h
  else
    (gd (hTy h v0 = 7) 0).bind fun _ =>
    (Speller_writeSign v0 ((w32 (48 + v4)) % 65536) h).bind fun h3 =>
    (gd ((10 : Int) ≠ 0) (w32 (Int.tdiv v3 10))).bind fun u4 =>
    k9 v0 v1 s0 u4 h3
def Speller_writeInt_9 : Nat → Int → Int → Int → Int → AH → Option AH
  | 0, _, _, _, _, _ => none
  | fu + 1, v0, v1, v2, v3, h =>
    if 0 < v3 then
      (gd (v3 ≠ 0) (w32 (Int.tdiv v1 v3))).bind fun u1 =>
      (gd ((10 : Int) ≠ 0) (Int.tmod u1 10)).bind fun u2 =>
      if v2 = 0 then
        if 0 < u2 then
          Speller_writeInt_40 (fun a0 a1 a2 a3 h0 => Speller_writeInt_9 fu a0 a1 a2 a3 h0) v0 v1 v3 u2 1 h
        else
          if v3 = (1 : Int) then
            Speller_writeInt_40 (fun a0 a1 a2 a3 h0 => Speller_writeInt_9 fu a0 a1 a2 a3 h0) v0 v1 v3 u2 1 h
          else
            Speller_writeInt_40 (fun a0 a1 a2 a3 h0 => Speller_writeInt_9 fu a0 a1 a2 a3 h0) v0 v1 v3 u2 0 h
      else
        Speller_writeInt_40 (fun a0 a1 a2 a3 h0 => Speller_writeInt_9 fu a0 a1 a2 a3 h0) v0 v1 v3 u2 1 h
    else
      some h
def Speller_writeInt (v0 : Int) (v1 : Int) (h : AH) : Option AH :=
  (gd (hTy h v0 = 7) 0).bind fun _ =>
  (Speller_writeBlank v0 h).bind fun h2 =>
  Speller_writeInt_9 FU v0 v1 0 1000000000 h2
/-- PrimeProofs$Speller.writeRows(LPrimeProofs$Side;Z)V -/
def Speller_writeRows_2 : Nat → Int → Int → Int → Int → AH → Option AH
  | 0, _, _, _, _, _ => none
  | fu + 1, v0, v1, v2, v3, h =>
    (gd (hTy h v1 = 6) (hCe h v1 1)).bind fun u1 =>
    if v3 < u1 then
      (gd (hTy h v1 = 6) 0).bind fun _ =>
      (Side_cell v1 v3 0 h).bind fun u2 =>
      (gd (hTy h v0 = 7) 0).bind fun _ =>
      (Speller_writeInt v0 u2 h).bind fun h4 =>
      (gd (hTy h4 v1 = 6) 0).bind fun _ =>
      (Side_cell v1 v3 1 h4).bind fun u5 =>
      (gd (hTy h4 v0 = 7) 0).bind fun _ =>
      (Speller_writeInt v0 u5 h4).bind fun h7 =>
      if v2 = 0 then
        Speller_writeRows_2 fu v0 v1 v2 (w32 (v3 + 1)) h7
      else
        (gd (hTy h7 v1 = 6) 0).bind fun _ =>
        (Side_cell v1 v3 2 h7).bind fun u8 =>
        (gd (hTy h7 v0 = 7) 0).bind fun _ =>
        (Speller_writeInt v0 u8 h7).bind fun h10 =>
        Speller_writeRows_2 fu v0 v1 v2 (w32 (v3 + 1)) h10
    else
      some h
def Speller_writeRows (v0 : Int) (v1 : Int) (v2 : Int) (h : AH) : Option AH :=
  Speller_writeRows_2 FU v0 v1 v2 0 h
/-- PrimeProofs$Speller.write(LPrimeProofs$Line;)V -/
def Speller_write_178 (v0 : Int) (h : AH) : Option AH :=
  (gd (hTy h v0 = 7) 0).bind fun _ =>
  (Speller_writeSign v0 59 h).bind fun h2 =>
  some h2
def Speller_write_166 (v0 : Int) (v1 : Int) (s0 : Int) (s1 : Int) (s2 : Int) (h : AH) : Option AH :=
  (gd (hTy h s2 = 7) 0).bind fun _ =>
  (Speller_writeRows s2 s1 s0 h).bind fun h2 =>
  (gd (hTy h2 v1 = 4) (hCe h2 v1 1)).bind fun u3 =>
  (gd (hTy h2 v0 = 7) 0).bind fun _ =>
  (Speller_writeRows v0 u3 0 h2).bind fun h5 =>
  Speller_write_178 v0 h5
def Speller_write_94 (v0 : Int) (v1 : Int) (h : AH) : Option AH :=
  (gd (hTy h v1 = 4) (hCe h v1 3)).bind fun u1 =>
  if u1 = (4 : Int) then
    (gd (hTy h v0 = 7) 0).bind fun _ =>
    (Speller_writeWord v0 8 h).bind fun h3 =>
    (gd (hTy h3 v1 = 4) (hCe h3 v1 0)).bind fun u4 =>
    (gd (hTy h3 v0 = 7) 0).bind fun _ =>
    (Speller_writeRows v0 u4 1 h3).bind fun h6 =>
    (gd (hTy h6 v0 = 7) 0).bind fun _ =>
    (Speller_writeWord v0 9 h6).bind fun h8 =>
    (gd (hTy h8 v1 = 4) (hCe h8 v1 1)).bind fun u9 =>
    (gd (hTy h8 v0 = 7) 0).bind fun _ =>
    (Speller_writeRows v0 u9 0 h8).bind fun h11 =>
    Speller_write_178 v0 h11
  else
    (gd (hTy h v1 = 4) (hCe h v1 3)).bind fun u12 =>
    if u12 = 0 then
      Speller_write_178 v0 h
    else
      (gd (hTy h v0 = 7) 0).bind fun _ =>
      (Speller_writeWord v0 6 h).bind fun h14 =>
      (gd (hTy h14 v1 = 4) (hCe h14 v1 0)).bind fun u15 =>
      (gd (hTy h14 v1 = 4) (hCe h14 v1 3)).bind fun u16 =>
      if u16 = (2 : Int) then
        Speller_write_166 v0 v1 1 u15 v0 h14
      else
        Speller_write_166 v0 v1 0 u15 v0 h14
def Speller_write_91 (v0 : Int) (v1 : Int) (s0 : Int) (s1 : Int) (h : AH) : Option AH :=
  (gd (hTy h s1 = 7) 0).bind fun _ =>
  (Speller_writeInt s1 s0 h).bind fun h2 =>
  Speller_write_94 v0 v1 h2
def Speller_write_53 (v0 : Int) (v1 : Int) (h : AH) : Option AH :=
  (gd (hTy h v1 = 4) (hCe h v1 3)).bind fun u1 =>
  if u1 = (1 : Int) then
    (gd (hTy h v0 = 7) 0).bind fun _ =>
    (Speller_writeWord v0 5 h).bind fun h3 =>
    (gd (hTy h3 v1 = 4) (hCe h3 v1 0)).bind fun u4 =>
    (gd (hTy h3 u4 = 6) (hCe h3 u4 1)).bind fun u5 =>
    if 0 < u5 then
      (gd (hTy h3 v1 = 4) (hCe h3 v1 0)).bind fun u6 =>
      (gd (hTy h3 u6 = 6) 0).bind fun _ =>
      (Side_cell u6 0 2 h3).bind fun u7 =>
      Speller_write_91 v0 v1 u7 v0 h3
    else
      Speller_write_91 v0 v1 2 v0 h3
  else
    Speller_write_94 v0 v1 h
def Speller_write (v0 : Int) (v1 : Int) (h : AH) : Option AH :=
  (gd (hTy h v0 = 7) (hSet h v0 1 0)).bind fun h1 =>
  (gd (hTy h1 v1 = 4) (hCe h1 v1 3)).bind fun u2 =>
  (Speller_nameOf u2).bind fun u3 =>
  (gd (hTy h1 v0 = 7) 0).bind fun _ =>
  (Speller_writeWord v0 u3 h1).bind fun h5 =>
  (gd (hTy h5 v1 = 4) (hCe h5 v1 2)).bind fun u6 =>
  (gd (hTy h5 v0 = 7) 0).bind fun _ =>
  (Speller_writeInt v0 u6 h5).bind fun h8 =>
  (gd (hTy h8 v1 = 4) 0).bind fun _ =>
  (Line_hasPQ v1 h8).bind fun u9 =>
  if u9 = 0 then
    Speller_write_53 v0 v1 h8
  else
    (gd (hTy h8 v0 = 7) 0).bind fun _ =>
    (Speller_writeWord v0 7 h8).bind fun h11 =>
    (gd (hTy h11 v1 = 4) (hCe h11 v1 4)).bind fun u12 =>
    (gd (hTy h11 v0 = 7) 0).bind fun _ =>
    (Speller_writeInt v0 u12 h11).bind fun h14 =>
    (gd (hTy h14 v1 = 4) (hCe h14 v1 5)).bind fun u15 =>
    (gd (hTy h14 v0 = 7) 0).bind fun _ =>
    (Speller_writeInt v0 u15 h14).bind fun h17 =>
    Speller_write_53 v0 v1 h17
/-- PrimeProofs.spell(II)I -/
def X_spell (v0 : Int) (v1 : Int) (v2 : Int) (h : AH) : Option (Int × AH) :=
  (gd (hTy h v0 = 9) (hCe h v0 0)).bind fun u1 =>
  (gd (hTy h u1 = 3) 0).bind fun _ =>
  (Ledger_has u1 v1 h).bind fun u2 =>
  if u2 = 0 then
    some ((-1), h)
  else
    if v2 < (-1 : Int) then
      some ((-1), h)
    else
      (gd (hTy h v0 = 9) (hCe h v0 4)).bind fun u3 =>
      (gd (hTy h v0 = 9) (hCe h v0 0)).bind fun u4 =>
      (gd (hTy h u4 = 3) (hCe h u4 0)).bind fun u5 =>
      (gd (hTy h u5 = 26 ∧ 0 ≤ v1 ∧ v1 < hLn h u5) (hCe h u5 v1)).bind fun u6 =>
      (gd (hTy h u3 = 7) 0).bind fun _ =>
      (Speller_write u3 u6 h).bind fun h8 =>
      if v2 = (-1 : Int) then
        (gd (hTy h8 v0 = 9) (hCe h8 v0 4)).bind fun u9 =>
        (gd (hTy h8 u9 = 7) (hCe h8 u9 1)).bind fun u10 =>
        some (u10, h8)
      else
        (gd (hTy h8 v0 = 9) (hCe h8 v0 4)).bind fun u11 =>
        (gd (hTy h8 u11 = 7) (hCe h8 u11 1)).bind fun u12 =>
        if v2 < u12 then
          (gd (hTy h8 v0 = 9) (hCe h8 v0 4)).bind fun u13 =>
          (gd (hTy h8 u13 = 7) (hCe h8 u13 0)).bind fun u14 =>
          (gd (hTy h8 u14 = 24 ∧ 0 ≤ v2 ∧ v2 < hLn h8 u14) (hCe h8 u14 v2)).bind fun u15 =>
          some (u15, h8)
        else
          some ((-1), h8)
/-- PrimeProofs.proof(I)I -/
def X_proof (v0 : Int) (v1 : Int) (h : AH) : Option Int :=
  (Arithmetic_isNumber v1).bind fun u1 =>
  if u1 = 0 then
    some (-1)
  else
    (gd (hTy h v0 = 9) (hCe h v0 0)).bind fun u2 =>
    (gd (hTy h u2 = 3) 0).bind fun _ =>
    (Ledger_leastFor u2 v1 h).bind fun u3 =>
    if u3 < 0 then
      some (-2)
    else
      some u3
/-- PrimeProofs.prime(II)I -/
def X_prime (v0 : Int) (v1 : Int) (v2 : Int) (h : AH) : Option (Int × AH) :=
  (Arithmetic_isNumber v1).bind fun u1 =>
  if u1 = 0 then
    some ((-1), h)
  else
    if v2 < (-1 : Int) then
      some ((-1), h)
    else
      (gd (hTy h v0 = 9) (hCe h v0 5)).bind fun u2 =>
      (gd (hTy h u2 = 1) 0).bind fun _ =>
      (Factors_split u2 v1 h).bind fun h4 =>
      if v2 = (-1 : Int) then
        (gd (hTy h4 v0 = 9) (hCe h4 v0 5)).bind fun u5 =>
        (gd (hTy h4 u5 = 1) (hCe h4 u5 2)).bind fun u6 =>
        some (u6, h4)
      else
        (gd (hTy h4 v0 = 9) (hCe h4 v0 5)).bind fun u7 =>
        (gd (hTy h4 u7 = 1) (hCe h4 u7 2)).bind fun u8 =>
        if v2 < u8 then
          (gd (hTy h4 v0 = 9) (hCe h4 v0 5)).bind fun u9 =>
          (gd (hTy h4 u9 = 1) (hCe h4 u9 0)).bind fun u10 =>
          (gd (hTy h4 u10 = 21 ∧ 0 ≤ v2 ∧ v2 < hLn h4 u10) (hCe h4 u10 v2)).bind fun u11 =>
          some (u11, h4)
        else
          some ((-1), h4)
/-- PrimeProofs.often(II)I -/
def X_often (v0 : Int) (v1 : Int) (v2 : Int) : Option Int :=
  (Arithmetic_isNumber v1).bind fun u1 =>
  if u1 = 0 then
    some (-1)
  else
    (Arithmetic_isNumber v2).bind fun u2 =>
    if u2 = 0 then
      some (-1)
    else
      (Arithmetic_timesDivides v1 v2).bind fun u3 =>
      some u3
/-- PrimeProofs.needs(II)I -/
def X_needs (v0 : Int) (v1 : Int) (v2 : Int) (h : AH) : Option (Int × AH) :=
  (Arithmetic_isNumber v1).bind fun u1 =>
  if u1 = 0 then
    some ((-1), h)
  else
    if v2 < (1 : Int) then
      some ((-1), h)
    else
      if (4 : Int) < v2 then
        some ((-1), h)
      else
        (gd (hTy h v0 = 9) (hCe h v0 1)).bind fun u2 =>
        (gd (hTy h u2 = 2) 0).bind fun _ =>
        (Finder_laidAlone u2 v1 v2 h).bind fun u3 =>
        if u3.1 < 0 then
          some ((-2), u3.2)
        else
          (gd (hTy u3.2 u3.1 = 4) (hCe u3.2 u3.1 0)).bind fun u4 =>
          (gd (hTy u3.2 u4 = 6) (hCe u3.2 u4 1)).bind fun u5 =>
          (gd (hTy u3.2 u3.1 = 4) (hCe u3.2 u3.1 1)).bind fun u6 =>
          (gd (hTy u3.2 u6 = 6) (hCe u3.2 u6 1)).bind fun u7 =>
          some (w32 ((w32 (10 * u5)) + u7), u3.2)
/-- PrimeProofs.fewest(I)I -/
def X_fewest_18 : Nat → Int → Int → Int → Int → Int → AH → Option (Int × AH)
  | 0, _, _, _, _, _, _ => none
  | fu + 1, v0, v1, v2, v3, v4, h =>
    if (4 : Int) < v4 then
      some (v2, h)
    else
      (gd (hTy h v0 = 9) (hCe h v0 1)).bind fun u1 =>
      (gd (hTy h u1 = 2) 0).bind fun _ =>
      (Finder_laidAlone u1 v1 v4 h).bind fun u2 =>
      if u2.1 < 0 then
        X_fewest_18 fu v0 v1 v2 v3 (w32 (v4 + 1)) u2.2
      else
        (gd (hTy u2.2 u2.1 = 4) 0).bind fun _ =>
        (Line_rowCount u2.1 u2.2).bind fun u3 =>
        if u3 < v3 then
          (gd (hTy u2.2 u2.1 = 4) 0).bind fun _ =>
          (Line_rowCount u2.1 u2.2).bind fun u4 =>
          X_fewest_18 fu v0 v1 v4 u4 (w32 (v4 + 1)) u2.2
        else
          X_fewest_18 fu v0 v1 v2 v3 (w32 (v4 + 1)) u2.2
def X_fewest (v0 : Int) (v1 : Int) (h : AH) : Option (Int × AH) :=
  (Arithmetic_isNumber v1).bind fun u1 =>
  if u1 = 0 then
    some ((-1), h)
  else
    X_fewest_18 FU v0 v1 (-2) 19 1 h
/-- PrimeProofs.next(I)I -/
def X_next_8 : Nat → Int → Option Int
  | 0, _ => none
  | fu + 1, v2 =>
    if v2 < (999999937 : Int) then
      (Arithmetic_isPrime (w32 (v2 + 1))).bind fun u1 =>
      if u1 = 0 then
        X_next_8 fu (w32 (v2 + 1))
      else
        some (w32 (v2 + 1))
    else
      some (-1)
def X_next (v0 : Int) (v1 : Int) : Option Int :=
  if v1 < 0 then
    some (-1)
  else
    X_next_8 FU v1
/-- PrimeProofs$Factors.share(I)I -/
def Factors_share_16 : Nat → Int → Int → Int → Int → AH → Option Int
  | 0, _, _, _, _, _ => none
  | fu + 1, v0, v1, v2, v3, h =>
    (gd (hTy h v0 = 1) (hCe h v0 1)).bind fun u1 =>
    (gd (hTy h u1 = 21 ∧ 0 ≤ v1 ∧ v1 < hLn h u1) (hCe h u1 v1)).bind fun u2 =>
    if v3 < u2 then
      (gd (hTy h v0 = 1) (hCe h v0 0)).bind fun u3 =>
      (gd (hTy h u3 = 21 ∧ 0 ≤ v1 ∧ v1 < hLn h u3) (hCe h u3 v1)).bind fun u4 =>
      Factors_share_16 fu v0 v1 (w32 (v2 * u4)) (w32 (v3 + 1)) h
    else
      some v2
def Factors_share (v0 : Int) (v1 : Int) (h : AH) : Option Int :=
  if v1 < 0 then
    some 1
  else
    (gd (hTy h v0 = 1) (hCe h v0 2)).bind fun u1 =>
    if v1 < u1 then
      Factors_share_16 FU v0 v1 1 0 h
    else
      some 1
/-- PrimeProofs.smooth(II)I -/
def X_smooth_26 : Nat → Int → Int → Int → Int → AH → Option (Int × AH)
  | 0, _, _, _, _, _ => none
  | fu + 1, v0, v2, v3, v4, h =>
    (gd (hTy h v0 = 9) (hCe h v0 5)).bind fun u1 =>
    (gd (hTy h u1 = 1) (hCe h u1 2)).bind fun u2 =>
    if v4 < u2 then
      (gd (hTy h v0 = 9) (hCe h v0 5)).bind fun u3 =>
      (gd (hTy h u3 = 1) (hCe h u3 0)).bind fun u4 =>
      (gd (hTy h u4 = 21 ∧ 0 ≤ v4 ∧ v4 < hLn h u4) (hCe h u4 v4)).bind fun u5 =>
      if v2 < u5 then
        some (v3, h)
      else
        (gd (hTy h v0 = 9) (hCe h v0 5)).bind fun u6 =>
        (gd (hTy h u6 = 1) 0).bind fun _ =>
        (Factors_share u6 v4 h).bind fun u7 =>
        X_smooth_26 fu v0 v2 (w32 (v3 * u7)) (w32 (v4 + 1)) h
    else
      some (v3, h)
def X_smooth (v0 : Int) (v1 : Int) (v2 : Int) (h : AH) : Option (Int × AH) :=
  (Arithmetic_isNumber v1).bind fun u1 =>
  if u1 = 0 then
    some ((-1), h)
  else
    if v2 < 0 then
      some ((-1), h)
    else
      (gd (hTy h v0 = 9) (hCe h v0 5)).bind fun u2 =>
      (gd (hTy h u2 = 1) 0).bind fun _ =>
      (Factors_split u2 v1 h).bind fun h4 =>
      X_smooth_26 FU v0 v2 1 0 h4
/-- PrimeProofs.bound(I)I -/
def X_bound_29 : Nat → Int → Int → Int → Int → AH → Option (Int × AH)
  | 0, _, _, _, _, _ => none
  | fu + 1, v0, v1, v2, v4, h =>
    (gd (hTy h v0 = 9) (hCe h v0 5)).bind fun u1 =>
    (gd (hTy h u1 = 1) (hCe h u1 2)).bind fun u2 =>
    if v4 < u2 then
      (gd (hTy h v0 = 9) (hCe h v0 5)).bind fun u3 =>
      (gd (hTy h u3 = 1) 0).bind fun _ =>
      (Factors_share u3 v4 h).bind fun u4 =>
      if v1 < (w64 ((w64 (v2 * u4)) * (w64 (v2 * u4)))) then
        (gd (hTy h v0 = 9) (hCe h v0 5)).bind fun u5 =>
        (gd (hTy h u5 = 1) (hCe h u5 0)).bind fun u6 =>
        (gd (hTy h u6 = 21 ∧ 0 ≤ v4 ∧ v4 < hLn h u6) (hCe h u6 v4)).bind fun u7 =>
        some (u7, h)
      else
        X_bound_29 fu v0 v1 (w64 (v2 * u4)) (w32 (v4 + 1)) h
    else
      some ((-1), h)
def X_bound (v0 : Int) (v1 : Int) (h : AH) : Option (Int × AH) :=
  (Arithmetic_isNumber v1).bind fun u1 =>
  if u1 = 0 then
    some ((-1), h)
  else
    if v1 < (3 : Int) then
      some ((-1), h)
    else
      (gd (hTy h v0 = 9) (hCe h v0 5)).bind fun u2 =>
      (gd (hTy h u2 = 1) 0).bind fun _ =>
      (Factors_split u2 (w32 (v1 - 1)) h).bind fun h4 =>
      X_bound_29 FU v0 v1 1 0 h4
/-- java/lang/Math.abs(J)J -/
def Math_abs_J (v0 : Int) : Option Int :=
  if v0 < (0 : Int) then
    some (w64 (-v0))
  else
    some v0
/-- PrimeProofs.chase(II)I -/
def X_chase_28 : Nat → Int → Int → Int → Int → Int → Option Int
  | 0, _, _, _, _, _ => none
  | fu + 1, v1, v2, v3, v5, v7 =>
    if v7 < (1000 : Int) then
      (gd (v1 ≠ 0) (Int.tmod (w64 ((w64 (v3 * v3)) + v2)) v1)).bind fun u1 =>
      (gd (v1 ≠ 0) (Int.tmod (w64 ((w64 (v5 * v5)) + v2)) v1)).bind fun u2 =>
      (gd (v1 ≠ 0) (Int.tmod (w64 ((w64 (u2 * u2)) + v2)) v1)).bind fun u3 =>
      (Math_abs_J (w64 (u1 - u3))).bind fun u4 =>
      (Arithmetic_commonOf u4 v1).bind fun u5 =>
      if u5 = (1 : Int) then
        X_chase_28 fu v1 v2 u1 u3 (w32 (v7 + 1))
      else
        some (w32 u5)
    else
      some (-2)
def X_chase (v0 : Int) (v1 : Int) (v2 : Int) : Option Int :=
  (Arithmetic_isNumber v1).bind fun u1 =>
  if u1 = 0 then
    some (-1)
  else
    (X_isPQ v2).bind fun u2 =>
    if u2 = 0 then
      some (-1)
    else
      X_chase_28 FU v1 v2 2 2 0
/-- PrimeProofs.primes(II)I -/
def X_primes_32 : Nat → Int → Int → Int → Option Int
  | 0, _, _, _ => none
  | fu + 1, v2, v3, v4 =>
    if v2 < v4 then
      some v3
    else
      (Arithmetic_isPrime v4).bind fun u1 =>
      if u1 = 0 then
        X_primes_32 fu v2 v3 (w32 (v4 + 1))
      else
        X_primes_32 fu v2 (w32 (v3 + 1)) (w32 (v4 + 1))
def X_primes (v0 : Int) (v1 : Int) (v2 : Int) : Option Int :=
  if v1 < 0 then
    some (-1)
  else
    if v2 < v1 then
      some (-1)
    else
      if (1000000000 : Int) < v2 then
        some (-1)
      else
        if (w32 (v2 - v1)) < (1000 : Int) then
          X_primes_32 FU v2 0 v1
        else
          some (-1)
/-- PrimeProofs.isOddNumber(I)Z -/
def X_isOddNumber (v0 : Int) : Option Int :=
  (Arithmetic_isNumber v0).bind fun u1 =>
  if u1 = 0 then
    some 0
  else
    (gd ((2 : Int) ≠ 0) (Int.tmod v0 2)).bind fun u2 =>
    if u2 = (1 : Int) then
      some 1
    else
      some 0
/-- PrimeProofs.passes(II)I -/
def X_passes (v0 : Int) (v1 : Int) (v2 : Int) : Option Int :=
  (X_isOddNumber v1).bind fun u1 =>
  if u1 = 0 then
    some (-1)
  else
    if v2 < (2 : Int) then
      some (-1)
    else
      if (999 : Int) < v2 then
        some (-1)
      else
        if v2 < v1 then
          (Arithmetic_passesBy v1 v2).bind fun u2 =>
          if u2 = 0 then
            some 0
          else
            some 1
        else
          some (-1)
/-- PrimeProofs.fools(II)I -/
def X_fools_34 : Nat → Int → Int → Int → Int → Int → Option Int
  | 0, _, _, _, _, _ => none
  | fu + 1, v1, v2, v3, v4, v5 =>
    if v4 < v5 then
      if v2 = 0 then
        some v3
      else
        some 0
    else
      (Arithmetic_passesBy v1 v5).bind fun u1 =>
      if u1 = 0 then
        if v2 = (1 : Int) then
          some v5
        else
          X_fools_34 fu v1 v2 v3 v4 (w32 (v5 + 1))
      else
        X_fools_34 fu v1 v2 (w32 (v3 + 1)) v4 (w32 (v5 + 1))
def X_fools (v0 : Int) (v1 : Int) (v2 : Int) : Option Int :=
  (X_isOddNumber v1).bind fun u1 =>
  if u1 = 0 then
    some (-1)
  else
    if v2 < 0 then
      some (-1)
    else
      if (1 : Int) < v2 then
        some (-1)
      else
        (Math_min 999 (w32 (v1 - 1))).bind fun u2 =>
        X_fools_34 FU v1 v2 0 u2 2
/-- PrimeProofs.power(III)I -/
def X_power (v0 : Int) (v1 : Int) (v2 : Int) (v3 : Int) : Option Int :=
  if v1 < 0 then
    some (-1)
  else
    if v2 < 0 then
      some (-1)
    else
      if v3 < (1 : Int) then
        some (-1)
      else
        (Arithmetic_powerLeft v1 v2 v3).bind fun u1 =>
        some (w32 u1)
/-- PrimeProofs$Factors.unitCount(I)I -/
def Factors_unitCount_4 : Nat → Int → Int → Int → AH → Option Int
  | 0, _, _, _, _ => none
  | fu + 1, v0, v2, v3, h =>
    (gd (hTy h v0 = 1) (hCe h v0 2)).bind fun u1 =>
    if v3 < u1 then
      (gd (hTy h v0 = 1) (hCe h v0 0)).bind fun u2 =>
      (gd (hTy h u2 = 21 ∧ 0 ≤ v3 ∧ v3 < hLn h u2) (hCe h u2 v3)).bind fun u3 =>
      if (1 : Int) < u3 then
        (gd (hTy h v0 = 1) (hCe h v0 0)).bind fun u4 =>
        (gd (hTy h u4 = 21 ∧ 0 ≤ v3 ∧ v3 < hLn h u4) (hCe h u4 v3)).bind fun u5 =>
        (gd (u5 ≠ 0) (w32 (Int.tdiv v2 u5))).bind fun u6 =>
        (gd (hTy h v0 = 1) (hCe h v0 0)).bind fun u7 =>
        (gd (hTy h u7 = 21 ∧ 0 ≤ v3 ∧ v3 < hLn h u7) (hCe h u7 v3)).bind fun u8 =>
        Factors_unitCount_4 fu v0 (w32 (u6 * (w32 (u8 - 1)))) (w32 (v3 + 1)) h
      else
        Factors_unitCount_4 fu v0 v2 (w32 (v3 + 1)) h
    else
      some v2
def Factors_unitCount (v0 : Int) (v1 : Int) (h : AH) : Option Int :=
  Factors_unitCount_4 FU v0 v1 0 h
/-- PrimeProofs$Factors.lessened(IIII)I -/
def Factors_lessened_39 : Nat → Int → Int → Int → Int → Int → Int → Int → AH → Option Int
  | 0, _, _, _, _, _, _, _, _ => none
  | fu + 1, v0, v2, v3, v4, v5, v6, v7, h =>
    (gd (hTy h v0 = 1) (hCe h v0 1)).bind fun u1 =>
    (gd (hTy h u1 = 21 ∧ 0 ≤ v2 ∧ v2 < hLn h u1) (hCe h u1 v2)).bind fun u2 =>
    if v7 < u2 then
      (gd (v6 ≠ 0) (Int.tmod v5 v6)).bind fun u3 =>
      if u3 = 0 then
        (gd (v6 ≠ 0) (w32 (Int.tdiv v5 v6))).bind fun u4 =>
        (Arithmetic_powerLeft v3 u4 v4).bind fun u5 =>
        if u5 = (1 : Int) then
          (gd (v6 ≠ 0) (w32 (Int.tdiv v5 v6))).bind fun u6 =>
          Factors_lessened_39 fu v0 v2 v3 v4 u6 v6 (w32 (v7 + 1)) h
        else
          some v5
      else
        some v5
    else
      some v5
def Factors_lessened (v0 : Int) (v1 : Int) (v2 : Int) (v3 : Int) (v4 : Int) (h : AH) : Option Int :=
  if v2 < 0 then
    some v1
  else
    (gd (hTy h v0 = 1) (hCe h v0 2)).bind fun u1 =>
    if v2 < u1 then
      (gd (hTy h v0 = 1) (hCe h v0 0)).bind fun u2 =>
      (gd (hTy h u2 = 21 ∧ 0 ≤ v2 ∧ v2 < hLn h u2) (hCe h u2 v2)).bind fun u3 =>
      if u3 < (2 : Int) then
        some v1
      else
        (gd (hTy h v0 = 1) (hCe h v0 0)).bind fun u4 =>
        (gd (hTy h u4 = 21 ∧ 0 ≤ v2 ∧ v2 < hLn h u4) (hCe h u4 v2)).bind fun u5 =>
        Factors_lessened_39 FU v0 v2 v3 v4 v1 u5 0 h
    else
      some v1
/-- PrimeProofs.order(II)I -/
def X_order_61 : Nat → Int → Int → Int → Int → Int → AH → Option (Int × AH)
  | 0, _, _, _, _, _, _ => none
  | fu + 1, v0, v1, v2, v3, v4, h =>
    (gd (hTy h v0 = 9) (hCe h v0 5)).bind fun u1 =>
    (gd (hTy h u1 = 1) (hCe h u1 2)).bind fun u2 =>
    if v4 < u2 then
      (gd (hTy h v0 = 9) (hCe h v0 5)).bind fun u3 =>
      (gd (hTy h u3 = 1) 0).bind fun _ =>
      (Factors_lessened u3 v3 v4 v1 v2 h).bind fun u4 =>
      X_order_61 fu v0 v1 v2 u4 (w32 (v4 + 1)) h
    else
      some (v3, h)
def X_order (v0 : Int) (v1 : Int) (v2 : Int) (h : AH) : Option (Int × AH) :=
  if v1 < 0 then
    some ((-1), h)
  else
    if v2 < (2 : Int) then
      some ((-1), h)
    else
      if (1000000 : Int) < v2 then
        some ((-1), h)
      else
        (Arithmetic_commonOf v1 v2).bind fun u1 =>
        if u1 = (1 : Int) then
          (gd (hTy h v0 = 9) (hCe h v0 5)).bind fun u2 =>
          (gd (hTy h u2 = 1) 0).bind fun _ =>
          (Factors_split u2 v2 h).bind fun h4 =>
          (gd (hTy h4 v0 = 9) (hCe h4 v0 5)).bind fun u5 =>
          (gd (hTy h4 u5 = 1) 0).bind fun _ =>
          (Factors_unitCount u5 v2 h4).bind fun u6 =>
          (gd (hTy h4 v0 = 9) (hCe h4 v0 5)).bind fun u7 =>
          (gd (hTy h4 u7 = 1) 0).bind fun _ =>
          (Factors_split u7 u6 h4).bind fun h9 =>
          X_order_61 FU v0 v1 v2 u6 0 h9
        else
          some ((-2), h)
/-- PrimeProofs.jacobi(II)I -/
def X_jacobi (v0 : Int) (v1 : Int) (v2 : Int) : Option Int :=
  if v2 < (1 : Int) then
    some (-2)
  else
    (gd ((2 : Int) ≠ 0) (Int.tmod v2 2)).bind fun u1 =>
    if u1 = 0 then
      some (-2)
    else
      (Arithmetic_jacobiOf v1 v2).bind fun u2 =>
      some u2
/-- PrimeProofs.u(IIII)I -/
def X_u (v0 : Int) (v1 : Int) (v2 : Int) (v3 : Int) (v4 : Int) : Option Int :=
  (X_isPQ v1).bind fun u1 =>
  if u1 = 0 then
    some (-1)
  else
    (X_isPQ v2).bind fun u2 =>
    if u2 = 0 then
      some (-1)
    else
      if v3 < 0 then
        some (-1)
      else
        if v4 < (1 : Int) then
          some (-1)
        else
          if (1000000000 : Int) < v4 then
            some (-1)
          else
            (Arithmetic_sequenceLeft v1 v2 v3 v4).bind fun u3 =>
            some (w32 u3)
/-- PrimeProofs.units(I)I -/
def X_units (v0 : Int) (v1 : Int) (h : AH) : Option (Int × AH) :=
  if v1 < (1 : Int) then
    some ((-1), h)
  else
    if (1000000000 : Int) < v1 then
      some ((-1), h)
    else
      (gd (hTy h v0 = 9) (hCe h v0 5)).bind fun u1 =>
      (gd (hTy h u1 = 1) 0).bind fun _ =>
      (Factors_split u1 v1 h).bind fun h3 =>
      (gd (hTy h3 v0 = 9) (hCe h3 v0 5)).bind fun u4 =>
      (gd (hTy h3 u4 = 1) 0).bind fun _ =>
      (Factors_unitCount u4 v1 h3).bind fun u5 =>
      some (u5, h3)
/-- java/lang/Long.bitCount(J)I -/
def Lng_bitCount (v0 : Int) : Option Int :=
  some (andI (w32 (w64 ((w64 ((w64 ((andL (w64 ((w64 ((andL (w64 (v0 - (andL (ushrL v0 1) 6148914691236517205))) 3689348814741910323) + (andL (ushrL (w64 (v0 - (andL (ushrL v0 1) 6148914691236517205))) 2) 3689348814741910323))) + (ushrL (w64 ((andL (w64 (v0 - (andL (ushrL v0 1) 6148914691236517205))) 3689348814741910323) + (andL (ushrL (w64 (v0 - (andL (ushrL v0 1) 6148914691236517205))) 2) 3689348814741910323))) 4))) 1085102592571150095) + (ushrL (andL (w64 ((w64 ((andL (w64 (v0 - (andL (ushrL v0 1) 6148914691236517205))) 3689348814741910323) + (andL (ushrL (w64 (v0 - (andL (ushrL v0 1) 6148914691236517205))) 2) 3689348814741910323))) + (ushrL (w64 ((andL (w64 (v0 - (andL (ushrL v0 1) 6148914691236517205))) 3689348814741910323) + (andL (ushrL (w64 (v0 - (andL (ushrL v0 1) 6148914691236517205))) 2) 3689348814741910323))) 4))) 1085102592571150095) 8))) + (ushrL (w64 ((andL (w64 ((w64 ((andL (w64 (v0 - (andL (ushrL v0 1) 6148914691236517205))) 3689348814741910323) + (andL (ushrL (w64 (v0 - (andL (ushrL v0 1) 6148914691236517205))) 2) 3689348814741910323))) + (ushrL (w64 ((andL (w64 (v0 - (andL (ushrL v0 1) 6148914691236517205))) 3689348814741910323) + (andL (ushrL (w64 (v0 - (andL (ushrL v0 1) 6148914691236517205))) 2) 3689348814741910323))) 4))) 1085102592571150095) + (ushrL (andL (w64 ((w64 ((andL (w64 (v0 - (andL (ushrL v0 1) 6148914691236517205))) 3689348814741910323) + (andL (ushrL (w64 (v0 - (andL (ushrL v0 1) 6148914691236517205))) 2) 3689348814741910323))) + (ushrL (w64 ((andL (w64 (v0 - (andL (ushrL v0 1) 6148914691236517205))) 3689348814741910323) + (andL (ushrL (w64 (v0 - (andL (ushrL v0 1) 6148914691236517205))) 2) 3689348814741910323))) 4))) 1085102592571150095) 8))) 16))) + (ushrL (w64 ((w64 ((andL (w64 ((w64 ((andL (w64 (v0 - (andL (ushrL v0 1) 6148914691236517205))) 3689348814741910323) + (andL (ushrL (w64 (v0 - (andL (ushrL v0 1) 6148914691236517205))) 2) 3689348814741910323))) + (ushrL (w64 ((andL (w64 (v0 - (andL (ushrL v0 1) 6148914691236517205))) 3689348814741910323) + (andL (ushrL (w64 (v0 - (andL (ushrL v0 1) 6148914691236517205))) 2) 3689348814741910323))) 4))) 1085102592571150095) + (ushrL (andL (w64 ((w64 ((andL (w64 (v0 - (andL (ushrL v0 1) 6148914691236517205))) 3689348814741910323) + (andL (ushrL (w64 (v0 - (andL (ushrL v0 1) 6148914691236517205))) 2) 3689348814741910323))) + (ushrL (w64 ((andL (w64 (v0 - (andL (ushrL v0 1) 6148914691236517205))) 3689348814741910323) + (andL (ushrL (w64 (v0 - (andL (ushrL v0 1) 6148914691236517205))) 2) 3689348814741910323))) 4))) 1085102592571150095) 8))) + (ushrL (w64 ((andL (w64 ((w64 ((andL (w64 (v0 - (andL (ushrL v0 1) 6148914691236517205))) 3689348814741910323) + (andL (ushrL (w64 (v0 - (andL (ushrL v0 1) 6148914691236517205))) 2) 3689348814741910323))) + (ushrL (w64 ((andL (w64 (v0 - (andL (ushrL v0 1) 6148914691236517205))) 3689348814741910323) + (andL (ushrL (w64 (v0 - (andL (ushrL v0 1) 6148914691236517205))) 2) 3689348814741910323))) 4))) 1085102592571150095) + (ushrL (andL (w64 ((w64 ((andL (w64 (v0 - (andL (ushrL v0 1) 6148914691236517205))) 3689348814741910323) + (andL (ushrL (w64 (v0 - (andL (ushrL v0 1) 6148914691236517205))) 2) 3689348814741910323))) + (ushrL (w64 ((andL (w64 (v0 - (andL (ushrL v0 1) 6148914691236517205))) 3689348814741910323) + (andL (ushrL (w64 (v0 - (andL (ushrL v0 1) 6148914691236517205))) 2) 3689348814741910323))) 4))) 1085102592571150095) 8))) 16))) 32)))) 127)
/-- PrimeProofs$Ledger.rowsOfAll()I -/
def Ledger_rowsOfAll_4 : Nat → Int → Int → Int → AH → Option Int
  | 0, _, _, _, _ => none
  | fu + 1, v0, v1, v2, h =>
    (gd (hTy h v0 = 3) (hCe h v0 5)).bind fun u1 =>
    if v2 < u1 then
      (gd (hTy h v0 = 3) 0).bind fun _ =>
      (Ledger_has v0 v2 h).bind fun u2 =>
      if u2 = 0 then
        Ledger_rowsOfAll_4 fu v0 (w32 (v1 + 0)) (w32 (v2 + 1)) h
      else
        (gd (hTy h v0 = 3) (hCe h v0 0)).bind fun u3 =>
        (gd (hTy h u3 = 26 ∧ 0 ≤ v2 ∧ v2 < hLn h u3) (hCe h u3 v2)).bind fun u4 =>
        (gd (hTy h u4 = 4) 0).bind fun _ =>
        (Line_rowCount u4 h).bind fun u5 =>
        Ledger_rowsOfAll_4 fu v0 (w32 (v1 + u5)) (w32 (v2 + 1)) h
    else
      some v1
def Ledger_rowsOfAll (v0 : Int) (h : AH) : Option Int :=
  Ledger_rowsOfAll_4 FU v0 0 0 h
/-- PrimeProofs$Ledger.greatestRight()I -/
def Ledger_greatestRight_4 : Nat → Int → Int → Int → AH → Option Int
  | 0, _, _, _, _ => none
  | fu + 1, v0, v1, v2, h =>
    (gd (hTy h v0 = 3) (hCe h v0 5)).bind fun u1 =>
    if v2 < u1 then
      (gd (hTy h v0 = 3) 0).bind fun _ =>
      (Ledger_isRight v0 v2 h).bind fun u2 =>
      if u2 = 0 then
        Ledger_greatestRight_4 fu v0 v1 (w32 (v2 + 1)) h
      else
        (gd (hTy h v0 = 3) (hCe h v0 0)).bind fun u3 =>
        (gd (hTy h u3 = 26 ∧ 0 ≤ v2 ∧ v2 < hLn h u3) (hCe h u3 v2)).bind fun u4 =>
        (gd (hTy h u4 = 4) (hCe h u4 2)).bind fun u5 =>
        (Math_max v1 u5).bind fun u6 =>
        Ledger_greatestRight_4 fu v0 u6 (w32 (v2 + 1)) h
    else
      some v1
def Ledger_greatestRight (v0 : Int) (h : AH) : Option Int :=
  Ledger_greatestRight_4 FU v0 0 0 h
/-- PrimeProofs$Ledger.deepestRight()I -/
def Ledger_deepestRight_4 : Nat → Int → Int → Int → AH → Option Int
  | 0, _, _, _, _ => none
  | fu + 1, v0, v1, v2, h =>
    (gd (hTy h v0 = 3) (hCe h v0 5)).bind fun u1 =>
    if v2 < u1 then
      (gd (hTy h v0 = 3) 0).bind fun _ =>
      (Ledger_isRight v0 v2 h).bind fun u2 =>
      if u2 = 0 then
        Ledger_deepestRight_4 fu v0 v1 (w32 (v2 + 1)) h
      else
        (gd (hTy h v0 = 3) (hCe h v0 3)).bind fun u3 =>
        (gd (hTy h u3 = 21 ∧ 0 ≤ v2 ∧ v2 < hLn h u3) (hCe h u3 v2)).bind fun u4 =>
        (Math_max v1 u4).bind fun u5 =>
        Ledger_deepestRight_4 fu v0 u5 (w32 (v2 + 1)) h
    else
      some v1
def Ledger_deepestRight (v0 : Int) (h : AH) : Option Int :=
  Ledger_deepestRight_4 FU v0 0 0 h
/-- PrimeProofs$Ledger.costOfRight()I -/
def Ledger_costOfRight_4 : Nat → Int → Int → Int → AH → Option Int
  | 0, _, _, _, _ => none
  | fu + 1, v0, v1, v2, h =>
    (gd (hTy h v0 = 3) (hCe h v0 5)).bind fun u1 =>
    if v2 < u1 then
      (gd (hTy h v0 = 3) 0).bind fun _ =>
      (Ledger_isRight v0 v2 h).bind fun u2 =>
      if u2 = 0 then
        Ledger_costOfRight_4 fu v0 v1 (w32 (v2 + 1)) h
      else
        (gd (hTy h v0 = 3) (hCe h v0 0)).bind fun u3 =>
        (gd (hTy h u3 = 26 ∧ 0 ≤ v2 ∧ v2 < hLn h u3) (hCe h u3 v2)).bind fun u4 =>
        (Checker_costOf u4 h).bind fun u5 =>
        Ledger_costOfRight_4 fu v0 (w32 (v1 + u5)) (w32 (v2 + 1)) h
    else
      some v1
def Ledger_costOfRight (v0 : Int) (h : AH) : Option Int :=
  Ledger_costOfRight_4 FU v0 0 0 h
/-- PrimeProofs.count(I)I -/
def X_count (v0 : Int) (v1 : Int) (h : AH) : Option Int :=
  if v1 = 0 then
    (gd (hTy h v0 = 9) (hCe h v0 0)).bind fun u1 =>
    (gd (hTy h u1 = 3) (hCe h u1 5)).bind fun u2 =>
    some u2
  else if v1 = 1 then
    (gd (hTy h v0 = 9) (hCe h v0 0)).bind fun u3 =>
    (gd (hTy h u3 = 3) (hCe h u3 4)).bind fun u4 =>
    (Lng_bitCount u4).bind fun u5 =>
    some u5
  else if v1 = 2 then
    (gd (hTy h v0 = 9) (hCe h v0 0)).bind fun u6 =>
    (gd (hTy h u6 = 3) 0).bind fun _ =>
    (Ledger_rowsOfAll u6 h).bind fun u7 =>
    some u7
  else if v1 = 3 then
    (gd (hTy h v0 = 9) (hCe h v0 2)).bind fun u8 =>
    (gd (hTy h u8 = 8) (hCe h u8 1)).bind fun u9 =>
    some u9
  else if v1 = 4 then
    (gd (hTy h v0 = 9) (hCe h v0 0)).bind fun u10 =>
    (gd (hTy h u10 = 3) 0).bind fun _ =>
    (Ledger_greatestRight u10 h).bind fun u11 =>
    some u11
  else if v1 = 5 then
    (gd (hTy h v0 = 9) (hCe h v0 0)).bind fun u12 =>
    (gd (hTy h u12 = 3) 0).bind fun _ =>
    (Ledger_deepestRight u12 h).bind fun u13 =>
    some u13
  else if v1 = 6 then
    (gd (hTy h v0 = 9) (hCe h v0 0)).bind fun u14 =>
    (gd (hTy h u14 = 3) 0).bind fun _ =>
    (Ledger_costOfRight u14 h).bind fun u15 =>
    some u15
  else 
    some (-1)
/-- PrimeProofsModel.<init>()V -/
def R_init (v0 : Int) (h : AH) : Option AH :=
  (gd (0 ≤ v0) (0)).bind fun u1 =>
  (gd (0 ≤ (4 : Int) ∧ (4 : Int) ≤ 2000) (hNew h 22 (4 : Int) (dfA 22))).bind fun h2 =>
  (gd (hTy h2 v0 = 10) (hSet h2 v0 1 (hNx h))).bind fun h3 =>
  (gd (0 ≤ (4 : Int) ∧ (4 : Int) ≤ 2000) (hNew h3 22 (4 : Int) (dfA 22))).bind fun h4 =>
  (gd (hTy h4 v0 = 10) (hSet h4 v0 2 (hNx h3))).bind fun h5 =>
  (gd (0 ≤ (4 : Int) ∧ (4 : Int) ≤ 2000) (hNew h5 22 (4 : Int) (dfA 22))).bind fun h6 =>
  (gd (hTy h6 v0 = 10) (hSet h6 v0 3 (hNx h5))).bind fun h7 =>
  (gd (0 ≤ (12 : Int) ∧ (12 : Int) ≤ 2000) (hNew h7 21 (12 : Int) (dfA 21))).bind fun h8 =>
  (gd (hTy h8 v0 = 10) (hSet h8 v0 4 (hNx h7))).bind fun h9 =>
  (gd (0 ≤ (12 : Int) ∧ (12 : Int) ≤ 2000) (hNew h9 21 (12 : Int) (dfA 21))).bind fun h10 =>
  (gd (hTy h10 v0 = 10) (hSet h10 v0 5 (hNx h9))).bind fun h11 =>
  (gd (0 ≤ (116 : Int) ∧ (116 : Int) ≤ 2000) (hNew h11 21 (116 : Int) (dfA 21))).bind fun h12 =>
  (gd (hTy h12 v0 = 10) (hSet h12 v0 8 (hNx h11))).bind fun h13 =>
  (gd (0 ≤ (116 : Int) ∧ (116 : Int) ≤ 2000) (hNew h13 21 (116 : Int) (dfA 21))).bind fun h14 =>
  (gd (hTy h14 v0 = 10) (hSet h14 v0 9 (hNx h13))).bind fun h15 =>
  (gd (0 ≤ (116 : Int) ∧ (116 : Int) ≤ 2000) (hNew h15 21 (116 : Int) (dfA 21))).bind fun h16 =>
  (gd (hTy h16 v0 = 10) (hSet h16 v0 10 (hNx h15))).bind fun h17 =>
  (gd (0 ≤ (116 : Int) ∧ (116 : Int) ≤ 2000) (hNew h17 21 (116 : Int) (dfA 21))).bind fun h18 =>
  (gd (hTy h18 v0 = 10) (hSet h18 v0 11 (hNx h17))).bind fun h19 =>
  (gd (0 ≤ (116 : Int) ∧ (116 : Int) ≤ 2000) (hNew h19 21 (116 : Int) (dfA 21))).bind fun h20 =>
  (gd (hTy h20 v0 = 10) (hSet h20 v0 12 (hNx h19))).bind fun h21 =>
  (gd (0 ≤ (116 : Int) ∧ (116 : Int) ≤ 2000) (hNew h21 21 (116 : Int) (dfA 21))).bind fun h22 =>
  (gd (hTy h22 v0 = 10) (hSet h22 v0 13 (hNx h21))).bind fun h23 =>
  (gd (0 ≤ (1044 : Int) ∧ (1044 : Int) ≤ 2000) (hNew h23 21 (1044 : Int) (dfA 21))).bind fun h24 =>
  (gd (hTy h24 v0 = 10) (hSet h24 v0 14 (hNx h23))).bind fun h25 =>
  (gd (0 ≤ (1044 : Int) ∧ (1044 : Int) ≤ 2000) (hNew h25 21 (1044 : Int) (dfA 21))).bind fun h26 =>
  (gd (hTy h26 v0 = 10) (hSet h26 v0 15 (hNx h25))).bind fun h27 =>
  (gd (0 ≤ (1044 : Int) ∧ (1044 : Int) ≤ 2000) (hNew h27 21 (1044 : Int) (dfA 21))).bind fun h28 =>
  (gd (hTy h28 v0 = 10) (hSet h28 v0 16 (hNx h27))).bind fun h29 =>
  (gd (0 ≤ (1044 : Int) ∧ (1044 : Int) ≤ 2000) (hNew h29 21 (1044 : Int) (dfA 21))).bind fun h30 =>
  (gd (hTy h30 v0 = 10) (hSet h30 v0 17 (hNx h29))).bind fun h31 =>
  (gd (0 ≤ (1044 : Int) ∧ (1044 : Int) ≤ 2000) (hNew h31 21 (1044 : Int) (dfA 21))).bind fun h32 =>
  (gd (hTy h32 v0 = 10) (hSet h32 v0 18 (hNx h31))).bind fun h33 =>
  (gd (0 ≤ (60 : Int) ∧ (60 : Int) ≤ 2000) (hNew h33 25 (60 : Int) (dfA 25))).bind fun h34 =>
  (gd (hTy h34 v0 = 10) (hSet h34 v0 19 (hNx h33))).bind fun h35 =>
  (gd (0 ≤ (60 : Int) ∧ (60 : Int) ≤ 2000) (hNew h35 21 (60 : Int) (dfA 21))).bind fun h36 =>
  (gd (hTy h36 v0 = 10) (hSet h36 v0 20 (hNx h35))).bind fun h37 =>
  (gd (0 ≤ (70 : Int) ∧ (70 : Int) ≤ 2000) (hNew h37 21 (70 : Int) (dfA 21))).bind fun h38 =>
  (gd (hTy h38 v0 = 10) (hSet h38 v0 21 (hNx h37))).bind fun h39 =>
  (gd (0 ≤ (70 : Int) ∧ (70 : Int) ≤ 2000) (hNew h39 21 (70 : Int) (dfA 21))).bind fun h40 =>
  (gd (hTy h40 v0 = 10) (hSet h40 v0 22 (hNx h39))).bind fun h41 =>
  (gd (0 ≤ (400 : Int) ∧ (400 : Int) ≤ 2000) (hNew h41 21 (400 : Int) (dfA 21))).bind fun h42 =>
  (gd (hTy h42 v0 = 10) (hSet h42 v0 23 (hNx h41))).bind fun h43 =>
  (gd (0 ≤ (49 : Int) ∧ (49 : Int) ≤ 2000) (hNew h43 23 (49 : Int) (dfA 23))).bind fun h44 =>
  (gd ((hTy h44 (hNx h43) = 23 ∧ -128 ≤ (115 : Int) ∧ (115 : Int) ≤ 127 ∨ hTy h44 (hNx h43) = 25 ∧ 0 ≤ (115 : Int) ∧ (115 : Int) ≤ 1) ∧ 0 ≤ (0 : Int) ∧ (0 : Int) < hLn h44 (hNx h43)) (hSet h44 (hNx h43) (0 : Int) (115 : Int))).bind fun h45 =>
  (gd ((hTy h45 (hNx h43) = 23 ∧ -128 ≤ (109 : Int) ∧ (109 : Int) ≤ 127 ∨ hTy h45 (hNx h43) = 25 ∧ 0 ≤ (109 : Int) ∧ (109 : Int) ≤ 1) ∧ 0 ≤ (1 : Int) ∧ (1 : Int) < hLn h45 (hNx h43)) (hSet h45 (hNx h43) (1 : Int) (109 : Int))).bind fun h46 =>
  (gd ((hTy h46 (hNx h43) = 23 ∧ -128 ≤ (97 : Int) ∧ (97 : Int) ≤ 127 ∨ hTy h46 (hNx h43) = 25 ∧ 0 ≤ (97 : Int) ∧ (97 : Int) ≤ 1) ∧ 0 ≤ (2 : Int) ∧ (2 : Int) < hLn h46 (hNx h43)) (hSet h46 (hNx h43) (2 : Int) (97 : Int))).bind fun h47 =>
  (gd ((hTy h47 (hNx h43) = 23 ∧ -128 ≤ (108 : Int) ∧ (108 : Int) ≤ 127 ∨ hTy h47 (hNx h43) = 25 ∧ 0 ≤ (108 : Int) ∧ (108 : Int) ≤ 1) ∧ 0 ≤ (3 : Int) ∧ (3 : Int) < hLn h47 (hNx h43)) (hSet h47 (hNx h43) (3 : Int) (108 : Int))).bind fun h48 =>
  (gd ((hTy h48 (hNx h43) = 23 ∧ -128 ≤ (108 : Int) ∧ (108 : Int) ≤ 127 ∨ hTy h48 (hNx h43) = 25 ∧ 0 ≤ (108 : Int) ∧ (108 : Int) ≤ 1) ∧ 0 ≤ (4 : Int) ∧ (4 : Int) < hLn h48 (hNx h43)) (hSet h48 (hNx h43) (4 : Int) (108 : Int))).bind fun h49 =>
  (gd ((hTy h49 (hNx h43) = 23 ∧ -128 ≤ (0 : Int) ∧ (0 : Int) ≤ 127 ∨ hTy h49 (hNx h43) = 25 ∧ 0 ≤ (0 : Int) ∧ (0 : Int) ≤ 1) ∧ 0 ≤ (5 : Int) ∧ (5 : Int) < hLn h49 (hNx h43)) (hSet h49 (hNx h43) (5 : Int) (0 : Int))).bind fun h50 =>
  (gd ((hTy h50 (hNx h43) = 23 ∧ -128 ≤ (112 : Int) ∧ (112 : Int) ≤ 127 ∨ hTy h50 (hNx h43) = 25 ∧ 0 ≤ (112 : Int) ∧ (112 : Int) ≤ 1) ∧ 0 ≤ (6 : Int) ∧ (6 : Int) < hLn h50 (hNx h43)) (hSet h50 (hNx h43) (6 : Int) (112 : Int))).bind fun h51 =>
  (gd ((hTy h51 (hNx h43) = 23 ∧ -128 ≤ (114 : Int) ∧ (114 : Int) ≤ 127 ∨ hTy h51 (hNx h43) = 25 ∧ 0 ≤ (114 : Int) ∧ (114 : Int) ≤ 1) ∧ 0 ≤ (7 : Int) ∧ (7 : Int) < hLn h51 (hNx h43)) (hSet h51 (hNx h43) (7 : Int) (114 : Int))).bind fun h52 =>
  (gd ((hTy h52 (hNx h43) = 23 ∧ -128 ≤ (97 : Int) ∧ (97 : Int) ≤ 127 ∨ hTy h52 (hNx h43) = 25 ∧ 0 ≤ (97 : Int) ∧ (97 : Int) ≤ 1) ∧ 0 ≤ (8 : Int) ∧ (8 : Int) < hLn h52 (hNx h43)) (hSet h52 (hNx h43) (8 : Int) (97 : Int))).bind fun h53 =>
  (gd ((hTy h53 (hNx h43) = 23 ∧ -128 ≤ (116 : Int) ∧ (116 : Int) ≤ 127 ∨ hTy h53 (hNx h43) = 25 ∧ 0 ≤ (116 : Int) ∧ (116 : Int) ≤ 1) ∧ 0 ≤ (9 : Int) ∧ (9 : Int) < hLn h53 (hNx h43)) (hSet h53 (hNx h43) (9 : Int) (116 : Int))).bind fun h54 =>
  (gd ((hTy h54 (hNx h43) = 23 ∧ -128 ≤ (116 : Int) ∧ (116 : Int) ≤ 127 ∨ hTy h54 (hNx h43) = 25 ∧ 0 ≤ (116 : Int) ∧ (116 : Int) ≤ 1) ∧ 0 ≤ (10 : Int) ∧ (10 : Int) < hLn h54 (hNx h43)) (hSet h54 (hNx h43) (10 : Int) (116 : Int))).bind fun h55 =>
  (gd ((hTy h55 (hNx h43) = 23 ∧ -128 ≤ (0 : Int) ∧ (0 : Int) ≤ 127 ∨ hTy h55 (hNx h43) = 25 ∧ 0 ≤ (0 : Int) ∧ (0 : Int) ≤ 1) ∧ 0 ≤ (11 : Int) ∧ (11 : Int) < hLn h55 (hNx h43)) (hSet h55 (hNx h43) (11 : Int) (0 : Int))).bind fun h56 =>
  (gd ((hTy h56 (hNx h43) = 23 ∧ -128 ≤ (112 : Int) ∧ (112 : Int) ≤ 127 ∨ hTy h56 (hNx h43) = 25 ∧ 0 ≤ (112 : Int) ∧ (112 : Int) ≤ 1) ∧ 0 ≤ (12 : Int) ∧ (12 : Int) < hLn h56 (hNx h43)) (hSet h56 (hNx h43) (12 : Int) (112 : Int))).bind fun h57 =>
  (gd ((hTy h57 (hNx h43) = 23 ∧ -128 ≤ (97 : Int) ∧ (97 : Int) ≤ 127 ∨ hTy h57 (hNx h43) = 25 ∧ 0 ≤ (97 : Int) ∧ (97 : Int) ≤ 1) ∧ 0 ≤ (13 : Int) ∧ (13 : Int) < hLn h57 (hNx h43)) (hSet h57 (hNx h43) (13 : Int) (97 : Int))).bind fun h58 =>
  (gd ((hTy h58 (hNx h43) = 23 ∧ -128 ≤ (114 : Int) ∧ (114 : Int) ≤ 127 ∨ hTy h58 (hNx h43) = 25 ∧ 0 ≤ (114 : Int) ∧ (114 : Int) ≤ 1) ∧ 0 ≤ (14 : Int) ∧ (14 : Int) < hLn h58 (hNx h43)) (hSet h58 (hNx h43) (14 : Int) (114 : Int))).bind fun h59 =>
  (gd ((hTy h59 (hNx h43) = 23 ∧ -128 ≤ (116 : Int) ∧ (116 : Int) ≤ 127 ∨ hTy h59 (hNx h43) = 25 ∧ 0 ≤ (116 : Int) ∧ (116 : Int) ≤ 1) ∧ 0 ≤ (15 : Int) ∧ (15 : Int) < hLn h59 (hNx h43)) (hSet h59 (hNx h43) (15 : Int) (116 : Int))).bind fun h60 =>
  (gd ((hTy h60 (hNx h43) = 23 ∧ -128 ≤ (0 : Int) ∧ (0 : Int) ≤ 127 ∨ hTy h60 (hNx h43) = 25 ∧ 0 ≤ (0 : Int) ∧ (0 : Int) ≤ 1) ∧ 0 ≤ (16 : Int) ∧ (16 : Int) < hLn h60 (hNx h43)) (hSet h60 (hNx h43) (16 : Int) (0 : Int))).bind fun h61 =>
  (gd ((hTy h61 (hNx h43) = 23 ∧ -128 ≤ (108 : Int) ∧ (108 : Int) ≤ 127 ∨ hTy h61 (hNx h43) = 25 ∧ 0 ≤ (108 : Int) ∧ (108 : Int) ≤ 1) ∧ 0 ≤ (17 : Int) ∧ (17 : Int) < hLn h61 (hNx h43)) (hSet h61 (hNx h43) (17 : Int) (108 : Int))).bind fun h62 =>
  (gd ((hTy h62 (hNx h43) = 23 ∧ -128 ≤ (117 : Int) ∧ (117 : Int) ≤ 127 ∨ hTy h62 (hNx h43) = 25 ∧ 0 ≤ (117 : Int) ∧ (117 : Int) ≤ 1) ∧ 0 ≤ (18 : Int) ∧ (18 : Int) < hLn h62 (hNx h43)) (hSet h62 (hNx h43) (18 : Int) (117 : Int))).bind fun h63 =>
  (gd ((hTy h63 (hNx h43) = 23 ∧ -128 ≤ (99 : Int) ∧ (99 : Int) ≤ 127 ∨ hTy h63 (hNx h43) = 25 ∧ 0 ≤ (99 : Int) ∧ (99 : Int) ≤ 1) ∧ 0 ≤ (19 : Int) ∧ (19 : Int) < hLn h63 (hNx h43)) (hSet h63 (hNx h43) (19 : Int) (99 : Int))).bind fun h64 =>
  (gd ((hTy h64 (hNx h43) = 23 ∧ -128 ≤ (97 : Int) ∧ (97 : Int) ≤ 127 ∨ hTy h64 (hNx h43) = 25 ∧ 0 ≤ (97 : Int) ∧ (97 : Int) ≤ 1) ∧ 0 ≤ (20 : Int) ∧ (20 : Int) < hLn h64 (hNx h43)) (hSet h64 (hNx h43) (20 : Int) (97 : Int))).bind fun h65 =>
  (gd ((hTy h65 (hNx h43) = 23 ∧ -128 ≤ (115 : Int) ∧ (115 : Int) ≤ 127 ∨ hTy h65 (hNx h43) = 25 ∧ 0 ≤ (115 : Int) ∧ (115 : Int) ≤ 1) ∧ 0 ≤ (21 : Int) ∧ (21 : Int) < hLn h65 (hNx h43)) (hSet h65 (hNx h43) (21 : Int) (115 : Int))).bind fun h66 =>
  (gd ((hTy h66 (hNx h43) = 23 ∧ -128 ≤ (0 : Int) ∧ (0 : Int) ≤ 127 ∨ hTy h66 (hNx h43) = 25 ∧ 0 ≤ (0 : Int) ∧ (0 : Int) ≤ 1) ∧ 0 ≤ (22 : Int) ∧ (22 : Int) < hLn h66 (hNx h43)) (hSet h66 (hNx h43) (22 : Int) (0 : Int))).bind fun h67 =>
  (gd ((hTy h67 (hNx h43) = 23 ∧ -128 ≤ (98 : Int) ∧ (98 : Int) ≤ 127 ∨ hTy h67 (hNx h43) = 25 ∧ 0 ≤ (98 : Int) ∧ (98 : Int) ≤ 1) ∧ 0 ≤ (23 : Int) ∧ (23 : Int) < hLn h67 (hNx h43)) (hSet h67 (hNx h43) (23 : Int) (98 : Int))).bind fun h68 =>
  (gd ((hTy h68 (hNx h43) = 23 ∧ -128 ≤ (111 : Int) ∧ (111 : Int) ≤ 127 ∨ hTy h68 (hNx h43) = 25 ∧ 0 ≤ (111 : Int) ∧ (111 : Int) ≤ 1) ∧ 0 ≤ (24 : Int) ∧ (24 : Int) < hLn h68 (hNx h43)) (hSet h68 (hNx h43) (24 : Int) (111 : Int))).bind fun h69 =>
  (gd ((hTy h69 (hNx h43) = 23 ∧ -128 ≤ (116 : Int) ∧ (116 : Int) ≤ 127 ∨ hTy h69 (hNx h43) = 25 ∧ 0 ≤ (116 : Int) ∧ (116 : Int) ≤ 1) ∧ 0 ≤ (25 : Int) ∧ (25 : Int) < hLn h69 (hNx h43)) (hSet h69 (hNx h43) (25 : Int) (116 : Int))).bind fun h70 =>
  (gd ((hTy h70 (hNx h43) = 23 ∧ -128 ≤ (104 : Int) ∧ (104 : Int) ≤ 127 ∨ hTy h70 (hNx h43) = 25 ∧ 0 ≤ (104 : Int) ∧ (104 : Int) ≤ 1) ∧ 0 ≤ (26 : Int) ∧ (26 : Int) < hLn h70 (hNx h43)) (hSet h70 (hNx h43) (26 : Int) (104 : Int))).bind fun h71 =>
  (gd ((hTy h71 (hNx h43) = 23 ∧ -128 ≤ (0 : Int) ∧ (0 : Int) ≤ 127 ∨ hTy h71 (hNx h43) = 25 ∧ 0 ≤ (0 : Int) ∧ (0 : Int) ≤ 1) ∧ 0 ≤ (27 : Int) ∧ (27 : Int) < hLn h71 (hNx h43)) (hSet h71 (hNx h43) (27 : Int) (0 : Int))).bind fun h72 =>
  (gd ((hTy h72 (hNx h43) = 23 ∧ -128 ≤ (98 : Int) ∧ (98 : Int) ≤ 127 ∨ hTy h72 (hNx h43) = 25 ∧ 0 ≤ (98 : Int) ∧ (98 : Int) ≤ 1) ∧ 0 ≤ (28 : Int) ∧ (28 : Int) < hLn h72 (hNx h43)) (hSet h72 (hNx h43) (28 : Int) (98 : Int))).bind fun h73 =>
  (gd ((hTy h73 (hNx h43) = 23 ∧ -128 ≤ (97 : Int) ∧ (97 : Int) ≤ 127 ∨ hTy h73 (hNx h43) = 25 ∧ 0 ≤ (97 : Int) ∧ (97 : Int) ≤ 1) ∧ 0 ≤ (29 : Int) ∧ (29 : Int) < hLn h73 (hNx h43)) (hSet h73 (hNx h43) (29 : Int) (97 : Int))).bind fun h74 =>
  (gd ((hTy h74 (hNx h43) = 23 ∧ -128 ≤ (115 : Int) ∧ (115 : Int) ≤ 127 ∨ hTy h74 (hNx h43) = 25 ∧ 0 ≤ (115 : Int) ∧ (115 : Int) ≤ 1) ∧ 0 ≤ (30 : Int) ∧ (30 : Int) < hLn h74 (hNx h43)) (hSet h74 (hNx h43) (30 : Int) (115 : Int))).bind fun h75 =>
  (gd ((hTy h75 (hNx h43) = 23 ∧ -128 ≤ (101 : Int) ∧ (101 : Int) ≤ 127 ∨ hTy h75 (hNx h43) = 25 ∧ 0 ≤ (101 : Int) ∧ (101 : Int) ≤ 1) ∧ 0 ≤ (31 : Int) ∧ (31 : Int) < hLn h75 (hNx h43)) (hSet h75 (hNx h43) (31 : Int) (101 : Int))).bind fun h76 =>
  (gd ((hTy h76 (hNx h43) = 23 ∧ -128 ≤ (0 : Int) ∧ (0 : Int) ≤ 127 ∨ hTy h76 (hNx h43) = 25 ∧ 0 ≤ (0 : Int) ∧ (0 : Int) ≤ 1) ∧ 0 ≤ (32 : Int) ∧ (32 : Int) < hLn h76 (hNx h43)) (hSet h76 (hNx h43) (32 : Int) (0 : Int))).bind fun h77 =>
  (gd ((hTy h77 (hNx h43) = 23 ∧ -128 ≤ (98 : Int) ∧ (98 : Int) ≤ 127 ∨ hTy h77 (hNx h43) = 25 ∧ 0 ≤ (98 : Int) ∧ (98 : Int) ≤ 1) ∧ 0 ≤ (33 : Int) ∧ (33 : Int) < hLn h77 (hNx h43)) (hSet h77 (hNx h43) (33 : Int) (98 : Int))).bind fun h78 =>
  (gd ((hTy h78 (hNx h43) = 23 ∧ -128 ≤ (121 : Int) ∧ (121 : Int) ≤ 127 ∨ hTy h78 (hNx h43) = 25 ∧ 0 ≤ (121 : Int) ∧ (121 : Int) ≤ 1) ∧ 0 ≤ (34 : Int) ∧ (34 : Int) < hLn h78 (hNx h43)) (hSet h78 (hNx h43) (34 : Int) (121 : Int))).bind fun h79 =>
  (gd ((hTy h79 (hNx h43) = 23 ∧ -128 ≤ (0 : Int) ∧ (0 : Int) ≤ 127 ∨ hTy h79 (hNx h43) = 25 ∧ 0 ≤ (0 : Int) ∧ (0 : Int) ≤ 1) ∧ 0 ≤ (35 : Int) ∧ (35 : Int) < hLn h79 (hNx h43)) (hSet h79 (hNx h43) (35 : Int) (0 : Int))).bind fun h80 =>
  (gd ((hTy h80 (hNx h43) = 23 ∧ -128 ≤ (119 : Int) ∧ (119 : Int) ≤ 127 ∨ hTy h80 (hNx h43) = 25 ∧ 0 ≤ (119 : Int) ∧ (119 : Int) ≤ 1) ∧ 0 ≤ (36 : Int) ∧ (36 : Int) < hLn h80 (hNx h43)) (hSet h80 (hNx h43) (36 : Int) (119 : Int))).bind fun h81 =>
  (gd ((hTy h81 (hNx h43) = 23 ∧ -128 ≤ (105 : Int) ∧ (105 : Int) ≤ 127 ∨ hTy h81 (hNx h43) = 25 ∧ 0 ≤ (105 : Int) ∧ (105 : Int) ≤ 1) ∧ 0 ≤ (37 : Int) ∧ (37 : Int) < hLn h81 (hNx h43)) (hSet h81 (hNx h43) (37 : Int) (105 : Int))).bind fun h82 =>
  (gd ((hTy h82 (hNx h43) = 23 ∧ -128 ≤ (116 : Int) ∧ (116 : Int) ≤ 127 ∨ hTy h82 (hNx h43) = 25 ∧ 0 ≤ (116 : Int) ∧ (116 : Int) ≤ 1) ∧ 0 ≤ (38 : Int) ∧ (38 : Int) < hLn h82 (hNx h43)) (hSet h82 (hNx h43) (38 : Int) (116 : Int))).bind fun h83 =>
  (gd ((hTy h83 (hNx h43) = 23 ∧ -128 ≤ (104 : Int) ∧ (104 : Int) ≤ 127 ∨ hTy h83 (hNx h43) = 25 ∧ 0 ≤ (104 : Int) ∧ (104 : Int) ≤ 1) ∧ 0 ≤ (39 : Int) ∧ (39 : Int) < hLn h83 (hNx h43)) (hSet h83 (hNx h43) (39 : Int) (104 : Int))).bind fun h84 =>
  (gd ((hTy h84 (hNx h43) = 23 ∧ -128 ≤ (0 : Int) ∧ (0 : Int) ≤ 127 ∨ hTy h84 (hNx h43) = 25 ∧ 0 ≤ (0 : Int) ∧ (0 : Int) ≤ 1) ∧ 0 ≤ (40 : Int) ∧ (40 : Int) < hLn h84 (hNx h43)) (hSet h84 (hNx h43) (40 : Int) (0 : Int))).bind fun h85 =>
  (gd ((hTy h85 (hNx h43) = 23 ∧ -128 ≤ (100 : Int) ∧ (100 : Int) ≤ 127 ∨ hTy h85 (hNx h43) = 25 ∧ 0 ≤ (100 : Int) ∧ (100 : Int) ≤ 1) ∧ 0 ≤ (41 : Int) ∧ (41 : Int) < hLn h85 (hNx h43)) (hSet h85 (hNx h43) (41 : Int) (100 : Int))).bind fun h86 =>
  (gd ((hTy h86 (hNx h43) = 23 ∧ -128 ≤ (111 : Int) ∧ (111 : Int) ≤ 127 ∨ hTy h86 (hNx h43) = 25 ∧ 0 ≤ (111 : Int) ∧ (111 : Int) ≤ 1) ∧ 0 ≤ (42 : Int) ∧ (42 : Int) < hLn h86 (hNx h43)) (hSet h86 (hNx h43) (42 : Int) (111 : Int))).bind fun h87 =>
  (gd ((hTy h87 (hNx h43) = 23 ∧ -128 ≤ (119 : Int) ∧ (119 : Int) ≤ 127 ∨ hTy h87 (hNx h43) = 25 ∧ 0 ≤ (119 : Int) ∧ (119 : Int) ≤ 1) ∧ 0 ≤ (43 : Int) ∧ (43 : Int) < hLn h87 (hNx h43)) (hSet h87 (hNx h43) (43 : Int) (119 : Int))).bind fun h88 =>
  (gd ((hTy h88 (hNx h43) = 23 ∧ -128 ≤ (110 : Int) ∧ (110 : Int) ≤ 127 ∨ hTy h88 (hNx h43) = 25 ∧ 0 ≤ (110 : Int) ∧ (110 : Int) ≤ 1) ∧ 0 ≤ (44 : Int) ∧ (44 : Int) < hLn h88 (hNx h43)) (hSet h88 (hNx h43) (44 : Int) (110 : Int))).bind fun h89 =>
  (gd ((hTy h89 (hNx h43) = 23 ∧ -128 ≤ (0 : Int) ∧ (0 : Int) ≤ 127 ∨ hTy h89 (hNx h43) = 25 ∧ 0 ≤ (0 : Int) ∧ (0 : Int) ≤ 1) ∧ 0 ≤ (45 : Int) ∧ (45 : Int) < hLn h89 (hNx h43)) (hSet h89 (hNx h43) (45 : Int) (0 : Int))).bind fun h90 =>
  (gd ((hTy h90 (hNx h43) = 23 ∧ -128 ≤ (117 : Int) ∧ (117 : Int) ≤ 127 ∨ hTy h90 (hNx h43) = 25 ∧ 0 ≤ (117 : Int) ∧ (117 : Int) ≤ 1) ∧ 0 ≤ (46 : Int) ∧ (46 : Int) < hLn h90 (hNx h43)) (hSet h90 (hNx h43) (46 : Int) (117 : Int))).bind fun h91 =>
  (gd ((hTy h91 (hNx h43) = 23 ∧ -128 ≤ (112 : Int) ∧ (112 : Int) ≤ 127 ∨ hTy h91 (hNx h43) = 25 ∧ 0 ≤ (112 : Int) ∧ (112 : Int) ≤ 1) ∧ 0 ≤ (47 : Int) ∧ (47 : Int) < hLn h91 (hNx h43)) (hSet h91 (hNx h43) (47 : Int) (112 : Int))).bind fun h92 =>
  (gd ((hTy h92 (hNx h43) = 23 ∧ -128 ≤ (0 : Int) ∧ (0 : Int) ≤ 127 ∨ hTy h92 (hNx h43) = 25 ∧ 0 ≤ (0 : Int) ∧ (0 : Int) ≤ 1) ∧ 0 ≤ (48 : Int) ∧ (48 : Int) < hLn h92 (hNx h43)) (hSet h92 (hNx h43) (48 : Int) (0 : Int))).bind fun h93 =>
  (gd (hTy h93 v0 = 10) (hSet h93 v0 31 (hNx h43))).bind fun h94 =>
  (gd (0 ≤ (600 : Int) ∧ (600 : Int) ≤ 2000) (hNew h94 21 (600 : Int) (dfA 21))).bind fun h95 =>
  (gd (hTy h95 v0 = 10) (hSet h95 v0 32 (hNx h94))).bind fun h96 =>
  (gd (0 ≤ (60 : Int) ∧ (60 : Int) ≤ 2000) (hNew h96 21 (60 : Int) (dfA 21))).bind fun h97 =>
  (gd (hTy h97 v0 = 10) (hSet h97 v0 34 (hNx h96))).bind fun h98 =>
  some h98
/-- PrimeProofsModel.in(JJJ)Z -/
def R_in (v0 : Int) (v2 : Int) (v4 : Int) : Option Int :=
  if v0 < v2 then
    some 0
  else
    if v4 < v0 then
      some 0
    else
      some 1
/-- PrimeProofsModel.isNumber(J)Z -/
def R_isNumber (v0 : Int) : Option Int :=
  (R_in v0 2 1000000000).bind fun u1 =>
  (gd (0 ≤ u1 ∧ u1 ≤ 1) 0).bind fun _ => some u1
/-- PrimeProofsModel.isPrime(J)Z -/
def R_isPrime_14 : Nat → Int → Int → Option Int
  | 0, _, _ => none
  | fu + 1, v0, v2 =>
    if v0 < (w64 (v2 * v2)) then
      some 1
    else
      (gd (v2 ≠ 0) (Int.tmod v0 v2)).bind fun u1 =>
      if u1 = (0 : Int) then
        some 0
      else
        R_isPrime_14 fu v0 (w64 (v2 + 1))
def R_isPrime (v0 : Int) : Option Int :=
  if v0 < (2 : Int) then
    some 0
  else
    R_isPrime_14 FU v0 2
/-- PrimeProofsModel.areTwice([III)Z -/
def R_areTwice_12 (k2 : Int → Int → Int → Int → AH → Option Int) : Nat → Int → Int → Int → Int → Int → AH → Option Int
  | 0, _, _, _, _, _, _ => none
  | fu + 1, v0, v1, v2, v3, v4, h =>
    if v4 < v3 then
      (gd (hTy h v0 = 21 ∧ 0 ≤ v3 ∧ v3 < hLn h v0) (hCe h v0 v3)).bind fun u1 =>
      (gd (hTy h v0 = 21 ∧ 0 ≤ v4 ∧ v4 < hLn h v0) (hCe h v0 v4)).bind fun u2 =>
      if u1 = u2 then
        some 1
      else
        R_areTwice_12 k2 fu v0 v1 v2 v3 (w32 (v4 + 1)) h
    else
      k2 v0 v1 v2 (w32 (v3 + 1)) h
def R_areTwice_2 : Nat → Int → Int → Int → Int → AH → Option Int
  | 0, _, _, _, _, _ => none
  | fu + 1, v0, v1, v2, v3, h =>
    if v3 < (w32 (v1 + v2)) then
      R_areTwice_12 (fun a0 a1 a2 a3 h0 => R_areTwice_2 fu a0 a1 a2 a3 h0) FU v0 v1 v2 v3 v1 h
    else
      some 0
def R_areTwice (v0 : Int) (v1 : Int) (v2 : Int) (h : AH) : Option Int :=
  R_areTwice_2 FU v0 v1 v2 v1 h
/-- PrimeProofsModel.lineFor(II)I -/
def R_lineFor_2 : Nat → Int → Int → Int → Int → AH → Option Int
  | 0, _, _, _, _, _ => none
  | fu + 1, v0, v1, v2, v3, h =>
    if v3 < v2 then
      (gd (hTy h v0 = 10) (hCe h v0 19)).bind fun u1 =>
      (gd ((hTy h u1 = 23 ∨ hTy h u1 = 25) ∧ 0 ≤ v3 ∧ v3 < hLn h u1) (hCe h u1 v3)).bind fun u2 =>
      if u2 = 0 then
        R_lineFor_2 fu v0 v1 v2 (w32 (v3 + 1)) h
      else
        (gd (hTy h v0 = 10) (hCe h v0 8)).bind fun u3 =>
        (gd (hTy h u3 = 21 ∧ 0 ≤ v3 ∧ v3 < hLn h u3) (hCe h u3 v3)).bind fun u4 =>
        if u4 = v1 then
          some v3
        else
          R_lineFor_2 fu v0 v1 v2 (w32 (v3 + 1)) h
    else
      some (-1)
def R_lineFor (v0 : Int) (v1 : Int) (v2 : Int) (h : AH) : Option Int :=
  R_lineFor_2 FU v0 v1 v2 0 h
/-- PrimeProofsModel.hasAll([IIII)Z -/
def R_hasAll_3 : Nat → Int → Int → Int → Int → Int → Int → AH → Option Int
  | 0, _, _, _, _, _, _, _ => none
  | fu + 1, v0, v1, v2, v3, v4, v5, h =>
    if v5 < (w32 (v2 + v3)) then
      (gd (hTy h v1 = 21 ∧ 0 ≤ v5 ∧ v5 < hLn h v1) (hCe h v1 v5)).bind fun u1 =>
      (gd (hTy h v0 = 10) 0).bind fun _ =>
      (R_lineFor v0 u1 v4 h).bind fun u2 =>
      if u2 = (-1 : Int) then
        some 0
      else
        R_hasAll_3 fu v0 v1 v2 v3 v4 (w32 (v5 + 1)) h
    else
      some 1
def R_hasAll (v0 : Int) (v1 : Int) (v2 : Int) (v3 : Int) (v4 : Int) (h : AH) : Option Int :=
  R_hasAll_3 FU v0 v1 v2 v3 v4 v2 h
/-- PrimeProofsModel.product([I[III)J -/
def R_product_18 (k6 : Int → Int → Int → Int → Int → Int → AH → Option Int) : Nat → Int → Int → Int → Int → Int → Int → Int → AH → Option Int
  | 0, _, _, _, _, _, _, _, _ => none
  | fu + 1, v1, v2, v3, v4, v5, v7, v8, h =>
    (gd (hTy h v2 = 21 ∧ 0 ≤ v7 ∧ v7 < hLn h v2) (hCe h v2 v7)).bind fun u1 =>
    if v8 < u1 then
      (gd (hTy h v1 = 21 ∧ 0 ≤ v7 ∧ v7 < hLn h v1) (hCe h v1 v7)).bind fun u2 =>
      (gd (u2 ≠ 0) (w64 (Int.tdiv 4000000000 u2))).bind fun u3 =>
      if u3 < v5 then
        R_product_18 k6 fu v1 v2 v3 v4 4000000000 v7 (w32 (v8 + 1)) h
      else
        (gd (hTy h v1 = 21 ∧ 0 ≤ v7 ∧ v7 < hLn h v1) (hCe h v1 v7)).bind fun u4 =>
        R_product_18 k6 fu v1 v2 v3 v4 (w64 (v5 * u4)) v7 (w32 (v8 + 1)) h
    else
      k6 v1 v2 v3 v4 v5 (w32 (v7 + 1)) h
def R_product_6 : Nat → Int → Int → Int → Int → Int → Int → AH → Option Int
  | 0, _, _, _, _, _, _, _ => none
  | fu + 1, v1, v2, v3, v4, v5, v7, h =>
    if v7 < (w32 (v3 + v4)) then
      R_product_18 (fun a0 a1 a2 a3 a4 a5 h0 => R_product_6 fu a0 a1 a2 a3 a4 a5 h0) FU v1 v2 v3 v4 v5 v7 0 h
    else
      some v5
def R_product (v0 : Int) (v1 : Int) (v2 : Int) (v3 : Int) (v4 : Int) (h : AH) : Option Int :=
  R_product_6 FU v1 v2 v3 v4 1 v3 h
/-- PrimeProofsModel.below(I)J -/
def R_below (v0 : Int) (v1 : Int) (h : AH) : Option Int :=
  (gd (hTy h v0 = 10) (hCe h v0 14)).bind fun u1 =>
  (gd (hTy h v0 = 10) (hCe h v0 15)).bind fun u2 =>
  (gd (hTy h v0 = 10) (hCe h v0 12)).bind fun u3 =>
  (gd (hTy h u3 = 21 ∧ 0 ≤ v1 ∧ v1 < hLn h u3) (hCe h u3 v1)).bind fun u4 =>
  (gd (hTy h v0 = 10) 0).bind fun _ =>
  (R_product v0 u1 u2 (w32 (9 * v1)) u4 h).bind fun u5 =>
  some u5
/-- PrimeProofsModel.above(I)J -/
def R_above (v0 : Int) (v1 : Int) (h : AH) : Option Int :=
  (gd (hTy h v0 = 10) (hCe h v0 17)).bind fun u1 =>
  (gd (hTy h v0 = 10) (hCe h v0 18)).bind fun u2 =>
  (gd (hTy h v0 = 10) (hCe h v0 13)).bind fun u3 =>
  (gd (hTy h u3 = 21 ∧ 0 ≤ v1 ∧ v1 < hLn h u3) (hCe h u3 v1)).bind fun u4 =>
  (gd (hTy h v0 = 10) 0).bind fun _ =>
  (R_product v0 u1 u2 (w32 (9 * v1)) u4 h).bind fun u5 =>
  some u5
/-- PrimeProofsModel.isFit(I)Z -/
def R_isFit (v0 : Int) (v1 : Int) (h : AH) : Option Int :=
  (gd (hTy h v0 = 10) (hCe h v0 8)).bind fun u1 =>
  (gd (hTy h u1 = 21 ∧ 0 ≤ v1 ∧ v1 < hLn h u1) (hCe h u1 v1)).bind fun u2 =>
  (gd (hTy h v0 = 10) 0).bind fun _ =>
  (R_below v0 v1 h).bind fun u3 =>
  (gd (hTy h v0 = 10) 0).bind fun _ =>
  (R_above v0 v1 h).bind fun u4 =>
  (gd (hTy h v0 = 10) (hCe h v0 9)).bind fun u5 =>
  (gd (hTy h u5 = 21 ∧ 0 ≤ v1 ∧ v1 < hLn h u5) (hCe h u5 v1)).bind fun u6 =>
  if u6 = 1 then
    if u3 = (w64 (u2 - 1)) then
      some 1
    else
      some 0
  else if u6 = 2 then
    (gd (u3 ≠ 0) (Int.tmod (w64 (u2 - 1)) u3)).bind fun u7 =>
    if u7 = (0 : Int) then
      some 1
    else
      some 0
  else if u6 = 3 then
    if u4 = (w64 (u2 + 1)) then
      some 1
    else
      some 0
  else 
    (gd (u3 ≠ 0) (Int.tmod (w64 (u2 - 1)) u3)).bind fun u8 =>
    if u8 = (0 : Int) then
      (gd (u4 ≠ 0) (Int.tmod (w64 (u2 + 1)) u4)).bind fun u9 =>
      if u9 = (0 : Int) then
        some 1
      else
        some 0
    else
      some 0
/-- PrimeProofsModel.common(JJ)J -/
def R_common_6 : Nat → Int → Int → Option Int
  | 0, _, _ => none
  | fu + 1, v4, v6 =>
    if v6 = (0 : Int) then
      some v4
    else
      (gd (v6 ≠ 0) (Int.tmod v4 v6)).bind fun u1 =>
      R_common_6 fu v6 u1
def R_common (v0 : Int) (v2 : Int) : Option Int :=
  R_common_6 FU v0 v2
/-- PrimeProofsModel.isLittle(JJJ)Z -/
def R_isLittle_34 (v0 : Int) (v6 : Int) : Option Int :=
  (gd (v6 ≠ 0) (Int.tmod v0 v6)).bind fun u1 =>
  if (1 : Int) < u1 then
    if u1 < v0 then
      (gd (u1 ≠ 0) (Int.tmod v0 u1)).bind fun u2 =>
      if u2 = (0 : Int) then
        some 1
      else
        some 0
    else
      some 0
  else
    some 0
def R_isLittle (v0 : Int) (v2 : Int) (v4 : Int) : Option Int :=
  (R_common v2 v4).bind fun u1 =>
  (gd (u1 ≠ 0) (w64 (Int.tdiv v2 u1))).bind fun u2 =>
  if (40000 : Int) < (w64 (u2 * v4)) then
    R_isLittle_34 v0 (w64 (u2 * v4))
  else
    if v0 < (w64 ((w64 (u2 * v4)) * (w64 (u2 * v4)))) then
      R_isLittle_34 v0 (w64 (u2 * v4))
    else
      some 1
/-- PrimeProofsModel.isEnough(I)Z -/
def R_isEnough (v0 : Int) (v1 : Int) (h : AH) : Option Int :=
  (gd (hTy h v0 = 10) 0).bind fun _ =>
  (R_below v0 v1 h).bind fun u1 =>
  (gd (hTy h v0 = 10) (hCe h v0 9)).bind fun u2 =>
  (gd (hTy h u2 = 21 ∧ 0 ≤ v1 ∧ v1 < hLn h u2) (hCe h u2 v1)).bind fun u3 =>
  if u3 = (2 : Int) then
    (gd (hTy h v0 = 10) (hCe h v0 8)).bind fun u4 =>
    (gd (hTy h u4 = 21 ∧ 0 ≤ v1 ∧ v1 < hLn h u4) (hCe h u4 v1)).bind fun u5 =>
    if u5 < (w64 (u1 * u1)) then
      some 1
    else
      some 0
  else
    (gd (hTy h v0 = 10) (hCe h v0 9)).bind fun u6 =>
    (gd (hTy h u6 = 21 ∧ 0 ≤ v1 ∧ v1 < hLn h u6) (hCe h u6 v1)).bind fun u7 =>
    if u7 = (4 : Int) then
      (gd (hTy h v0 = 10) (hCe h v0 8)).bind fun u8 =>
      (gd (hTy h u8 = 21 ∧ 0 ≤ v1 ∧ v1 < hLn h u8) (hCe h u8 v1)).bind fun u9 =>
      (gd (hTy h v0 = 10) 0).bind fun _ =>
      (R_above v0 v1 h).bind fun u10 =>
      (R_isLittle u9 u1 u10).bind fun u11 =>
      if u11 = 0 then
        some 1
      else
        some 0
    else
      some 1
/-- PrimeProofsModel.powerOf(JJJ)J -/
def R_powerOf_15 : Nat → Int → Int → Int → Int → Option Int
  | 0, _, _, _, _ => none
  | fu + 1, v4, v6, v8, v10 =>
    if (0 : Int) < v10 then
      if (andL v10 1) = (1 : Int) then
        (gd (v4 ≠ 0) (Int.tmod (w64 (v8 * v6)) v4)).bind fun u1 =>
        (gd (v4 ≠ 0) (Int.tmod (w64 (v6 * v6)) v4)).bind fun u2 =>
        R_powerOf_15 fu v4 u2 u1 (shrL v10 1)
      else
        (gd (v4 ≠ 0) (Int.tmod (w64 (v6 * v6)) v4)).bind fun u3 =>
        R_powerOf_15 fu v4 u3 v8 (shrL v10 1)
    else
      some v8
def R_powerOf (v0 : Int) (v2 : Int) (v4 : Int) : Option Int :=
  (gd (v4 ≠ 0) (Int.tmod v0 v4)).bind fun u1 =>
  (gd (v4 ≠ 0) (Int.tmod 1 v4)).bind fun u2 =>
  R_powerOf_15 FU v4 u1 u2 v2
/-- PrimeProofsModel.isOneBy(JJ)Z -/
def R_isOneBy (v0 : Int) (v2 : Int) : Option Int :=
  (R_powerOf v2 (w64 (v0 - 1)) v0).bind fun u1 =>
  if u1 = (1 : Int) then
    some 1
  else
    some 0
/-- PrimeProofsModel.isApartBy(JJJ)Z -/
def R_isApartBy_31 (v0 : Int) (s0 : Int) : Option Int :=
  (R_common s0 v0).bind fun u1 =>
  if u1 = (1 : Int) then
    some 1
  else
    some 0
def R_isApartBy (v0 : Int) (v2 : Int) (v4 : Int) : Option Int :=
  (gd (v4 ≠ 0) (w64 (Int.tdiv (w64 (v0 - 1)) v4))).bind fun u1 =>
  (R_powerOf v2 u1 v0).bind fun u2 =>
  if (w64 (u2 - 1)) < (0 : Int) then
    R_isApartBy_31 v0 (w64 ((w64 (u2 - 1)) + v0))
  else
    R_isApartBy_31 v0 (w64 (u2 - 1))
/-- PrimeProofsModel.hasPair(I)Z -/
def R_hasPair (v0 : Int) : Option Int :=
  if v0 = (3 : Int) then
    some 1
  else
    if v0 = (4 : Int) then
      some 1
    else
      some 0
/-- PrimeProofsModel.signOf(JJ)I -/
def R_signOf_33 (k26 : Int → Int → Int → Option Int) : Nat → Int → Int → Int → Option Int
  | 0, _, _, _ => none
  | fu + 1, v4, v6, v8 =>
    (gd ((2 : Int) ≠ 0) (Int.tmod v6 2)).bind fun u1 =>
    if u1 = (0 : Int) then
      (gd ((2 : Int) ≠ 0) (w64 (Int.tdiv v6 2))).bind fun u2 =>
      (gd ((8 : Int) ≠ 0) (Int.tmod v4 8)).bind fun u3 =>
      if u3 = (3 : Int) then
        R_signOf_33 k26 fu v4 u2 (w32 (-v8))
      else
        (gd ((8 : Int) ≠ 0) (Int.tmod v4 8)).bind fun u4 =>
        if u4 = (5 : Int) then
          R_signOf_33 k26 fu v4 u2 (w32 (-v8))
        else
          R_signOf_33 k26 fu v4 u2 v8
    else
      (gd ((4 : Int) ≠ 0) (Int.tmod v4 4)).bind fun u5 =>
      if u5 = (3 : Int) then
        (gd ((4 : Int) ≠ 0) (Int.tmod v6 4)).bind fun u6 =>
        if u6 = (3 : Int) then
          (gd (v6 ≠ 0) (Int.tmod v4 v6)).bind fun u7 =>
          k26 v6 u7 (w32 (-v8))
        else
          (gd (v6 ≠ 0) (Int.tmod v4 v6)).bind fun u8 =>
          k26 v6 u8 v8
      else
        (gd (v6 ≠ 0) (Int.tmod v4 v6)).bind fun u9 =>
        k26 v6 u9 v8
def R_signOf_26 : Nat → Int → Int → Int → Option Int
  | 0, _, _, _ => none
  | fu + 1, v4, v6, v8 =>
    if v6 = (0 : Int) then
      if v4 = (1 : Int) then
        some v8
      else
        some 0
    else
      R_signOf_33 (fun a0 a1 a2 => R_signOf_26 fu a0 a1 a2) FU v4 v6 v8
def R_signOf (v0 : Int) (v2 : Int) : Option Int :=
  (gd (v2 ≠ 0) (Int.tmod v0 v2)).bind fun u1 =>
  if u1 < (0 : Int) then
    R_signOf_26 FU v2 (w64 (u1 + v2)) 1
  else
    R_signOf_26 FU v2 u1 1
/-- PrimeProofsModel.times([J[JJ)V -/
def R_times_12 (k3 : Int → Int → Int → Int → Int → AH → Option AH) : Nat → Int → Int → Int → Int → Int → Int → AH → Option AH
  | 0, _, _, _, _, _, _, _ => none
  | fu + 1, v0, v1, v2, v3, v5, v6, h =>
    if v6 < (2 : Int) then
      (gd (hTy h v0 = 10) (hCe h v0 3)).bind fun u1 =>
      (gd (hTy h v1 = 22 ∧ 0 ≤ (w32 (2 * v5)) ∧ (w32 (2 * v5)) < hLn h v1) (hCe h v1 (w32 (2 * v5)))).bind fun u2 =>
      (gd (hTy h v2 = 22 ∧ 0 ≤ v6 ∧ v6 < hLn h v2) (hCe h v2 v6)).bind fun u3 =>
      (gd (hTy h v1 = 22 ∧ 0 ≤ (w32 ((w32 (2 * v5)) + 1)) ∧ (w32 ((w32 (2 * v5)) + 1)) < hLn h v1) (hCe h v1 (w32 ((w32 (2 * v5)) + 1)))).bind fun u4 =>
      (gd (hTy h v2 = 22 ∧ 0 ≤ (w32 (2 + v6)) ∧ (w32 (2 + v6)) < hLn h v2) (hCe h v2 (w32 (2 + v6)))).bind fun u5 =>
      (gd (v3 ≠ 0) (Int.tmod (w64 ((w64 (u2 * u3)) + (w64 (u4 * u5)))) v3)).bind fun u6 =>
      (gd (hTy h u1 = 22 ∧ 0 ≤ (w32 ((w32 (2 * v5)) + v6)) ∧ (w32 ((w32 (2 * v5)) + v6)) < hLn h u1) (hSet h u1 (w32 ((w32 (2 * v5)) + v6)) u6)).bind fun h7 =>
      R_times_12 k3 fu v0 v1 v2 v3 v5 (w32 (v6 + 1)) h7
    else
      k3 v0 v1 v2 v3 (w32 (v5 + 1)) h
def R_times_74 : Nat → Int → Int → Int → AH → Option AH
  | 0, _, _, _, _ => none
  | fu + 1, v0, v1, v5, h =>
    if v5 < (4 : Int) then
      (gd (hTy h v0 = 10) (hCe h v0 3)).bind fun u1 =>
      (gd (hTy h u1 = 22 ∧ 0 ≤ v5 ∧ v5 < hLn h u1) (hCe h u1 v5)).bind fun u2 =>
      (gd (hTy h v1 = 22 ∧ 0 ≤ v5 ∧ v5 < hLn h v1) (hSet h v1 v5 u2)).bind fun h3 =>
      R_times_74 fu v0 v1 (w32 (v5 + 1)) h3
    else
      some h
def R_times_3 : Nat → Int → Int → Int → Int → Int → AH → Option AH
  | 0, _, _, _, _, _, _ => none
  | fu + 1, v0, v1, v2, v3, v5, h =>
    if v5 < (2 : Int) then
      R_times_12 (fun a0 a1 a2 a3 a4 h0 => R_times_3 fu a0 a1 a2 a3 a4 h0) FU v0 v1 v2 v3 v5 0 h
    else
      R_times_74 FU v0 v1 0 h
def R_times (v0 : Int) (v1 : Int) (v2 : Int) (v3 : Int) (h : AH) : Option AH :=
  R_times_3 FU v0 v1 v2 v3 0 h
/-- PrimeProofsModel.sequence(JJJJ)J -/
def R_sequence_111 (k81 : Int → Int → Int → AH → Option (Int × AH)) (v0 : Int) (v7 : Int) (v9 : Int) (h : AH) : Option (Int × AH) :=
  (gd (hTy h v0 = 10) (hCe h v0 2)).bind fun u1 =>
  (gd (hTy h v0 = 10) (hCe h v0 2)).bind fun u2 =>
  (gd (hTy h v0 = 10) 0).bind fun _ =>
  (R_times v0 u1 u2 v7 h).bind fun h4 =>
  k81 v0 v7 (shrL v9 1) h4
def R_sequence_81 : Nat → Int → Int → Int → AH → Option (Int × AH)
  | 0, _, _, _, _ => none
  | fu + 1, v0, v7, v9, h =>
    if (0 : Int) < v9 then
      if (andL v9 1) = (1 : Int) then
        (gd (hTy h v0 = 10) (hCe h v0 1)).bind fun u1 =>
        (gd (hTy h v0 = 10) (hCe h v0 2)).bind fun u2 =>
        (gd (hTy h v0 = 10) 0).bind fun _ =>
        (R_times v0 u1 u2 v7 h).bind fun h4 =>
        R_sequence_111 (fun a0 a1 a2 h0 => R_sequence_81 fu a0 a1 a2 h0) v0 v7 v9 h4
      else
        R_sequence_111 (fun a0 a1 a2 h0 => R_sequence_81 fu a0 a1 a2 h0) v0 v7 v9 h
    else
      (gd (hTy h v0 = 10) (hCe h v0 1)).bind fun u5 =>
      (gd (hTy h u5 = 22 ∧ 0 ≤ (2 : Int) ∧ (2 : Int) < hLn h u5) (hCe h u5 (2 : Int))).bind fun u6 =>
      some (u6, h)
def R_sequence (v0 : Int) (v1 : Int) (v3 : Int) (v5 : Int) (v7 : Int) (h : AH) : Option (Int × AH) :=
  (gd (hTy h v0 = 10) (hCe h v0 1)).bind fun u1 =>
  (gd (v7 ≠ 0) (Int.tmod 1 v7)).bind fun u2 =>
  (gd (hTy h u1 = 22 ∧ 0 ≤ (0 : Int) ∧ (0 : Int) < hLn h u1) (hSet h u1 (0 : Int) u2)).bind fun h3 =>
  (gd (hTy h3 v0 = 10) (hCe h3 v0 1)).bind fun u4 =>
  (gd (hTy h3 u4 = 22 ∧ 0 ≤ (1 : Int) ∧ (1 : Int) < hLn h3 u4) (hSet h3 u4 (1 : Int) (0 : Int))).bind fun h5 =>
  (gd (hTy h5 v0 = 10) (hCe h5 v0 1)).bind fun u6 =>
  (gd (hTy h5 u6 = 22 ∧ 0 ≤ (2 : Int) ∧ (2 : Int) < hLn h5 u6) (hSet h5 u6 (2 : Int) (0 : Int))).bind fun h7 =>
  (gd (hTy h7 v0 = 10) (hCe h7 v0 1)).bind fun u8 =>
  (gd (v7 ≠ 0) (Int.tmod 1 v7)).bind fun u9 =>
  (gd (hTy h7 u8 = 22 ∧ 0 ≤ (3 : Int) ∧ (3 : Int) < hLn h7 u8) (hSet h7 u8 (3 : Int) u9)).bind fun h10 =>
  (gd (hTy h10 v0 = 10) (hCe h10 v0 2)).bind fun u11 =>
  (gd (v7 ≠ 0) (Int.tmod v1 v7)).bind fun u12 =>
  (gd (hTy h10 u11 = 22 ∧ 0 ≤ (0 : Int) ∧ (0 : Int) < hLn h10 u11) (hSet h10 u11 (0 : Int) u12)).bind fun h13 =>
  (gd (hTy h13 v0 = 10) (hCe h13 v0 2)).bind fun u14 =>
  (gd (v7 ≠ 0) (Int.tmod v3 v7)).bind fun u15 =>
  (gd (v7 ≠ 0) (Int.tmod (w64 (v7 - u15)) v7)).bind fun u16 =>
  (gd (hTy h13 u14 = 22 ∧ 0 ≤ (1 : Int) ∧ (1 : Int) < hLn h13 u14) (hSet h13 u14 (1 : Int) u16)).bind fun h17 =>
  (gd (hTy h17 v0 = 10) (hCe h17 v0 2)).bind fun u18 =>
  (gd (v7 ≠ 0) (Int.tmod 1 v7)).bind fun u19 =>
  (gd (hTy h17 u18 = 22 ∧ 0 ≤ (2 : Int) ∧ (2 : Int) < hLn h17 u18) (hSet h17 u18 (2 : Int) u19)).bind fun h20 =>
  (gd (hTy h20 v0 = 10) (hCe h20 v0 2)).bind fun u21 =>
  (gd (hTy h20 u21 = 22 ∧ 0 ≤ (3 : Int) ∧ (3 : Int) < hLn h20 u21) (hSet h20 u21 (3 : Int) (0 : Int))).bind fun h22 =>
  R_sequence_81 FU v0 v7 v5 h22
/-- PrimeProofsModel.wrongPair(IJJ)I -/
def R_wrongPair_67 : Nat → Int → Int → Int → Int → Int → Int → AH → Option (Int × AH)
  | 0, _, _, _, _, _, _, _ => none
  | fu + 1, v0, v1, v2, v4, v6, v8, h =>
    (gd (hTy h v0 = 10) (hCe h v0 13)).bind fun u1 =>
    (gd (hTy h u1 = 21 ∧ 0 ≤ v1 ∧ v1 < hLn h u1) (hCe h u1 v1)).bind fun u2 =>
    if v8 < u2 then
      (gd (hTy h v0 = 10) (hCe h v0 17)).bind fun u3 =>
      (gd (hTy h u3 = 21 ∧ 0 ≤ (w32 ((w32 (9 * v1)) + v8)) ∧ (w32 ((w32 (9 * v1)) + v8)) < hLn h u3) (hCe h u3 (w32 ((w32 (9 * v1)) + v8)))).bind fun u4 =>
      (gd (u4 ≠ 0) (w64 (Int.tdiv (w64 (v6 + 1)) u4))).bind fun u5 =>
      (gd (hTy h v0 = 10) 0).bind fun _ =>
      (R_sequence v0 v2 v4 u5 v6 h).bind fun u6 =>
      (R_common u6.1 v6).bind fun u7 =>
      if u7 = (1 : Int) then
        R_wrongPair_67 fu v0 v1 v2 v4 v6 (w32 (v8 + 1)) u6.2
      else
        some (9, u6.2)
    else
      some (0, h)
def R_wrongPair (v0 : Int) (v1 : Int) (v2 : Int) (v4 : Int) (h : AH) : Option (Int × AH) :=
  (gd (hTy h v0 = 10) (hCe h v0 8)).bind fun u1 =>
  (gd (hTy h u1 = 21 ∧ 0 ≤ v1 ∧ v1 < hLn h u1) (hCe h u1 v1)).bind fun u2 =>
  (R_signOf (w64 ((w64 (v2 * v2)) - (w64 (4 * v4)))) u2).bind fun u3 =>
  if u3 = (-1 : Int) then
    (R_common v4 u2).bind fun u4 =>
    if u4 = (1 : Int) then
      (gd (hTy h v0 = 10) 0).bind fun _ =>
      (R_sequence v0 v2 v4 (w64 (u2 + 1)) u2 h).bind fun u5 =>
      if u5.1 = (0 : Int) then
        R_wrongPair_67 FU v0 v1 v2 v4 u2 0 u5.2
      else
        some (8, u5.2)
    else
      some (7, h)
  else
    some (7, h)
/-- PrimeProofsModel.faultOf(I)I -/
def R_faultOf_198 : Nat → Int → Int → Int → Int → Int → Int → AH → Option (Int × AH)
  | 0, _, _, _, _, _, _, _ => none
  | fu + 1, v0, v1, v2, v3, v4, v5, h =>
    (gd (hTy h v0 = 10) (hCe h v0 12)).bind fun u1 =>
    (gd (hTy h u1 = 21 ∧ 0 ≤ v1 ∧ v1 < hLn h u1) (hCe h u1 v1)).bind fun u2 =>
    if v5 < (w32 (v4 + u2)) then
      (gd (hTy h v0 = 10) (hCe h v0 16)).bind fun u3 =>
      (gd (hTy h u3 = 21 ∧ 0 ≤ v5 ∧ v5 < hLn h u3) (hCe h u3 v5)).bind fun u4 =>
      (gd (hTy h v0 = 10) (hCe h v0 14)).bind fun u5 =>
      (gd (hTy h u5 = 21 ∧ 0 ≤ v5 ∧ v5 < hLn h u5) (hCe h u5 v5)).bind fun u6 =>
      (R_isApartBy v2 u4 u6).bind fun u7 =>
      if u7 = 0 then
        some (6, h)
      else
        R_faultOf_198 fu v0 v1 v2 v3 v4 (w32 (v5 + 1)) h
    else
      (R_hasPair v3).bind fun u8 =>
      if u8 = 0 then
        some (0, h)
      else
        (gd (hTy h v0 = 10) (hCe h v0 10)).bind fun u9 =>
        (gd (hTy h u9 = 21 ∧ 0 ≤ v1 ∧ v1 < hLn h u9) (hCe h u9 v1)).bind fun u10 =>
        (gd (hTy h v0 = 10) (hCe h v0 11)).bind fun u11 =>
        (gd (hTy h u11 = 21 ∧ 0 ≤ v1 ∧ v1 < hLn h u11) (hCe h u11 v1)).bind fun u12 =>
        (gd (hTy h v0 = 10) 0).bind fun _ =>
        (R_wrongPair v0 v1 u10 u12 h).bind fun u13 =>
        some (u13.1, u13.2)
def R_faultOf_156 : Nat → Int → Int → Int → Int → Int → Int → AH → Option (Int × AH)
  | 0, _, _, _, _, _, _, _ => none
  | fu + 1, v0, v1, v2, v3, v4, v5, h =>
    (gd (hTy h v0 = 10) (hCe h v0 12)).bind fun u1 =>
    (gd (hTy h u1 = 21 ∧ 0 ≤ v1 ∧ v1 < hLn h u1) (hCe h u1 v1)).bind fun u2 =>
    if v5 < (w32 (v4 + u2)) then
      (gd (hTy h v0 = 10) (hCe h v0 16)).bind fun u3 =>
      (gd (hTy h u3 = 21 ∧ 0 ≤ v5 ∧ v5 < hLn h u3) (hCe h u3 v5)).bind fun u4 =>
      (R_isOneBy v2 u4).bind fun u5 =>
      if u5 = 0 then
        some (5, h)
      else
        R_faultOf_156 fu v0 v1 v2 v3 v4 (w32 (v5 + 1)) h
    else
      R_faultOf_198 FU v0 v1 v2 v3 v4 v4 h
def R_faultOf (v0 : Int) (v1 : Int) (h : AH) : Option (Int × AH) :=
  (gd (hTy h v0 = 10) (hCe h v0 8)).bind fun u1 =>
  (gd (hTy h u1 = 21 ∧ 0 ≤ v1 ∧ v1 < hLn h u1) (hCe h u1 v1)).bind fun u2 =>
  (gd (hTy h v0 = 10) (hCe h v0 9)).bind fun u3 =>
  (gd (hTy h u3 = 21 ∧ 0 ≤ v1 ∧ v1 < hLn h u3) (hCe h u3 v1)).bind fun u4 =>
  if u4 = 0 then
    if u2 < (100 : Int) then
      (R_isPrime u2).bind fun u5 =>
      if u5 = 0 then
        some (1, h)
      else
        some (0, h)
    else
      some (1, h)
  else
    (gd ((2 : Int) ≠ 0) (Int.tmod u2 2)).bind fun u6 =>
    if u6 = 0 then
      some (1, h)
    else
      (gd (hTy h v0 = 10) (hCe h v0 14)).bind fun u7 =>
      (gd (hTy h v0 = 10) (hCe h v0 12)).bind fun u8 =>
      (gd (hTy h u8 = 21 ∧ 0 ≤ v1 ∧ v1 < hLn h u8) (hCe h u8 v1)).bind fun u9 =>
      (R_areTwice u7 (w32 (9 * v1)) u9 h).bind fun u10 =>
      if u10 = 0 then
        (gd (hTy h v0 = 10) (hCe h v0 17)).bind fun u11 =>
        (gd (hTy h v0 = 10) (hCe h v0 13)).bind fun u12 =>
        (gd (hTy h u12 = 21 ∧ 0 ≤ v1 ∧ v1 < hLn h u12) (hCe h u12 v1)).bind fun u13 =>
        (R_areTwice u11 (w32 (9 * v1)) u13 h).bind fun u14 =>
        if u14 = 0 then
          (gd (hTy h v0 = 10) (hCe h v0 14)).bind fun u15 =>
          (gd (hTy h v0 = 10) (hCe h v0 12)).bind fun u16 =>
          (gd (hTy h u16 = 21 ∧ 0 ≤ v1 ∧ v1 < hLn h u16) (hCe h u16 v1)).bind fun u17 =>
          (gd (hTy h v0 = 10) 0).bind fun _ =>
          (R_hasAll v0 u15 (w32 (9 * v1)) u17 v1 h).bind fun u18 =>
          if u18 = 0 then
            some (2, h)
          else
            (gd (hTy h v0 = 10) (hCe h v0 17)).bind fun u19 =>
            (gd (hTy h v0 = 10) (hCe h v0 13)).bind fun u20 =>
            (gd (hTy h u20 = 21 ∧ 0 ≤ v1 ∧ v1 < hLn h u20) (hCe h u20 v1)).bind fun u21 =>
            (gd (hTy h v0 = 10) 0).bind fun _ =>
            (R_hasAll v0 u19 (w32 (9 * v1)) u21 v1 h).bind fun u22 =>
            if u22 = 0 then
              some (2, h)
            else
              (gd (hTy h v0 = 10) 0).bind fun _ =>
              (R_isFit v0 v1 h).bind fun u23 =>
              if u23 = 0 then
                some (3, h)
              else
                (gd (hTy h v0 = 10) 0).bind fun _ =>
                (R_isEnough v0 v1 h).bind fun u24 =>
                if u24 = 0 then
                  some (4, h)
                else
                  R_faultOf_156 FU v0 v1 u2 u4 (w32 (9 * v1)) (w32 (9 * v1)) h
        else
          some (2, h)
      else
        some (2, h)
/-- PrimeProofsModel.laysRight()V -/
def R_laysRight_2 : Nat → Int → Int → AH → Option AH
  | 0, _, _, _ => none
  | fu + 1, v0, v1, h =>
    (gd (hTy h v0 = 10) (hCe h v0 7)).bind fun u1 =>
    if v1 < u1 then
      (gd (hTy h v0 = 10) (hCe h v0 20)).bind fun u2 =>
      (gd (hTy h v0 = 10) 0).bind fun _ =>
      (R_faultOf v0 v1 h).bind fun u3 =>
      (gd (hTy u3.2 u2 = 21 ∧ 0 ≤ v1 ∧ v1 < hLn u3.2 u2) (hSet u3.2 u2 v1 u3.1)).bind fun h4 =>
      (gd (hTy h4 v0 = 10) (hCe h4 v0 19)).bind fun u5 =>
      (gd (hTy h4 v0 = 10) (hCe h4 v0 20)).bind fun u6 =>
      (gd (hTy h4 u6 = 21 ∧ 0 ≤ v1 ∧ v1 < hLn h4 u6) (hCe h4 u6 v1)).bind fun u7 =>
      if u7 = 0 then
        (gd ((hTy h4 u5 = 23 ∧ -128 ≤ (1 : Int) ∧ (1 : Int) ≤ 127 ∨ hTy h4 u5 = 25 ∧ 0 ≤ (1 : Int) ∧ (1 : Int) ≤ 1) ∧ 0 ≤ v1 ∧ v1 < hLn h4 u5) (hSet h4 u5 v1 (1 : Int))).bind fun h8 =>
        R_laysRight_2 fu v0 (w32 (v1 + 1)) h8
      else
        (gd ((hTy h4 u5 = 23 ∧ -128 ≤ (0 : Int) ∧ (0 : Int) ≤ 127 ∨ hTy h4 u5 = 25 ∧ 0 ≤ (0 : Int) ∧ (0 : Int) ≤ 1) ∧ 0 ≤ v1 ∧ v1 < hLn h4 u5) (hSet h4 u5 v1 (0 : Int))).bind fun h9 =>
        R_laysRight_2 fu v0 (w32 (v1 + 1)) h9
    else
      some h
def R_laysRight (v0 : Int) (h : AH) : Option AH :=
  R_laysRight_2 FU v0 0 h
/-- PrimeProofsModel.begins(III)V -/
def R_begins (v0 : Int) (v1 : Int) (v2 : Int) (v3 : Int) (h : AH) : Option AH :=
  (gd (hTy h v0 = 10) (hCe h v0 8)).bind fun u1 =>
  (gd (hTy h u1 = 21 ∧ 0 ≤ v1 ∧ v1 < hLn h u1) (hSet h u1 v1 v2)).bind fun h2 =>
  (gd (hTy h2 v0 = 10) (hCe h2 v0 9)).bind fun u3 =>
  (gd (hTy h2 u3 = 21 ∧ 0 ≤ v1 ∧ v1 < hLn h2 u3) (hSet h2 u3 v1 v3)).bind fun h4 =>
  (gd (hTy h4 v0 = 10) (hCe h4 v0 10)).bind fun u5 =>
  (gd (hTy h4 u5 = 21 ∧ 0 ≤ v1 ∧ v1 < hLn h4 u5) (hSet h4 u5 v1 (0 : Int))).bind fun h6 =>
  (gd (hTy h6 v0 = 10) (hCe h6 v0 11)).bind fun u7 =>
  (gd (hTy h6 u7 = 21 ∧ 0 ≤ v1 ∧ v1 < hLn h6 u7) (hSet h6 u7 v1 (0 : Int))).bind fun h8 =>
  (gd (hTy h8 v0 = 10) (hCe h8 v0 12)).bind fun u9 =>
  (gd (hTy h8 u9 = 21 ∧ 0 ≤ v1 ∧ v1 < hLn h8 u9) (hSet h8 u9 v1 (0 : Int))).bind fun h10 =>
  (gd (hTy h10 v0 = 10) (hCe h10 v0 13)).bind fun u11 =>
  (gd (hTy h10 u11 = 21 ∧ 0 ≤ v1 ∧ v1 < hLn h10 u11) (hSet h10 u11 v1 (0 : Int))).bind fun h12 =>
  some h12
/-- PrimeProofsModel.laysFactors(J)V -/
def R_laysFactors_56 (k12 : Int → Int → Int → AH → Option AH) : Nat → Int → Int → Int → AH → Option AH
  | 0, _, _, _, _ => none
  | fu + 1, v0, v3, v5, h =>
    (gd (v5 ≠ 0) (Int.tmod v3 v5)).bind fun u1 =>
    if u1 = (0 : Int) then
      (gd (v5 ≠ 0) (w64 (Int.tdiv v3 v5))).bind fun u2 =>
      (gd (hTy h v0 = 10) (hCe h v0 5)).bind fun u3 =>
      (gd (hTy h v0 = 10) (hCe h v0 6)).bind fun u4 =>
      (gd (hTy h u3 = 21 ∧ 0 ≤ u4 ∧ u4 < hLn h u3) (hCe h u3 u4)).bind fun u5 =>
      (gd (hTy h u3 = 21 ∧ 0 ≤ u4 ∧ u4 < hLn h u3) (hSet h u3 u4 (w32 (u5 + 1)))).bind fun h6 =>
      R_laysFactors_56 k12 fu v0 u2 v5 h6
    else
      (gd (hTy h v0 = 10) (hCe h v0 6)).bind fun u7 =>
      (gd (hTy h v0 = 10) (hSet h v0 6 (w32 (u7 + 1)))).bind fun h8 =>
      k12 v0 v3 (w64 (v5 + 1)) h8
def R_laysFactors_12 : Nat → Int → Int → Int → AH → Option AH
  | 0, _, _, _, _ => none
  | fu + 1, v0, v3, v5, h =>
    if v3 < (w64 (v5 * v5)) then
      if v3 < (2 : Int) then
        some h
      else
        (gd (hTy h v0 = 10) (hCe h v0 4)).bind fun u1 =>
        (gd (hTy h v0 = 10) (hCe h v0 6)).bind fun u2 =>
        (gd (hTy h u1 = 21 ∧ 0 ≤ u2 ∧ u2 < hLn h u1) (hSet h u1 u2 (w32 v3))).bind fun h3 =>
        (gd (hTy h3 v0 = 10) (hCe h3 v0 5)).bind fun u4 =>
        (gd (hTy h3 v0 = 10) (hCe h3 v0 6)).bind fun u5 =>
        (gd (hTy h3 u4 = 21 ∧ 0 ≤ u5 ∧ u5 < hLn h3 u4) (hSet h3 u4 u5 (1 : Int))).bind fun h6 =>
        (gd (hTy h6 v0 = 10) (hCe h6 v0 6)).bind fun u7 =>
        (gd (hTy h6 v0 = 10) (hSet h6 v0 6 (w32 (u7 + 1)))).bind fun h8 =>
        some h8
    else
      (gd (v5 ≠ 0) (Int.tmod v3 v5)).bind fun u9 =>
      if u9 = (0 : Int) then
        (gd (hTy h v0 = 10) (hCe h v0 4)).bind fun u10 =>
        (gd (hTy h v0 = 10) (hCe h v0 6)).bind fun u11 =>
        (gd (hTy h u10 = 21 ∧ 0 ≤ u11 ∧ u11 < hLn h u10) (hSet h u10 u11 (w32 v5))).bind fun h12 =>
        (gd (hTy h12 v0 = 10) (hCe h12 v0 5)).bind fun u13 =>
        (gd (hTy h12 v0 = 10) (hCe h12 v0 6)).bind fun u14 =>
        (gd (hTy h12 u13 = 21 ∧ 0 ≤ u14 ∧ u14 < hLn h12 u13) (hSet h12 u13 u14 (0 : Int))).bind fun h15 =>
        R_laysFactors_56 (fun a0 a1 a2 h0 => R_laysFactors_12 fu a0 a1 a2 h0) FU v0 v3 v5 h15
      else
        R_laysFactors_12 fu v0 v3 (w64 (v5 + 1)) h
def R_laysFactors (v0 : Int) (v1 : Int) (h : AH) : Option AH :=
  (gd (hTy h v0 = 10) (hSet h v0 6 0)).bind fun h1 =>
  R_laysFactors_12 FU v0 v1 2 h1
/-- PrimeProofsModel.addsUp(III)V -/
def R_addsUp (v0 : Int) (v1 : Int) (v2 : Int) (v3 : Int) (h : AH) : Option AH :=
  (gd (hTy h v0 = 10) (hCe h v0 13)).bind fun u1 =>
  (gd (hTy h u1 = 21 ∧ 0 ≤ v1 ∧ v1 < hLn h u1) (hCe h u1 v1)).bind fun u2 =>
  (gd (hTy h v0 = 10) (hCe h v0 17)).bind fun u3 =>
  (gd (hTy h u3 = 21 ∧ 0 ≤ (w32 ((w32 (9 * v1)) + u2)) ∧ (w32 ((w32 (9 * v1)) + u2)) < hLn h u3) (hSet h u3 (w32 ((w32 (9 * v1)) + u2)) v2)).bind fun h4 =>
  (gd (hTy h4 v0 = 10) (hCe h4 v0 18)).bind fun u5 =>
  (gd (hTy h4 u5 = 21 ∧ 0 ≤ (w32 ((w32 (9 * v1)) + u2)) ∧ (w32 ((w32 (9 * v1)) + u2)) < hLn h4 u5) (hSet h4 u5 (w32 ((w32 (9 * v1)) + u2)) v3)).bind fun h6 =>
  (gd (hTy h6 v0 = 10) (hCe h6 v0 13)).bind fun u7 =>
  (gd (hTy h6 u7 = 21 ∧ 0 ≤ v1 ∧ v1 < hLn h6 u7) (hCe h6 u7 v1)).bind fun u8 =>
  (gd (hTy h6 u7 = 21 ∧ 0 ≤ v1 ∧ v1 < hLn h6 u7) (hSet h6 u7 v1 (w32 (u8 + 1)))).bind fun h9 =>
  some h9
/-- PrimeProofsModel.addsDown(IIII)V -/
def R_addsDown (v0 : Int) (v1 : Int) (v2 : Int) (v3 : Int) (v4 : Int) (h : AH) : Option AH :=
  (gd (hTy h v0 = 10) (hCe h v0 12)).bind fun u1 =>
  (gd (hTy h u1 = 21 ∧ 0 ≤ v1 ∧ v1 < hLn h u1) (hCe h u1 v1)).bind fun u2 =>
  (gd (hTy h v0 = 10) (hCe h v0 14)).bind fun u3 =>
  (gd (hTy h u3 = 21 ∧ 0 ≤ (w32 ((w32 (9 * v1)) + u2)) ∧ (w32 ((w32 (9 * v1)) + u2)) < hLn h u3) (hSet h u3 (w32 ((w32 (9 * v1)) + u2)) v2)).bind fun h4 =>
  (gd (hTy h4 v0 = 10) (hCe h4 v0 15)).bind fun u5 =>
  (gd (hTy h4 u5 = 21 ∧ 0 ≤ (w32 ((w32 (9 * v1)) + u2)) ∧ (w32 ((w32 (9 * v1)) + u2)) < hLn h4 u5) (hSet h4 u5 (w32 ((w32 (9 * v1)) + u2)) v3)).bind fun h6 =>
  (gd (hTy h6 v0 = 10) (hCe h6 v0 16)).bind fun u7 =>
  (gd (hTy h6 u7 = 21 ∧ 0 ≤ (w32 ((w32 (9 * v1)) + u2)) ∧ (w32 ((w32 (9 * v1)) + u2)) < hLn h6 u7) (hSet h6 u7 (w32 ((w32 (9 * v1)) + u2)) v4)).bind fun h8 =>
  (gd (hTy h8 v0 = 10) (hCe h8 v0 12)).bind fun u9 =>
  (gd (hTy h8 u9 = 21 ∧ 0 ≤ v1 ∧ v1 < hLn h8 u9) (hCe h8 u9 v1)).bind fun u10 =>
  (gd (hTy h8 u9 = 21 ∧ 0 ≤ v1 ∧ v1 < hLn h8 u9) (hSet h8 u9 v1 (w32 (u10 + 1)))).bind fun h11 =>
  some h11
/-- PrimeProofsModel.rowsOf(IZII)V -/
def R_rowsOf (v0 : Int) (v1 : Int) (v2 : Int) (v3 : Int) (v4 : Int) (h : AH) : Option AH :=
  if v2 = 0 then
    (gd (hTy h v0 = 10) (hCe h v0 4)).bind fun u1 =>
    (gd (hTy h u1 = 21 ∧ 0 ≤ v3 ∧ v3 < hLn h u1) (hCe h u1 v3)).bind fun u2 =>
    (gd (hTy h v0 = 10) (hCe h v0 5)).bind fun u3 =>
    (gd (hTy h u3 = 21 ∧ 0 ≤ v3 ∧ v3 < hLn h u3) (hCe h u3 v3)).bind fun u4 =>
    (gd (hTy h v0 = 10) 0).bind fun _ =>
    (R_addsDown v0 v1 u2 u4 v4 h).bind fun h6 =>
    some h6
  else
    (gd (hTy h v0 = 10) (hCe h v0 4)).bind fun u7 =>
    (gd (hTy h u7 = 21 ∧ 0 ≤ v3 ∧ v3 < hLn h u7) (hCe h u7 v3)).bind fun u8 =>
    (gd (hTy h v0 = 10) (hCe h v0 5)).bind fun u9 =>
    (gd (hTy h u9 = 21 ∧ 0 ≤ v3 ∧ v3 < hLn h u9) (hCe h u9 v3)).bind fun u10 =>
    (gd (hTy h v0 = 10) 0).bind fun _ =>
    (R_addsUp v0 v1 u8 u10 h).bind fun h12 =>
    some h12
/-- PrimeProofsModel.turns(II)V -/
def R_turns_106 (k34 : Int → Int → Int → Int → Int → Int → AH → Option AH) (v0 : Int) (v1 : Int) (v2 : Int) (v3 : Int) (v4 : Int) (v6 : Int) (s0 : Int) (s1 : Int) (s2 : Int) (s3 : Int) (h : AH) : Option AH :=
  (gd (hTy h s3 = 10) 0).bind fun _ =>
  (R_rowsOf s3 s2 s1 s0 2 h).bind fun h2 =>
  if v6 = 0 then
    if v6 = 0 then
      k34 v0 v1 v2 (w32 (v3 + (-1))) v4 1 h2
    else
      k34 v0 v1 v2 (w32 (v3 + (-1))) v4 0 h2
  else
    if v6 = 0 then
      k34 v0 v1 v2 v3 (w32 (v4 + (-1))) 1 h2
    else
      k34 v0 v1 v2 v3 (w32 (v4 + (-1))) 0 h2
def R_turns_88 (k34 : Int → Int → Int → Int → Int → Int → AH → Option AH) (v0 : Int) (v1 : Int) (v2 : Int) (v3 : Int) (v4 : Int) (v6 : Int) (s0 : Int) (s1 : Int) (h : AH) : Option AH :=
  (gd (hTy h s1 = 10) 0).bind fun _ =>
  (R_laysFactors s1 s0 h).bind fun h2 =>
  if v6 = 0 then
    R_turns_106 k34 v0 v1 v2 v3 v4 v6 v3 v6 v1 v0 h2
  else
    R_turns_106 k34 v0 v1 v2 v3 v4 v6 v4 v6 v1 v0 h2
def R_turns_69 (k34 : Int → Int → Int → Int → Int → Int → AH → Option AH) (v0 : Int) (v1 : Int) (v2 : Int) (v3 : Int) (v4 : Int) (s0 : Int) (h : AH) : Option AH :=
  if s0 = 0 then
    R_turns_88 k34 v0 v1 v2 v3 v4 s0 (w64 (v2 - 1)) v0 h
  else
    R_turns_88 k34 v0 v1 v2 v3 v4 s0 (w64 (v2 + 1)) v0 h
def R_turns_34 : Nat → Int → Int → Int → Int → Int → Int → AH → Option AH
  | 0, _, _, _, _, _, _, _ => none
  | fu + 1, v0, v1, v2, v3, v4, v5, h =>
    (gd (hTy h v0 = 10) 0).bind fun _ =>
    (R_isEnough v0 v1 h).bind fun u1 =>
    if u1 = 0 then
      if v5 = 0 then
        if v3 < 0 then
          R_turns_69 (fun a0 a1 a2 a3 a4 a5 h0 => R_turns_34 fu a0 a1 a2 a3 a4 a5 h0) v0 v1 v2 v3 v4 1 h
        else
          R_turns_69 (fun a0 a1 a2 a3 a4 a5 h0 => R_turns_34 fu a0 a1 a2 a3 a4 a5 h0) v0 v1 v2 v3 v4 0 h
      else
        if v4 < 0 then
          R_turns_69 (fun a0 a1 a2 a3 a4 a5 h0 => R_turns_34 fu a0 a1 a2 a3 a4 a5 h0) v0 v1 v2 v3 v4 0 h
        else
          R_turns_69 (fun a0 a1 a2 a3 a4 a5 h0 => R_turns_34 fu a0 a1 a2 a3 a4 a5 h0) v0 v1 v2 v3 v4 1 h
    else
      some h
def R_turns (v0 : Int) (v1 : Int) (v2 : Int) (h : AH) : Option AH :=
  (gd (hTy h v0 = 10) 0).bind fun _ =>
  (R_laysFactors v0 (w64 (v2 - 1)) h).bind fun h2 =>
  (gd (hTy h2 v0 = 10) (hCe h2 v0 6)).bind fun u3 =>
  (gd (hTy h2 v0 = 10) 0).bind fun _ =>
  (R_laysFactors v0 (w64 (v2 + 1)) h2).bind fun h5 =>
  (gd (hTy h5 v0 = 10) (hCe h5 v0 6)).bind fun u6 =>
  R_turns_34 FU v0 v1 v2 (w32 (u3 - 1)) (w32 (u6 - 1)) 0 h5
/-- PrimeProofsModel.laysRows(I)V -/
def R_laysRows_118 : Nat → Int → Int → Int → AH → Option AH
  | 0, _, _, _, _ => none
  | fu + 1, v0, v1, v4, h =>
    if v4 < 0 then
      some h
    else
      (gd (hTy h v0 = 10) 0).bind fun _ =>
      (R_isEnough v0 v1 h).bind fun u1 =>
      if u1 = 0 then
        (gd (hTy h v0 = 10) 0).bind fun _ =>
        (R_rowsOf v0 v1 0 v4 2 h).bind fun h3 =>
        R_laysRows_118 fu v0 v1 (w32 (v4 + (-1))) h3
      else
        some h
def R_laysRows_82 (k61 : Int → Int → Int → Int → AH → Option AH) (v0 : Int) (v1 : Int) (v2 : Int) (v4 : Int) (s0 : Int) (s1 : Int) (s2 : Int) (h : AH) : Option AH :=
  (gd (hTy h s2 = 10) 0).bind fun _ =>
  (R_rowsOf s2 s1 s0 v4 2 h).bind fun h2 =>
  k61 v0 v1 v2 (w32 (v4 + 1)) h2
def R_laysRows_61 : Nat → Int → Int → Int → Int → AH → Option AH
  | 0, _, _, _, _, _ => none
  | fu + 1, v0, v1, v2, v4, h =>
    (gd (hTy h v0 = 10) (hCe h v0 6)).bind fun u1 =>
    if v4 < u1 then
      if v2 = (3 : Int) then
        R_laysRows_82 (fun a0 a1 a2 a3 h0 => R_laysRows_61 fu a0 a1 a2 a3 h0) v0 v1 v2 v4 1 v1 v0 h
      else
        R_laysRows_82 (fun a0 a1 a2 a3 h0 => R_laysRows_61 fu a0 a1 a2 a3 h0) v0 v1 v2 v4 0 v1 v0 h
    else
      some h
def R_laysRows_55 (v0 : Int) (v1 : Int) (v2 : Int) (s0 : Int) (s1 : Int) (h : AH) : Option AH :=
  (gd (hTy h s1 = 10) 0).bind fun _ =>
  (R_laysFactors s1 s0 h).bind fun h2 =>
  R_laysRows_61 FU v0 v1 v2 0 h2
def R_laysRows (v0 : Int) (v1 : Int) (h : AH) : Option AH :=
  (gd (hTy h v0 = 10) (hCe h v0 9)).bind fun u1 =>
  (gd (hTy h u1 = 21 ∧ 0 ≤ v1 ∧ v1 < hLn h u1) (hCe h u1 v1)).bind fun u2 =>
  (gd (hTy h v0 = 10) (hCe h v0 8)).bind fun u3 =>
  (gd (hTy h u3 = 21 ∧ 0 ≤ v1 ∧ v1 < hLn h u3) (hCe h u3 v1)).bind fun u4 =>
  (gd (hTy h v0 = 10) (hCe h v0 12)).bind fun u5 =>
  (gd (hTy h u5 = 21 ∧ 0 ≤ v1 ∧ v1 < hLn h u5) (hSet h u5 v1 (0 : Int))).bind fun h6 =>
  (gd (hTy h6 v0 = 10) (hCe h6 v0 13)).bind fun u7 =>
  (gd (hTy h6 u7 = 21 ∧ 0 ≤ v1 ∧ v1 < hLn h6 u7) (hSet h6 u7 v1 (0 : Int))).bind fun h8 =>
  if u2 = (1 : Int) then
    if u2 = (1 : Int) then
      R_laysRows_55 v0 v1 u2 (w64 (u4 - 1)) v0 h8
    else
      R_laysRows_55 v0 v1 u2 (w64 (u4 + 1)) v0 h8
  else
    if u2 = (3 : Int) then
      if u2 = (1 : Int) then
        R_laysRows_55 v0 v1 u2 (w64 (u4 - 1)) v0 h8
      else
        R_laysRows_55 v0 v1 u2 (w64 (u4 + 1)) v0 h8
    else
      if u2 = (2 : Int) then
        (gd (hTy h8 v0 = 10) 0).bind fun _ =>
        (R_laysFactors v0 (w64 (u4 - 1)) h8).bind fun h10 =>
        (gd (hTy h10 v0 = 10) (hCe h10 v0 6)).bind fun u11 =>
        R_laysRows_118 FU v0 v1 (w32 (u11 - 1)) h10
      else
        if u2 = (4 : Int) then
          (gd (hTy h8 v0 = 10) 0).bind fun _ =>
          (R_turns v0 v1 u4 h8).bind fun h13 =>
          some h13
        else
          some h8
/-- PrimeProofsModel.laysBases(I)Z -/
def R_laysBases_156 (k140 : Int → Int → Int → Int → Int → AH → Option (Int × AH)) : Nat → Int → Int → Int → Int → Int → Int → AH → Option (Int × AH)
  | 0, _, _, _, _, _, _, _ => none
  | fu + 1, v0, v1, v2, v3, v4, v5, h =>
    if (999 : Int) < v5 then
      if (999 : Int) < v5 then
        some (0, h)
      else
        (gd (hTy h v0 = 10) (hCe h v0 16)).bind fun u1 =>
        (gd (hTy h u1 = 21 ∧ 0 ≤ v4 ∧ v4 < hLn h u1) (hSet h u1 v4 v5)).bind fun h2 =>
        k140 v0 v1 v2 v3 (w32 (v4 + 1)) h2
    else
      (R_isOneBy v3 v5).bind fun u3 =>
      if u3 = 0 then
        R_laysBases_156 k140 fu v0 v1 v2 v3 v4 (w32 (v5 + 1)) h
      else
        (gd (hTy h v0 = 10) (hCe h v0 14)).bind fun u4 =>
        (gd (hTy h u4 = 21 ∧ 0 ≤ v4 ∧ v4 < hLn h u4) (hCe h u4 v4)).bind fun u5 =>
        (R_isApartBy v3 v5 u5).bind fun u6 =>
        if u6 = 0 then
          R_laysBases_156 k140 fu v0 v1 v2 v3 v4 (w32 (v5 + 1)) h
        else
          if (999 : Int) < v5 then
            some (0, h)
          else
            (gd (hTy h v0 = 10) (hCe h v0 16)).bind fun u7 =>
            (gd (hTy h u7 = 21 ∧ 0 ≤ v4 ∧ v4 < hLn h u7) (hSet h u7 v4 v5)).bind fun h8 =>
            k140 v0 v1 v2 v3 (w32 (v4 + 1)) h8
def R_laysBases_140 : Nat → Int → Int → Int → Int → Int → AH → Option (Int × AH)
  | 0, _, _, _, _, _, _ => none
  | fu + 1, v0, v1, v2, v3, v4, h =>
    (gd (hTy h v0 = 10) (hCe h v0 12)).bind fun u1 =>
    (gd (hTy h u1 = 21 ∧ 0 ≤ v1 ∧ v1 < hLn h u1) (hCe h u1 v1)).bind fun u2 =>
    if v4 < (w32 (v2 + u2)) then
      R_laysBases_156 (fun a0 a1 a2 a3 a4 h0 => R_laysBases_140 fu a0 a1 a2 a3 a4 h0) FU v0 v1 v2 v3 v4 2 h
    else
      some (1, h)
def R_laysBases_99 : Nat → Int → Int → Int → Int → Int → AH → Option (Int × AH)
  | 0, _, _, _, _, _, _ => none
  | fu + 1, v0, v1, v2, v4, v6, h =>
    (gd (hTy h v0 = 10) (hCe h v0 12)).bind fun u1 =>
    (gd (hTy h u1 = 21 ∧ 0 ≤ v1 ∧ v1 < hLn h u1) (hCe h u1 v1)).bind fun u2 =>
    if v6 < (w32 (v2 + u2)) then
      (gd (hTy h v0 = 10) (hCe h v0 16)).bind fun u3 =>
      (gd (hTy h u3 = 21 ∧ 0 ≤ v6 ∧ v6 < hLn h u3) (hSet h u3 v6 v4)).bind fun h4 =>
      R_laysBases_99 fu v0 v1 v2 v4 (w32 (v6 + 1)) h4
    else
      some (1, h)
def R_laysBases_46 (k25 : Int → Int → Int → Int → Int → AH → Option (Int × AH)) : Nat → Int → Int → Int → Int → Int → Int → Int → AH → Option (Int × AH)
  | 0, _, _, _, _, _, _, _, _ => none
  | fu + 1, v0, v1, v2, v3, v4, v5, v6, h =>
    (gd (hTy h v0 = 10) (hCe h v0 12)).bind fun u1 =>
    (gd (hTy h u1 = 21 ∧ 0 ≤ v1 ∧ v1 < hLn h u1) (hCe h u1 v1)).bind fun u2 =>
    if v6 < (w32 (v2 + u2)) then
      if v5 = 0 then
        if v5 = 0 then
          k25 v0 v1 v2 v3 (w32 (v4 + 1)) h
        else
          R_laysBases_99 FU v0 v1 v2 v4 v2 h
      else
        (gd (hTy h v0 = 10) (hCe h v0 14)).bind fun u3 =>
        (gd (hTy h u3 = 21 ∧ 0 ≤ v6 ∧ v6 < hLn h u3) (hCe h u3 v6)).bind fun u4 =>
        (R_isApartBy v3 v4 u4).bind fun u5 =>
        R_laysBases_46 k25 fu v0 v1 v2 v3 v4 u5 (w32 (v6 + 1)) h
    else
      if v5 = 0 then
        k25 v0 v1 v2 v3 (w32 (v4 + 1)) h
      else
        R_laysBases_99 FU v0 v1 v2 v4 v2 h
def R_laysBases_25 : Nat → Int → Int → Int → Int → Int → AH → Option (Int × AH)
  | 0, _, _, _, _, _, _ => none
  | fu + 1, v0, v1, v2, v3, v4, h =>
    if (999 : Int) < v4 then
      some (0, h)
    else
      (R_isOneBy v3 v4).bind fun u1 =>
      R_laysBases_46 (fun a0 a1 a2 a3 a4 h0 => R_laysBases_25 fu a0 a1 a2 a3 a4 h0) FU v0 v1 v2 v3 v4 u1 v2 h
def R_laysBases (v0 : Int) (v1 : Int) (h : AH) : Option (Int × AH) :=
  (gd (hTy h v0 = 10) (hCe h v0 8)).bind fun u1 =>
  (gd (hTy h u1 = 21 ∧ 0 ≤ v1 ∧ v1 < hLn h u1) (hCe h u1 v1)).bind fun u2 =>
  (gd (hTy h v0 = 10) (hCe h v0 9)).bind fun u3 =>
  (gd (hTy h u3 = 21 ∧ 0 ≤ v1 ∧ v1 < hLn h u3) (hCe h u3 v1)).bind fun u4 =>
  if u4 = (1 : Int) then
    R_laysBases_25 FU v0 v1 (w32 (9 * v1)) u2 2 h
  else
    R_laysBases_140 FU v0 v1 (w32 (9 * v1)) u2 (w32 (9 * v1)) h
/-- PrimeProofsModel.laysPair(I)Z -/
def R_laysPair_10 (k2 : Int → Int → Int → AH → Option (Int × AH)) : Nat → Int → Int → Int → Int → AH → Option (Int × AH)
  | 0, _, _, _, _, _ => none
  | fu + 1, v0, v1, v2, v3, h =>
    if (99 : Int) < v3 then
      k2 v0 v1 (w32 (v2 + 1)) h
    else
      (gd (hTy h v0 = 10) 0).bind fun _ =>
      (R_wrongPair v0 v1 v2 v3 h).bind fun u1 =>
      if u1.1 = 0 then
        (gd (hTy u1.2 v0 = 10) (hCe u1.2 v0 10)).bind fun u2 =>
        (gd (hTy u1.2 u2 = 21 ∧ 0 ≤ v1 ∧ v1 < hLn u1.2 u2) (hSet u1.2 u2 v1 v2)).bind fun h3 =>
        (gd (hTy h3 v0 = 10) (hCe h3 v0 11)).bind fun u4 =>
        (gd (hTy h3 u4 = 21 ∧ 0 ≤ v1 ∧ v1 < hLn h3 u4) (hSet h3 u4 v1 v3)).bind fun h5 =>
        some (1, h5)
      else
        R_laysPair_10 k2 fu v0 v1 v2 (w32 (v3 + 1)) u1.2
def R_laysPair_2 : Nat → Int → Int → Int → AH → Option (Int × AH)
  | 0, _, _, _, _ => none
  | fu + 1, v0, v1, v2, h =>
    if (99 : Int) < v2 then
      some (0, h)
    else
      R_laysPair_10 (fun a0 a1 a2 h0 => R_laysPair_2 fu a0 a1 a2 h0) FU v0 v1 v2 1 h
def R_laysPair (v0 : Int) (v1 : Int) (h : AH) : Option (Int × AH) :=
  R_laysPair_2 FU v0 v1 1 h
/-- PrimeProofsModel.works(II)Z -/
def R_works (v0 : Int) (v1 : Int) (v2 : Int) (h : AH) : Option (Int × AH) :=
  (gd (hTy h v0 = 10) 0).bind fun _ =>
  (R_begins v0 115 v1 v2 h).bind fun h2 =>
  (R_isPrime v1).bind fun u3 =>
  if u3 = 0 then
    some (0, h2)
  else
    if v2 = 0 then
      if v1 < (100 : Int) then
        some (1, h2)
      else
        some (0, h2)
    else
      if v1 = (2 : Int) then
        some (0, h2)
      else
        (gd (hTy h2 v0 = 10) 0).bind fun _ =>
        (R_laysRows v0 115 h2).bind fun h5 =>
        (gd (hTy h5 v0 = 10) 0).bind fun _ =>
        (R_laysBases v0 115 h5).bind fun u6 =>
        if u6.1 = 0 then
          some (0, u6.2)
        else
          (R_hasPair v2).bind fun u7 =>
          if u7 = 0 then
            some (1, u6.2)
          else
            (gd (hTy u6.2 v0 = 10) 0).bind fun _ =>
            (R_laysPair v0 115 u6.2).bind fun u8 =>
            if u8.1 = 0 then
              some (0, u8.2)
            else
              some (1, u8.2)
/-- PrimeProofsModel.missing()I -/
def R_missing_54 : Nat → Int → Int → AH → Option Int
  | 0, _, _, _ => none
  | fu + 1, v0, v1, h =>
    (gd (hTy h v0 = 10) (hCe h v0 13)).bind fun u1 =>
    (gd (hTy h u1 = 21 ∧ 0 ≤ (115 : Int) ∧ (115 : Int) < hLn h u1) (hCe h u1 (115 : Int))).bind fun u2 =>
    if v1 < u2 then
      (gd (hTy h v0 = 10) (hCe h v0 17)).bind fun u3 =>
      (gd (hTy h u3 = 21 ∧ 0 ≤ (w32 (1035 + v1)) ∧ (w32 (1035 + v1)) < hLn h u3) (hCe h u3 (w32 (1035 + v1)))).bind fun u4 =>
      (gd (hTy h v0 = 10) (hCe h v0 7)).bind fun u5 =>
      (gd (hTy h v0 = 10) 0).bind fun _ =>
      (R_lineFor v0 u4 u5 h).bind fun u6 =>
      if u6 = (-1 : Int) then
        (gd (hTy h v0 = 10) (hCe h v0 17)).bind fun u7 =>
        (gd (hTy h u7 = 21 ∧ 0 ≤ (w32 (1035 + v1)) ∧ (w32 (1035 + v1)) < hLn h u7) (hCe h u7 (w32 (1035 + v1)))).bind fun u8 =>
        some u8
      else
        R_missing_54 fu v0 (w32 (v1 + 1)) h
    else
      some 0
def R_missing_2 : Nat → Int → Int → AH → Option Int
  | 0, _, _, _ => none
  | fu + 1, v0, v1, h =>
    (gd (hTy h v0 = 10) (hCe h v0 12)).bind fun u1 =>
    (gd (hTy h u1 = 21 ∧ 0 ≤ (115 : Int) ∧ (115 : Int) < hLn h u1) (hCe h u1 (115 : Int))).bind fun u2 =>
    if v1 < u2 then
      (gd (hTy h v0 = 10) (hCe h v0 14)).bind fun u3 =>
      (gd (hTy h u3 = 21 ∧ 0 ≤ (w32 (1035 + v1)) ∧ (w32 (1035 + v1)) < hLn h u3) (hCe h u3 (w32 (1035 + v1)))).bind fun u4 =>
      (gd (hTy h v0 = 10) (hCe h v0 7)).bind fun u5 =>
      (gd (hTy h v0 = 10) 0).bind fun _ =>
      (R_lineFor v0 u4 u5 h).bind fun u6 =>
      if u6 = (-1 : Int) then
        (gd (hTy h v0 = 10) (hCe h v0 14)).bind fun u7 =>
        (gd (hTy h u7 = 21 ∧ 0 ≤ (w32 (1035 + v1)) ∧ (w32 (1035 + v1)) < hLn h u7) (hCe h u7 (w32 (1035 + v1)))).bind fun u8 =>
        some u8
      else
        R_missing_2 fu v0 (w32 (v1 + 1)) h
    else
      R_missing_54 FU v0 0 h
def R_missing (v0 : Int) (h : AH) : Option Int :=
  R_missing_2 FU v0 0 h
/-- PrimeProofsModel.becomes(II)V -/
def R_becomes_99 : Nat → Int → Int → Int → Int → AH → Option AH
  | 0, _, _, _, _, _ => none
  | fu + 1, v0, v1, v2, v3, h =>
    (gd (hTy h v0 = 10) (hCe h v0 13)).bind fun u1 =>
    (gd (hTy h u1 = 21 ∧ 0 ≤ v2 ∧ v2 < hLn h u1) (hCe h u1 v2)).bind fun u2 =>
    if v3 < u2 then
      (gd (hTy h v0 = 10) (hCe h v0 17)).bind fun u3 =>
      (gd (hTy h u3 = 21 ∧ 0 ≤ (w32 ((w32 (9 * v2)) + v3)) ∧ (w32 ((w32 (9 * v2)) + v3)) < hLn h u3) (hCe h u3 (w32 ((w32 (9 * v2)) + v3)))).bind fun u4 =>
      (gd (hTy h v0 = 10) (hCe h v0 18)).bind fun u5 =>
      (gd (hTy h u5 = 21 ∧ 0 ≤ (w32 ((w32 (9 * v2)) + v3)) ∧ (w32 ((w32 (9 * v2)) + v3)) < hLn h u5) (hCe h u5 (w32 ((w32 (9 * v2)) + v3)))).bind fun u6 =>
      (gd (hTy h v0 = 10) 0).bind fun _ =>
      (R_addsUp v0 v1 u4 u6 h).bind fun h8 =>
      R_becomes_99 fu v0 v1 v2 (w32 (v3 + 1)) h8
    else
      some h
def R_becomes_43 : Nat → Int → Int → Int → Int → AH → Option AH
  | 0, _, _, _, _, _ => none
  | fu + 1, v0, v1, v2, v3, h =>
    (gd (hTy h v0 = 10) (hCe h v0 12)).bind fun u1 =>
    (gd (hTy h u1 = 21 ∧ 0 ≤ v2 ∧ v2 < hLn h u1) (hCe h u1 v2)).bind fun u2 =>
    if v3 < u2 then
      (gd (hTy h v0 = 10) (hCe h v0 14)).bind fun u3 =>
      (gd (hTy h u3 = 21 ∧ 0 ≤ (w32 ((w32 (9 * v2)) + v3)) ∧ (w32 ((w32 (9 * v2)) + v3)) < hLn h u3) (hCe h u3 (w32 ((w32 (9 * v2)) + v3)))).bind fun u4 =>
      (gd (hTy h v0 = 10) (hCe h v0 15)).bind fun u5 =>
      (gd (hTy h u5 = 21 ∧ 0 ≤ (w32 ((w32 (9 * v2)) + v3)) ∧ (w32 ((w32 (9 * v2)) + v3)) < hLn h u5) (hCe h u5 (w32 ((w32 (9 * v2)) + v3)))).bind fun u6 =>
      (gd (hTy h v0 = 10) (hCe h v0 16)).bind fun u7 =>
      (gd (hTy h u7 = 21 ∧ 0 ≤ (w32 ((w32 (9 * v2)) + v3)) ∧ (w32 ((w32 (9 * v2)) + v3)) < hLn h u7) (hCe h u7 (w32 ((w32 (9 * v2)) + v3)))).bind fun u8 =>
      (gd (hTy h v0 = 10) 0).bind fun _ =>
      (R_addsDown v0 v1 u4 u6 u8 h).bind fun h10 =>
      R_becomes_43 fu v0 v1 v2 (w32 (v3 + 1)) h10
    else
      R_becomes_99 FU v0 v1 v2 0 h
def R_becomes (v0 : Int) (v1 : Int) (v2 : Int) (h : AH) : Option AH :=
  (gd (hTy h v0 = 10) (hCe h v0 8)).bind fun u1 =>
  (gd (hTy h u1 = 21 ∧ 0 ≤ v2 ∧ v2 < hLn h u1) (hCe h u1 v2)).bind fun u2 =>
  (gd (hTy h v0 = 10) (hCe h v0 9)).bind fun u3 =>
  (gd (hTy h u3 = 21 ∧ 0 ≤ v2 ∧ v2 < hLn h u3) (hCe h u3 v2)).bind fun u4 =>
  (gd (hTy h v0 = 10) 0).bind fun _ =>
  (R_begins v0 v1 u2 u4 h).bind fun h6 =>
  (gd (hTy h6 v0 = 10) (hCe h6 v0 10)).bind fun u7 =>
  (gd (hTy h6 v0 = 10) (hCe h6 v0 10)).bind fun u8 =>
  (gd (hTy h6 u8 = 21 ∧ 0 ≤ v2 ∧ v2 < hLn h6 u8) (hCe h6 u8 v2)).bind fun u9 =>
  (gd (hTy h6 u7 = 21 ∧ 0 ≤ v1 ∧ v1 < hLn h6 u7) (hSet h6 u7 v1 u9)).bind fun h10 =>
  (gd (hTy h10 v0 = 10) (hCe h10 v0 11)).bind fun u11 =>
  (gd (hTy h10 v0 = 10) (hCe h10 v0 11)).bind fun u12 =>
  (gd (hTy h10 u12 = 21 ∧ 0 ≤ v2 ∧ v2 < hLn h10 u12) (hCe h10 u12 v2)).bind fun u13 =>
  (gd (hTy h10 u11 = 21 ∧ 0 ≤ v1 ∧ v1 < hLn h10 u11) (hSet h10 u11 v1 u13)).bind fun h14 =>
  R_becomes_43 FU v0 v1 v2 0 h14
/-- PrimeProofsModel.find(II)I -/
def R_find_220 (v0 : Int) (v3 : Int) (h : AH) : Option (Int × AH) :=
  (gd (hTy h v0 = 10) (hCe h v0 7)).bind fun u1 =>
  if u1 = (60 : Int) then
    (gd (hTy h v0 = 10) (hSet h v0 7 v3)).bind fun h2 =>
    if (1 : Int) = 0 then
      some ((-2), h2)
    else
      some ((-3), h2)
  else
    (gd (hTy h v0 = 10) (hSet h v0 7 v3)).bind fun h3 =>
    if (0 : Int) = 0 then
      some ((-2), h3)
    else
      some ((-3), h3)
def R_find_155 (k107 : Int → Int → Int → AH → Option (Int × AH)) (v0 : Int) (v3 : Int) (v4 : Int) (v5 : Int) (v6 : Int) (h : AH) : Option (Int × AH) :=
  (gd (hTy h v0 = 10) 0).bind fun _ =>
  (R_missing v0 h).bind fun u1 =>
  if 0 < u1 then
    (gd (hTy h v0 = 10) (hCe h v0 21)).bind fun u2 =>
    (gd (hTy h u2 = 21 ∧ 0 ≤ v4 ∧ v4 < hLn h u2) (hSet h u2 v4 u1)).bind fun h3 =>
    (gd (hTy h3 v0 = 10) (hCe h3 v0 22)).bind fun u4 =>
    if u1 < (100 : Int) then
      (gd (hTy h3 u4 = 21 ∧ 0 ≤ v4 ∧ v4 < hLn h3 u4) (hSet h3 u4 v4 (0 : Int))).bind fun h5 =>
      k107 v0 v3 (w32 (v4 + 1)) h5
    else
      (gd (hTy h3 u4 = 21 ∧ 0 ≤ v4 ∧ v4 < hLn h3 u4) (hSet h3 u4 v4 (1 : Int))).bind fun h6 =>
      k107 v0 v3 (w32 (v4 + 1)) h6
  else
    (gd (hTy h v0 = 10) (hCe h v0 7)).bind fun u7 =>
    if u7 = (60 : Int) then
      R_find_220 v0 v3 h
    else
      (gd (hTy h v0 = 10) 0).bind fun _ =>
      (R_works v0 v5 v6 h).bind fun u8 =>
      if u8.1 = 0 then
        R_find_220 v0 v3 u8.2
      else
        (gd (hTy u8.2 v0 = 10) (hCe u8.2 v0 7)).bind fun u9 =>
        (gd (hTy u8.2 v0 = 10) 0).bind fun _ =>
        (R_becomes v0 u9 115 u8.2).bind fun h11 =>
        (gd (hTy h11 v0 = 10) (hCe h11 v0 19)).bind fun u12 =>
        (gd (hTy h11 v0 = 10) (hCe h11 v0 7)).bind fun u13 =>
        (gd ((hTy h11 u12 = 23 ∧ -128 ≤ (1 : Int) ∧ (1 : Int) ≤ 127 ∨ hTy h11 u12 = 25 ∧ 0 ≤ (1 : Int) ∧ (1 : Int) ≤ 1) ∧ 0 ≤ u13 ∧ u13 < hLn h11 u12) (hSet h11 u12 u13 (1 : Int))).bind fun h14 =>
        (gd (hTy h14 v0 = 10) (hCe h14 v0 7)).bind fun u15 =>
        (gd (hTy h14 v0 = 10) (hSet h14 v0 7 (w32 (u15 + 1)))).bind fun h16 =>
        k107 v0 v3 (w32 (v4 + (-1))) h16
def R_find_107 : Nat → Int → Int → Int → AH → Option (Int × AH)
  | 0, _, _, _, _ => none
  | fu + 1, v0, v3, v4, h =>
    if 0 < v4 then
      (gd (hTy h v0 = 10) (hCe h v0 21)).bind fun u1 =>
      (gd (hTy h u1 = 21 ∧ 0 ≤ (w32 (v4 - 1)) ∧ (w32 (v4 - 1)) < hLn h u1) (hCe h u1 (w32 (v4 - 1)))).bind fun u2 =>
      (gd (hTy h v0 = 10) (hCe h v0 22)).bind fun u3 =>
      (gd (hTy h u3 = 21 ∧ 0 ≤ (w32 (v4 - 1)) ∧ (w32 (v4 - 1)) < hLn h u3) (hCe h u3 (w32 (v4 - 1)))).bind fun u4 =>
      (gd (hTy h v0 = 10) 0).bind fun _ =>
      (R_begins v0 115 u2 u4 h).bind fun h6 =>
      if u4 = 0 then
        R_find_155 (fun a0 a1 a2 h0 => R_find_107 fu a0 a1 a2 h0) v0 v3 v4 u2 u4 h6
      else
        (gd (hTy h6 v0 = 10) 0).bind fun _ =>
        (R_laysRows v0 115 h6).bind fun h8 =>
        R_find_155 (fun a0 a1 a2 h0 => R_find_107 fu a0 a1 a2 h0) v0 v3 v4 u2 u4 h8
    else
      (gd (hTy h v0 = 10) (hCe h v0 7)).bind fun u9 =>
      some (w32 (u9 - 1), h)
def R_find_28 : Nat → Int → Int → Int → Int → AH → Option (Int × AH)
  | 0, _, _, _, _, _ => none
  | fu + 1, v0, v1, v2, v3, h =>
    (gd (hTy h v0 = 10) (hCe h v0 7)).bind fun u1 =>
    if v3 < u1 then
      (gd (hTy h v0 = 10) (hCe h v0 19)).bind fun u2 =>
      (gd ((hTy h u2 = 23 ∨ hTy h u2 = 25) ∧ 0 ≤ v3 ∧ v3 < hLn h u2) (hCe h u2 v3)).bind fun u3 =>
      if u3 = 0 then
        R_find_28 fu v0 v1 v2 (w32 (v3 + 1)) h
      else
        (gd (hTy h v0 = 10) (hCe h v0 9)).bind fun u4 =>
        (gd (hTy h u4 = 21 ∧ 0 ≤ v3 ∧ v3 < hLn h u4) (hCe h u4 v3)).bind fun u5 =>
        if u5 = v2 then
          (gd (hTy h v0 = 10) (hCe h v0 8)).bind fun u6 =>
          (gd (hTy h u6 = 21 ∧ 0 ≤ v3 ∧ v3 < hLn h u6) (hCe h u6 v3)).bind fun u7 =>
          if u7 = v1 then
            some (v3, h)
          else
            R_find_28 fu v0 v1 v2 (w32 (v3 + 1)) h
        else
          R_find_28 fu v0 v1 v2 (w32 (v3 + 1)) h
    else
      (gd (hTy h v0 = 10) 0).bind fun _ =>
      (R_works v0 v1 v2 h).bind fun u8 =>
      if u8.1 = 0 then
        some ((-2), u8.2)
      else
        (gd (hTy u8.2 v0 = 10) (hCe u8.2 v0 7)).bind fun u9 =>
        (gd (hTy u8.2 v0 = 10) (hCe u8.2 v0 21)).bind fun u10 =>
        (gd (hTy u8.2 u10 = 21 ∧ 0 ≤ (0 : Int) ∧ (0 : Int) < hLn u8.2 u10) (hSet u8.2 u10 (0 : Int) v1)).bind fun h11 =>
        (gd (hTy h11 v0 = 10) (hCe h11 v0 22)).bind fun u12 =>
        (gd (hTy h11 u12 = 21 ∧ 0 ≤ (0 : Int) ∧ (0 : Int) < hLn h11 u12) (hSet h11 u12 (0 : Int) v2)).bind fun h13 =>
        R_find_107 FU v0 u9 1 h13
def R_find (v0 : Int) (v1 : Int) (v2 : Int) (h : AH) : Option (Int × AH) :=
  (R_in v2 0 4).bind fun u1 =>
  if u1 = 0 then
    some ((-1), h)
  else
    (R_isNumber v1).bind fun u2 =>
    if u2 = 0 then
      some ((-1), h)
    else
      (gd (hTy h v0 = 10) 0).bind fun _ =>
      (R_laysRight v0 h).bind fun h4 =>
      R_find_28 FU v0 v1 v2 0 h4
/-- PrimeProofsModel.isLine(I)Z -/
def R_isLine (v0 : Int) (v1 : Int) (h : AH) : Option Int :=
  (gd (hTy h v0 = 10) (hCe h v0 7)).bind fun u1 =>
  (R_in v1 0 (w32 (u1 - 1))).bind fun u2 =>
  (gd (0 ≤ u2 ∧ u2 ≤ 1) 0).bind fun _ => some u2
/-- PrimeProofsModel.mend(I)I -/
def R_mend (v0 : Int) (v1 : Int) (h : AH) : Option (Int × AH) :=
  (gd (hTy h v0 = 10) 0).bind fun _ =>
  (R_isLine v0 v1 h).bind fun u1 =>
  if u1 = 0 then
    some ((-1), h)
  else
    (gd (hTy h v0 = 10) (hCe h v0 8)).bind fun u2 =>
    (gd (hTy h u2 = 21 ∧ 0 ≤ v1 ∧ v1 < hLn h u2) (hCe h u2 v1)).bind fun u3 =>
    (gd (hTy h v0 = 10) (hCe h v0 9)).bind fun u4 =>
    (gd (hTy h u4 = 21 ∧ 0 ≤ v1 ∧ v1 < hLn h u4) (hCe h u4 v1)).bind fun u5 =>
    (gd (hTy h v0 = 10) 0).bind fun _ =>
    (R_works v0 u3 u5 h).bind fun u6 =>
    if u6.1 = 0 then
      some ((-2), u6.2)
    else
      (gd (hTy u6.2 v0 = 10) 0).bind fun _ =>
      (R_becomes v0 v1 115 u6.2).bind fun h8 =>
      (gd (hTy h8 v0 = 10) 0).bind fun _ =>
      (R_laysRight v0 h8).bind fun h10 =>
      (gd (hTy h10 v0 = 10) (hCe h10 v0 20)).bind fun u11 =>
      (gd (hTy h10 u11 = 21 ∧ 0 ≤ v1 ∧ v1 < hLn h10 u11) (hCe h10 u11 v1)).bind fun u12 =>
      some (u12, h10)
/-- PrimeProofsModel.needs(II)I -/
def R_needs (v0 : Int) (v1 : Int) (v2 : Int) (h : AH) : Option (Int × AH) :=
  (R_in v2 1 4).bind fun u1 =>
  if u1 = 0 then
    some ((-1), h)
  else
    (R_isNumber v1).bind fun u2 =>
    if u2 = 0 then
      some ((-1), h)
    else
      if v1 = (2 : Int) then
        some ((-2), h)
      else
        (R_isPrime v1).bind fun u3 =>
        if u3 = 0 then
          some ((-2), h)
        else
          (gd (hTy h v0 = 10) 0).bind fun _ =>
          (R_begins v0 115 v1 v2 h).bind fun h5 =>
          (gd (hTy h5 v0 = 10) 0).bind fun _ =>
          (R_laysRows v0 115 h5).bind fun h7 =>
          (gd (hTy h7 v0 = 10) (hCe h7 v0 12)).bind fun u8 =>
          (gd (hTy h7 u8 = 21 ∧ 0 ≤ (115 : Int) ∧ (115 : Int) < hLn h7 u8) (hCe h7 u8 (115 : Int))).bind fun u9 =>
          (gd (hTy h7 v0 = 10) (hCe h7 v0 13)).bind fun u10 =>
          (gd (hTy h7 u10 = 21 ∧ 0 ≤ (115 : Int) ∧ (115 : Int) < hLn h7 u10) (hCe h7 u10 (115 : Int))).bind fun u11 =>
          some (w32 ((w32 (10 * u9)) + u11), h7)
/-- PrimeProofsModel.fewest(I)I -/
def R_fewest_34 : Nat → Int → Int → Int → Int → Int → AH → Option (Int × AH)
  | 0, _, _, _, _, _, _ => none
  | fu + 1, v0, v1, v2, v3, v4, h =>
    if (4 : Int) < v4 then
      some (v2, h)
    else
      (gd (hTy h v0 = 10) 0).bind fun _ =>
      (R_needs v0 v1 v4 h).bind fun u1 =>
      (gd ((10 : Int) ≠ 0) (w32 (Int.tdiv u1.1 10))).bind fun u2 =>
      (gd ((10 : Int) ≠ 0) (Int.tmod u1.1 10)).bind fun u3 =>
      if (w32 (u2 + u3)) < v3 then
        R_fewest_34 fu v0 v1 v4 (w32 (u2 + u3)) (w32 (v4 + 1)) u1.2
      else
        R_fewest_34 fu v0 v1 v2 v3 (w32 (v4 + 1)) u1.2
def R_fewest (v0 : Int) (v1 : Int) (h : AH) : Option (Int × AH) :=
  (R_isNumber v1).bind fun u1 =>
  if u1 = 0 then
    some ((-1), h)
  else
    if v1 = (2 : Int) then
      some ((-2), h)
    else
      (R_isPrime v1).bind fun u2 =>
      if u2 = 0 then
        some ((-2), h)
      else
        R_fewest_34 FU v0 v1 (-1) 99 1 h
/-- PrimeProofsModel.feed(IIIII)I -/
def R_feed_71 (k18 : Int → Int → Int → Int → Int → Int → Int → AH → Option (Int × AH)) (v0 : Int) (v1 : Int) (v2 : Int) (v3 : Int) (v4 : Int) (v5 : Int) (v6 : Int) (s0 : Int) (h : AH) : Option (Int × AH) :=
  (gd (hTy h v0 = 10) (hCe h v0 23)).bind fun u1 =>
  (gd (hTy h v0 = 10) (hCe h v0 24)).bind fun u2 =>
  (gd ((4 : Int) ≠ 0) (Int.tmod v6 4)).bind fun u3 =>
  (gd (hTy h u1 = 21 ∧ 0 ≤ u2 ∧ u2 < hLn h u1) (hSet h u1 u2 (andI (shrI s0 (w32 (24 - (w32 (8 * u3))))) 255))).bind fun h4 =>
  (gd (hTy h4 v0 = 10) (hCe h4 v0 24)).bind fun u5 =>
  (gd (hTy h4 v0 = 10) (hSet h4 v0 24 (w32 (u5 + 1)))).bind fun h6 =>
  k18 v0 v1 v2 v3 v4 v5 (w32 (v6 + 1)) h6
def R_feed_18 : Nat → Int → Int → Int → Int → Int → Int → Int → AH → Option (Int × AH)
  | 0, _, _, _, _, _, _, _, _ => none
  | fu + 1, v0, v1, v2, v3, v4, v5, v6, h =>
    if v6 < (20 : Int) then
      if v6 < (4 : Int) then
        R_feed_71 (fun a0 a1 a2 a3 a4 a5 a6 h0 => R_feed_18 fu a0 a1 a2 a3 a4 a5 a6 h0) v0 v1 v2 v3 v4 v5 v6 v1 h
      else
        if v6 < (8 : Int) then
          R_feed_71 (fun a0 a1 a2 a3 a4 a5 a6 h0 => R_feed_18 fu a0 a1 a2 a3 a4 a5 a6 h0) v0 v1 v2 v3 v4 v5 v6 v2 h
        else
          if v6 < (12 : Int) then
            R_feed_71 (fun a0 a1 a2 a3 a4 a5 a6 h0 => R_feed_18 fu a0 a1 a2 a3 a4 a5 a6 h0) v0 v1 v2 v3 v4 v5 v6 v3 h
          else
            if v6 < (16 : Int) then
              R_feed_71 (fun a0 a1 a2 a3 a4 a5 a6 h0 => R_feed_18 fu a0 a1 a2 a3 a4 a5 a6 h0) v0 v1 v2 v3 v4 v5 v6 v4 h
            else
              R_feed_71 (fun a0 a1 a2 a3 a4 a5 a6 h0 => R_feed_18 fu a0 a1 a2 a3 a4 a5 a6 h0) v0 v1 v2 v3 v4 v5 v6 v5 h
    else
      (gd (hTy h v0 = 10) (hCe h v0 24)).bind fun u1 =>
      some (u1, h)
def R_feed (v0 : Int) (v1 : Int) (v2 : Int) (v3 : Int) (v4 : Int) (v5 : Int) (h : AH) : Option (Int × AH) :=
  (gd (hTy h v0 = 10) (hCe h v0 24)).bind fun u1 =>
  if (400 : Int) < (w32 (u1 + 20)) then
    some ((-1), h)
  else
    R_feed_18 FU v0 v1 v2 v3 v4 v5 0 h
/-- PrimeProofsModel.back(I)I -/
def R_back (v0 : Int) (v1 : Int) (h : AH) : Option (Int × AH) :=
  (gd (hTy h v0 = 10) (hCe h v0 24)).bind fun u1 =>
  (R_in v1 0 u1).bind fun u2 =>
  if u2 = 0 then
    some ((-1), h)
  else
    (gd (hTy h v0 = 10) (hCe h v0 24)).bind fun u3 =>
    (gd (hTy h v0 = 10) (hSet h v0 24 (w32 (u3 - v1)))).bind fun h4 =>
    (gd (hTy h4 v0 = 10) (hCe h4 v0 24)).bind fun u5 =>
    some (u5, h4)
/-- PrimeProofsModel.isLetter(I)Z -/
def R_isLetter (v0 : Int) (v1 : Int) (h : AH) : Option Int :=
  (gd (hTy h v0 = 10) (hCe h v0 24)).bind fun u1 =>
  if v1 < u1 then
    (gd (hTy h v0 = 10) (hCe h v0 23)).bind fun u2 =>
    (gd (hTy h u2 = 21 ∧ 0 ≤ v1 ∧ v1 < hLn h u2) (hCe h u2 v1)).bind fun u3 =>
    (R_in u3 97 122).bind fun u4 =>
    if u4 = 0 then
      some 0
    else
      some 1
  else
    some 0
/-- PrimeProofsModel.wordFrom(I)I -/
def R_wordFrom_4 : Nat → Int → Int → Int → AH → Option Int
  | 0, _, _, _, _ => none
  | fu + 1, v0, v2, v3, h =>
    if 0 < v3 then
      (gd (hTy h v0 = 10) (hCe h v0 31)).bind fun u1 =>
      (gd ((hTy h u1 = 23 ∨ hTy h u1 = 25) ∧ 0 ≤ v2 ∧ v2 < hLn h u1) (hCe h u1 v2)).bind fun u2 =>
      if u2 = 0 then
        R_wordFrom_4 fu v0 (w32 (v2 + 1)) (w32 (v3 + (-1))) h
      else
        R_wordFrom_4 fu v0 (w32 (v2 + 1)) v3 h
    else
      some v2
def R_wordFrom (v0 : Int) (v1 : Int) (h : AH) : Option Int :=
  R_wordFrom_4 FU v0 0 v1 h
/-- PrimeProofsModel.isWord(I)Z -/
def R_isWord_49 (v0 : Int) (v2 : Int) (v3 : Int) (h : AH) : Option Int :=
  (gd (hTy h v0 = 10) (hCe h v0 26)).bind fun u1 =>
  (gd (hTy h v0 = 10) (hCe h v0 29)).bind fun u2 =>
  if (w32 (u1 + v3)) = u2 then
    (gd (hTy h v0 = 10) (hCe h v0 31)).bind fun u3 =>
    (gd ((hTy h u3 = 23 ∨ hTy h u3 = 25) ∧ 0 ≤ (w32 (v2 + v3)) ∧ (w32 (v2 + v3)) < hLn h u3) (hCe h u3 (w32 (v2 + v3)))).bind fun u4 =>
    if u4 = 0 then
      some 1
    else
      some 0
  else
    some 0
def R_isWord_8 : Nat → Int → Int → Int → AH → Option Int
  | 0, _, _, _, _ => none
  | fu + 1, v0, v2, v3, h =>
    (gd (hTy h v0 = 10) (hCe h v0 26)).bind fun u1 =>
    (gd (hTy h v0 = 10) (hCe h v0 29)).bind fun u2 =>
    if (w32 (u1 + v3)) < u2 then
      (gd (hTy h v0 = 10) (hCe h v0 31)).bind fun u3 =>
      (gd ((hTy h u3 = 23 ∨ hTy h u3 = 25) ∧ 0 ≤ (w32 (v2 + v3)) ∧ (w32 (v2 + v3)) < hLn h u3) (hCe h u3 (w32 (v2 + v3)))).bind fun u4 =>
      (gd (hTy h v0 = 10) (hCe h v0 23)).bind fun u5 =>
      (gd (hTy h v0 = 10) (hCe h v0 26)).bind fun u6 =>
      (gd (hTy h u5 = 21 ∧ 0 ≤ (w32 (u6 + v3)) ∧ (w32 (u6 + v3)) < hLn h u5) (hCe h u5 (w32 (u6 + v3)))).bind fun u7 =>
      if u4 = u7 then
        R_isWord_8 fu v0 v2 (w32 (v3 + 1)) h
      else
        R_isWord_49 v0 v2 v3 h
    else
      R_isWord_49 v0 v2 v3 h
def R_isWord (v0 : Int) (v1 : Int) (h : AH) : Option Int :=
  (gd (hTy h v0 = 10) 0).bind fun _ =>
  (R_wordFrom v0 v1 h).bind fun u1 =>
  R_isWord_8 FU v0 u1 0 h
/-- PrimeProofsModel.isDigit(I)Z -/
def R_isDigit (v0 : Int) (v1 : Int) (h : AH) : Option Int :=
  (gd (hTy h v0 = 10) (hCe h v0 24)).bind fun u1 =>
  if v1 < u1 then
    (gd (hTy h v0 = 10) (hCe h v0 23)).bind fun u2 =>
    (gd (hTy h u2 = 21 ∧ 0 ≤ v1 ∧ v1 < hLn h u2) (hCe h u2 v1)).bind fun u3 =>
    (R_in u3 48 57).bind fun u4 =>
    if u4 = 0 then
      some 0
    else
      some 1
  else
    some 0
/-- PrimeProofsModel.goesOn()V -/
def R_goesOn_210 : Nat → Int → Int → AH → Option AH
  | 0, _, _, _ => none
  | fu + 1, v0, v1, h =>
    (gd (hTy h v0 = 10) (hCe h v0 29)).bind fun u1 =>
    (gd (hTy h v0 = 10) 0).bind fun _ =>
    (R_isDigit v0 u1 h).bind fun u2 =>
    if u2 = 0 then
      if v1 = 0 then
        (gd (hTy h v0 = 10) (hCe h v0 29)).bind fun u3 =>
        (gd (hTy h v0 = 10) (hCe h v0 26)).bind fun u4 =>
        if (10 : Int) < (w32 (u3 - u4)) then
          (gd (hTy h v0 = 10) (hSet h v0 25 4)).bind fun h5 =>
          some h5
        else
          (gd (hTy h v0 = 10) (hSet h v0 25 2)).bind fun h6 =>
          some h6
      else
        (gd (hTy h v0 = 10) (hSet h v0 25 4)).bind fun h7 =>
        some h7
    else
      (gd (hTy h v0 = 10) (hCe h v0 29)).bind fun u8 =>
      (gd (hTy h v0 = 10) (hCe h v0 26)).bind fun u9 =>
      if (w32 (u8 - u9)) < (10 : Int) then
        (gd (hTy h v0 = 10) (hCe h v0 28)).bind fun u10 =>
        (gd (hTy h v0 = 10) (hCe h v0 23)).bind fun u11 =>
        (gd (hTy h v0 = 10) (hCe h v0 29)).bind fun u12 =>
        (gd (hTy h u11 = 21 ∧ 0 ≤ u12 ∧ u12 < hLn h u11) (hCe h u11 u12)).bind fun u13 =>
        (gd (hTy h v0 = 10) (hSet h v0 28 (w64 ((w64 ((w64 (10 * u10)) + u13)) - 48)))).bind fun h14 =>
        (gd (hTy h14 v0 = 10) (hCe h14 v0 29)).bind fun u15 =>
        (gd (hTy h14 v0 = 10) (hSet h14 v0 29 (w32 (u15 + 1)))).bind fun h16 =>
        R_goesOn_210 fu v0 v1 h16
      else
        (gd (hTy h v0 = 10) (hCe h v0 29)).bind fun u17 =>
        (gd (hTy h v0 = 10) (hSet h v0 29 (w32 (u17 + 1)))).bind fun h18 =>
        R_goesOn_210 fu v0 v1 h18
def R_goesOn_166 : Nat → Int → Int → AH → Option AH
  | 0, _, _, _ => none
  | fu + 1, v0, v3, h =>
    if v3 < (10 : Int) then
      (gd (hTy h v0 = 10) 0).bind fun _ =>
      (R_isWord v0 v3 h).bind fun u1 =>
      if u1 = 0 then
        R_goesOn_166 fu v0 (w32 (v3 + 1)) h
      else
        (gd (hTy h v0 = 10) (hSet h v0 27 v3)).bind fun h2 =>
        R_goesOn_166 fu v0 (w32 (v3 + 1)) h2
    else
      some h
def R_goesOn_127 : Nat → Int → Int → AH → Option AH
  | 0, _, _, _ => none
  | fu + 1, v0, v1, h =>
    (gd (hTy h v0 = 10) (hCe h v0 29)).bind fun u1 =>
    (gd (hTy h v0 = 10) 0).bind fun _ =>
    (R_isLetter v0 u1 h).bind fun u2 =>
    if u2 = 0 then
      if v1 = 0 then
        (gd (hTy h v0 = 10) (hSet h v0 25 1)).bind fun h3 =>
        R_goesOn_166 FU v0 0 h3
      else
        (gd (hTy h v0 = 10) (hSet h v0 25 4)).bind fun h4 =>
        R_goesOn_166 FU v0 0 h4
    else
      (gd (hTy h v0 = 10) (hCe h v0 29)).bind fun u5 =>
      (gd (hTy h v0 = 10) (hSet h v0 29 (w32 (u5 + 1)))).bind fun h6 =>
      R_goesOn_127 fu v0 v1 h6
def R_goesOn_90 (v0 : Int) (s0 : Int) (h : AH) : Option AH :=
  (gd (hTy h v0 = 10) (hSet h v0 27 10)).bind fun h1 =>
  (gd (hTy h1 v0 = 10) (hCe h1 v0 26)).bind fun u2 =>
  (gd (hTy h1 v0 = 10) (hCe h1 v0 24)).bind fun u3 =>
  if u2 = u3 then
    (gd (hTy h1 v0 = 10) (hSet h1 v0 25 0)).bind fun h4 =>
    some h4
  else
    (gd (hTy h1 v0 = 10) (hCe h1 v0 26)).bind fun u5 =>
    (gd (hTy h1 v0 = 10) 0).bind fun _ =>
    (R_isLetter v0 u5 h1).bind fun u6 =>
    if u6 = 0 then
      (gd (hTy h1 v0 = 10) (hCe h1 v0 26)).bind fun u7 =>
      (gd (hTy h1 v0 = 10) 0).bind fun _ =>
      (R_isDigit v0 u7 h1).bind fun u8 =>
      if u8 = 0 then
        (gd (hTy h1 v0 = 10) (hCe h1 v0 23)).bind fun u9 =>
        (gd (hTy h1 v0 = 10) (hCe h1 v0 26)).bind fun u10 =>
        (gd (hTy h1 u9 = 21 ∧ 0 ≤ u10 ∧ u10 < hLn h1 u9) (hCe h1 u9 u10)).bind fun u11 =>
        if u11 = (59 : Int) then
          (gd (hTy h1 v0 = 10) (hSet h1 v0 25 3)).bind fun h12 =>
          (gd (hTy h12 v0 = 10) (hCe h12 v0 29)).bind fun u13 =>
          (gd (hTy h12 v0 = 10) (hSet h12 v0 29 (w32 (u13 + 1)))).bind fun h14 =>
          some h14
        else
          (gd (hTy h1 v0 = 10) (hSet h1 v0 25 4)).bind fun h15 =>
          (gd (hTy h15 v0 = 10) (hCe h15 v0 29)).bind fun u16 =>
          (gd (hTy h15 v0 = 10) (hSet h15 v0 29 (w32 (u16 + 1)))).bind fun h17 =>
          some h17
      else
        (gd (hTy h1 v0 = 10) (hSet h1 v0 28 0)).bind fun h18 =>
        R_goesOn_210 FU v0 s0 h18
    else
      R_goesOn_127 FU v0 s0 h1
def R_goesOn_27 : Nat → Int → Int → Int → AH → Option AH
  | 0, _, _, _, _ => none
  | fu + 1, v0, v1, v2, h =>
    (gd (hTy h v0 = 10) (hCe h v0 29)).bind fun u1 =>
    (gd (hTy h v0 = 10) (hCe h v0 24)).bind fun u2 =>
    if u1 < u2 then
      (gd (hTy h v0 = 10) (hCe h v0 23)).bind fun u3 =>
      (gd (hTy h v0 = 10) (hCe h v0 29)).bind fun u4 =>
      (gd (hTy h u3 = 21 ∧ 0 ≤ u4 ∧ u4 < hLn h u3) (hCe h u3 u4)).bind fun u5 =>
      if u5 = (32 : Int) then
        (gd (hTy h v0 = 10) (hCe h v0 29)).bind fun u6 =>
        (gd (hTy h v0 = 10) (hSet h v0 29 (w32 (u6 + 1)))).bind fun h7 =>
        R_goesOn_27 fu v0 v1 v2 h7
      else
        (gd (hTy h v0 = 10) (hCe h v0 29)).bind fun u8 =>
        (gd (hTy h v0 = 10) (hSet h v0 26 u8)).bind fun h9 =>
        if v1 = 0 then
          R_goesOn_90 v0 0 h9
        else
          (gd (hTy h9 v0 = 10) (hCe h9 v0 26)).bind fun u10 =>
          if u10 = v2 then
            R_goesOn_90 v0 1 h9
          else
            R_goesOn_90 v0 0 h9
    else
      (gd (hTy h v0 = 10) (hCe h v0 29)).bind fun u11 =>
      (gd (hTy h v0 = 10) (hSet h v0 26 u11)).bind fun h12 =>
      if v1 = 0 then
        R_goesOn_90 v0 0 h12
      else
        (gd (hTy h12 v0 = 10) (hCe h12 v0 26)).bind fun u13 =>
        if u13 = v2 then
          R_goesOn_90 v0 1 h12
        else
          R_goesOn_90 v0 0 h12
def R_goesOn (v0 : Int) (h : AH) : Option AH :=
  (gd (hTy h v0 = 10) (hCe h v0 25)).bind fun u1 =>
  if u1 = (1 : Int) then
    (gd (hTy h v0 = 10) (hCe h v0 29)).bind fun u2 =>
    R_goesOn_27 FU v0 1 u2 h
  else
    (gd (hTy h v0 = 10) (hCe h v0 25)).bind fun u3 =>
    if u3 = (2 : Int) then
      (gd (hTy h v0 = 10) (hCe h v0 29)).bind fun u4 =>
      R_goesOn_27 FU v0 1 u4 h
    else
      (gd (hTy h v0 = 10) (hCe h v0 29)).bind fun u5 =>
      R_goesOn_27 FU v0 0 u5 h
/-- PrimeProofsModel.fails()V -/
def R_fails (v0 : Int) (h : AH) : Option AH :=
  (gd (hTy h v0 = 10) (hCe h v0 30)).bind fun u1 =>
  if u1 = (-1 : Int) then
    (gd (hTy h v0 = 10) (hCe h v0 26)).bind fun u2 =>
    (gd (hTy h v0 = 10) (hSet h v0 30 u2)).bind fun h3 =>
    some h3
  else
    some h
/-- PrimeProofsModel.needsInt(II)I -/
def R_needsInt_32 (v0 : Int) (v1 : Int) (h : AH) : Option (Int × AH) :=
  (gd (hTy h v0 = 10) 0).bind fun _ =>
  (R_fails v0 h).bind fun h2 =>
  some (v1, h2)
def R_needsInt (v0 : Int) (v1 : Int) (v2 : Int) (h : AH) : Option (Int × AH) :=
  (gd (hTy h v0 = 10) (hCe h v0 30)).bind fun u1 =>
  if u1 = (-1 : Int) then
    (gd (hTy h v0 = 10) (hCe h v0 25)).bind fun u2 =>
    if u2 = (2 : Int) then
      (gd (hTy h v0 = 10) (hCe h v0 28)).bind fun u3 =>
      (R_in u3 v1 v2).bind fun u4 =>
      if u4 = 0 then
        R_needsInt_32 v0 v1 h
      else
        (gd (hTy h v0 = 10) (hCe h v0 28)).bind fun u5 =>
        (gd (hTy h v0 = 10) 0).bind fun _ =>
        (R_goesOn v0 h).bind fun h7 =>
        some (w32 u5, h7)
    else
      R_needsInt_32 v0 v1 h
  else
    some (v1, h)
/-- PrimeProofsModel.needsWord(I)V -/
def R_needsWord_25 (v0 : Int) (h : AH) : Option AH :=
  (gd (hTy h v0 = 10) 0).bind fun _ =>
  (R_fails v0 h).bind fun h2 =>
  some h2
def R_needsWord (v0 : Int) (v1 : Int) (h : AH) : Option AH :=
  (gd (hTy h v0 = 10) (hCe h v0 30)).bind fun u1 =>
  if u1 = (-1 : Int) then
    (gd (hTy h v0 = 10) (hCe h v0 25)).bind fun u2 =>
    if u2 = (1 : Int) then
      (gd (hTy h v0 = 10) (hCe h v0 27)).bind fun u3 =>
      if u3 = v1 then
        (gd (hTy h v0 = 10) 0).bind fun _ =>
        (R_goesOn v0 h).bind fun h5 =>
        some h5
      else
        R_needsWord_25 v0 h
    else
      R_needsWord_25 v0 h
  else
    some h
/-- PrimeProofsModel.hasDowns(I)Z -/
def R_hasDowns (v0 : Int) : Option Int :=
  if v0 = (1 : Int) then
    some 1
  else
    if v0 = (2 : Int) then
      some 1
    else
      if v0 = (4 : Int) then
        some 1
      else
        some 0
/-- PrimeProofsModel.readsDowns(II)V -/
def R_readsDowns_65 (k0 : Int → Int → Int → AH → Option AH) (v0 : Int) (v1 : Int) (v2 : Int) (v3 : Int) (v4 : Int) (s0 : Int) (h : AH) : Option AH :=
  (gd (hTy h v0 = 10) (hCe h v0 30)).bind fun u1 =>
  if u1 = (-1 : Int) then
    (gd (hTy h v0 = 10) 0).bind fun _ =>
    (R_addsDown v0 v1 v3 v4 s0 h).bind fun h3 =>
    k0 v0 v1 v2 h3
  else
    k0 v0 v1 v2 h
def R_readsDowns_31 (k0 : Int → Int → Int → AH → Option AH) (v0 : Int) (v1 : Int) (v2 : Int) (h : AH) : Option AH :=
  (gd (hTy h v0 = 10) 0).bind fun _ =>
  (R_needsInt v0 2 1000000000 h).bind fun u1 =>
  (gd (hTy u1.2 v0 = 10) 0).bind fun _ =>
  (R_needsInt v0 1 30 u1.2).bind fun u2 =>
  if 0 < v2 then
    R_readsDowns_65 k0 v0 v1 v2 u1.1 u2.1 v2 u2.2
  else
    (gd (hTy u2.2 v0 = 10) 0).bind fun _ =>
    (R_needsInt v0 2 999 u2.2).bind fun u3 =>
    R_readsDowns_65 k0 v0 v1 v2 u1.1 u2.1 u3.1 u3.2
def R_readsDowns_0 : Nat → Int → Int → Int → AH → Option AH
  | 0, _, _, _, _ => none
  | fu + 1, v0, v1, v2, h =>
    (gd (hTy h v0 = 10) (hCe h v0 30)).bind fun u1 =>
    if u1 = (-1 : Int) then
      (gd (hTy h v0 = 10) (hCe h v0 25)).bind fun u2 =>
      if u2 = (2 : Int) then
        (gd (hTy h v0 = 10) (hCe h v0 12)).bind fun u3 =>
        (gd (hTy h u3 = 21 ∧ 0 ≤ v1 ∧ v1 < hLn h u3) (hCe h u3 v1)).bind fun u4 =>
        if u4 = (9 : Int) then
          (gd (hTy h v0 = 10) 0).bind fun _ =>
          (R_fails v0 h).bind fun h6 =>
          R_readsDowns_31 (fun a0 a1 a2 h0 => R_readsDowns_0 fu a0 a1 a2 h0) v0 v1 v2 h6
        else
          R_readsDowns_31 (fun a0 a1 a2 h0 => R_readsDowns_0 fu a0 a1 a2 h0) v0 v1 v2 h
      else
        some h
    else
      some h
def R_readsDowns (v0 : Int) (v1 : Int) (v2 : Int) (h : AH) : Option AH := R_readsDowns_0 FU v0 v1 v2 h
/-- PrimeProofsModel.readsUps(I)V -/
def R_readsUps_31 (k0 : Int → Int → AH → Option AH) (v0 : Int) (v1 : Int) (h : AH) : Option AH :=
  (gd (hTy h v0 = 10) 0).bind fun _ =>
  (R_needsInt v0 2 1000000000 h).bind fun u1 =>
  (gd (hTy u1.2 v0 = 10) 0).bind fun _ =>
  (R_needsInt v0 1 30 u1.2).bind fun u2 =>
  (gd (hTy u2.2 v0 = 10) (hCe u2.2 v0 30)).bind fun u3 =>
  if u3 = (-1 : Int) then
    (gd (hTy u2.2 v0 = 10) 0).bind fun _ =>
    (R_addsUp v0 v1 u1.1 u2.1 u2.2).bind fun h5 =>
    k0 v0 v1 h5
  else
    k0 v0 v1 u2.2
def R_readsUps_0 : Nat → Int → Int → AH → Option AH
  | 0, _, _, _ => none
  | fu + 1, v0, v1, h =>
    (gd (hTy h v0 = 10) (hCe h v0 30)).bind fun u1 =>
    if u1 = (-1 : Int) then
      (gd (hTy h v0 = 10) (hCe h v0 25)).bind fun u2 =>
      if u2 = (2 : Int) then
        (gd (hTy h v0 = 10) (hCe h v0 13)).bind fun u3 =>
        (gd (hTy h u3 = 21 ∧ 0 ≤ v1 ∧ v1 < hLn h u3) (hCe h u3 v1)).bind fun u4 =>
        if u4 = (9 : Int) then
          (gd (hTy h v0 = 10) 0).bind fun _ =>
          (R_fails v0 h).bind fun h6 =>
          R_readsUps_31 (fun a0 a1 h0 => R_readsUps_0 fu a0 a1 h0) v0 v1 h6
        else
          R_readsUps_31 (fun a0 a1 h0 => R_readsUps_0 fu a0 a1 h0) v0 v1 h
      else
        some h
    else
      some h
def R_readsUps (v0 : Int) (v1 : Int) (h : AH) : Option AH := R_readsUps_0 FU v0 v1 h
/-- PrimeProofsModel.readsLine(I)V -/
def R_readsLine_165 (v0 : Int) (h : AH) : Option AH :=
  (gd (hTy h v0 = 10) (hCe h v0 30)).bind fun u1 =>
  if u1 = (-1 : Int) then
    (gd (hTy h v0 = 10) (hCe h v0 25)).bind fun u2 =>
    if u2 = (3 : Int) then
      (gd (hTy h v0 = 10) 0).bind fun _ =>
      (R_goesOn v0 h).bind fun h4 =>
      some h4
    else
      (gd (hTy h v0 = 10) 0).bind fun _ =>
      (R_fails v0 h).bind fun h6 =>
      some h6
  else
    some h
def R_readsLine_153 (v0 : Int) (v1 : Int) (v2 : Int) (h : AH) : Option AH :=
  (R_hasPair v2).bind fun u1 =>
  if u1 = 0 then
    R_readsLine_165 v0 h
  else
    (gd (hTy h v0 = 10) 0).bind fun _ =>
    (R_readsUps v0 v1 h).bind fun h3 =>
    R_readsLine_165 v0 h3
def R_readsLine_142 (v0 : Int) (v1 : Int) (v2 : Int) (h : AH) : Option AH :=
  if v2 = (4 : Int) then
    (gd (hTy h v0 = 10) 0).bind fun _ =>
    (R_needsWord v0 9 h).bind fun h2 =>
    R_readsLine_153 v0 v1 v2 h2
  else
    R_readsLine_153 v0 v1 v2 h
def R_readsLine_128 (v0 : Int) (v1 : Int) (v2 : Int) (v4 : Int) (h : AH) : Option AH :=
  (R_hasDowns v2).bind fun u1 =>
  if u1 = 0 then
    R_readsLine_142 v0 v1 v2 h
  else
    (gd (hTy h v0 = 10) 0).bind fun _ =>
    (R_readsDowns v0 v1 v4 h).bind fun h3 =>
    R_readsLine_142 v0 v1 v2 h3
def R_readsLine_125 (v0 : Int) (v1 : Int) (v2 : Int) (v4 : Int) (s0 : Int) (s1 : Int) (h : AH) : Option AH :=
  (gd (hTy h s1 = 10) 0).bind fun _ =>
  (R_needsWord s1 s0 h).bind fun h2 =>
  R_readsLine_128 v0 v1 v2 v4 h2
def R_readsLine_69 (v0 : Int) (v1 : Int) (v2 : Int) (v4 : Int) (h : AH) : Option AH :=
  (R_hasPair v2).bind fun u1 =>
  if u1 = 0 then
    if v2 = 0 then
      R_readsLine_128 v0 v1 v2 v4 h
    else
      if v2 = (4 : Int) then
        R_readsLine_125 v0 v1 v2 v4 8 v0 h
      else
        R_readsLine_125 v0 v1 v2 v4 6 v0 h
  else
    (gd (hTy h v0 = 10) 0).bind fun _ =>
    (R_needsWord v0 7 h).bind fun h3 =>
    (gd (hTy h3 v0 = 10) (hCe h3 v0 10)).bind fun u4 =>
    (gd (hTy h3 v0 = 10) 0).bind fun _ =>
    (R_needsInt v0 1 99 h3).bind fun u5 =>
    (gd (hTy u5.2 u4 = 21 ∧ 0 ≤ v1 ∧ v1 < hLn u5.2 u4) (hSet u5.2 u4 v1 u5.1)).bind fun h6 =>
    (gd (hTy h6 v0 = 10) (hCe h6 v0 11)).bind fun u7 =>
    (gd (hTy h6 v0 = 10) 0).bind fun _ =>
    (R_needsInt v0 1 99 h6).bind fun u8 =>
    (gd (hTy u8.2 u7 = 21 ∧ 0 ≤ v1 ∧ v1 < hLn u8.2 u7) (hSet u8.2 u7 v1 u8.1)).bind fun h9 =>
    if v2 = 0 then
      R_readsLine_128 v0 v1 v2 v4 h9
    else
      if v2 = (4 : Int) then
        R_readsLine_125 v0 v1 v2 v4 8 v0 h9
      else
        R_readsLine_125 v0 v1 v2 v4 6 v0 h9
def R_readsLine_16 (v0 : Int) (h : AH) : Option AH :=
  (gd (hTy h v0 = 10) 0).bind fun _ =>
  (R_fails v0 h).bind fun h2 =>
  some h2
def R_readsLine (v0 : Int) (v1 : Int) (h : AH) : Option AH :=
  (gd (hTy h v0 = 10) (hCe h v0 25)).bind fun u1 =>
  if u1 = (1 : Int) then
    (gd (hTy h v0 = 10) (hCe h v0 27)).bind fun u2 =>
    if (4 : Int) < u2 then
      R_readsLine_16 v0 h
    else
      (gd (hTy h v0 = 10) (hCe h v0 27)).bind fun u3 =>
      (gd (hTy h v0 = 10) 0).bind fun _ =>
      (R_goesOn v0 h).bind fun h5 =>
      (gd (hTy h5 v0 = 10) 0).bind fun _ =>
      (R_needsInt v0 2 1000000000 h5).bind fun u6 =>
      (gd (hTy u6.2 v0 = 10) 0).bind fun _ =>
      (R_begins v0 v1 u6.1 u3 u6.2).bind fun h8 =>
      if u3 = (1 : Int) then
        (gd (hTy h8 v0 = 10) 0).bind fun _ =>
        (R_needsWord v0 5 h8).bind fun h10 =>
        (gd (hTy h10 v0 = 10) 0).bind fun _ =>
        (R_needsInt v0 2 999 h10).bind fun u11 =>
        R_readsLine_69 v0 v1 u3 u11.1 u11.2
      else
        R_readsLine_69 v0 v1 u3 0 h8
  else
    R_readsLine_16 v0 h
/-- PrimeProofsModel.read()I -/
def R_read_52 (v0 : Int) (v1 : Int) (h : AH) : Option (Int × AH) :=
  (gd (hTy h v0 = 10) (hSet h v0 24 0)).bind fun h1 =>
  (gd (hTy h1 v0 = 10) (hCe h1 v0 30)).bind fun u2 =>
  if u2 = (-1 : Int) then
    (gd (hTy h1 v0 = 10) (hCe h1 v0 7)).bind fun u3 =>
    if (60 : Int) < (w32 (u3 + v1)) then
      some ((-3), h1)
    else
      (gd (hTy h1 v0 = 10) (hCe h1 v0 7)).bind fun u4 =>
      (gd (hTy h1 v0 = 10) (hSet h1 v0 7 (w32 (u4 + v1)))).bind fun h5 =>
      some (v1, h5)
  else
    (gd (hTy h1 v0 = 10) (hCe h1 v0 30)).bind fun u6 =>
    some (w32 ((-4) - u6), h1)
def R_read_21 : Nat → Int → Int → AH → Option (Int × AH)
  | 0, _, _, _ => none
  | fu + 1, v0, v1, h =>
    (gd (hTy h v0 = 10) (hCe h v0 30)).bind fun u1 =>
    if u1 = (-1 : Int) then
      (gd (hTy h v0 = 10) (hCe h v0 25)).bind fun u2 =>
      if u2 = 0 then
        R_read_52 v0 v1 h
      else
        (gd (hTy h v0 = 10) (hCe h v0 7)).bind fun u3 =>
        (gd (hTy h v0 = 10) 0).bind fun _ =>
        (R_readsLine v0 (w32 (u3 + v1)) h).bind fun h5 =>
        R_read_21 fu v0 (w32 (v1 + 1)) h5
    else
      R_read_52 v0 v1 h
def R_read (v0 : Int) (h : AH) : Option (Int × AH) :=
  (gd (hTy h v0 = 10) (hSet h v0 29 0)).bind fun h1 =>
  (gd (hTy h1 v0 = 10) (hSet h1 v0 25 3)).bind fun h2 =>
  (gd (hTy h2 v0 = 10) (hSet h2 v0 30 (-1))).bind fun h3 =>
  (gd (hTy h3 v0 = 10) 0).bind fun _ =>
  (R_goesOn v0 h3).bind fun h5 =>
  R_read_21 FU v0 0 h5
/-- PrimeProofsModel.writesSign(I)V -/
def R_writesSign (v0 : Int) (v1 : Int) (h : AH) : Option AH :=
  (gd (hTy h v0 = 10) (hCe h v0 32)).bind fun u1 =>
  (gd (hTy h v0 = 10) (hCe h v0 33)).bind fun u2 =>
  (gd (hTy h u1 = 21 ∧ 0 ≤ u2 ∧ u2 < hLn h u1) (hSet h u1 u2 v1)).bind fun h3 =>
  (gd (hTy h3 v0 = 10) (hCe h3 v0 33)).bind fun u4 =>
  (gd (hTy h3 v0 = 10) (hSet h3 v0 33 (w32 (u4 + 1)))).bind fun h5 =>
  some h5
/-- PrimeProofsModel.writesWord(I)V -/
def R_writesWord_19 : Nat → Int → Int → AH → Option AH
  | 0, _, _, _ => none
  | fu + 1, v0, v2, h =>
    (gd (hTy h v0 = 10) (hCe h v0 31)).bind fun u1 =>
    (gd ((hTy h u1 = 23 ∨ hTy h u1 = 25) ∧ 0 ≤ v2 ∧ v2 < hLn h u1) (hCe h u1 v2)).bind fun u2 =>
    if u2 = 0 then
      some h
    else
      (gd (hTy h v0 = 10) (hCe h v0 31)).bind fun u3 =>
      (gd ((hTy h u3 = 23 ∨ hTy h u3 = 25) ∧ 0 ≤ v2 ∧ v2 < hLn h u3) (hCe h u3 v2)).bind fun u4 =>
      (gd (hTy h v0 = 10) 0).bind fun _ =>
      (R_writesSign v0 u4 h).bind fun h6 =>
      R_writesWord_19 fu v0 (w32 (v2 + 1)) h6
def R_writesWord_13 (v0 : Int) (v1 : Int) (h : AH) : Option AH :=
  (gd (hTy h v0 = 10) 0).bind fun _ =>
  (R_wordFrom v0 v1 h).bind fun u1 =>
  R_writesWord_19 FU v0 u1 h
def R_writesWord (v0 : Int) (v1 : Int) (h : AH) : Option AH :=
  (gd (hTy h v0 = 10) (hCe h v0 33)).bind fun u1 =>
  if 0 < u1 then
    (gd (hTy h v0 = 10) 0).bind fun _ =>
    (R_writesSign v0 32 h).bind fun h3 =>
    R_writesWord_13 v0 v1 h3
  else
    R_writesWord_13 v0 v1 h
/-- PrimeProofsModel.writes(I)V -/
def R_writes_24 : Nat → Int → Int → Int → AH → Option AH
  | 0, _, _, _, _ => none
  | fu + 1, v0, v1, v2, h =>
    if 0 < v2 then
      (gd (v2 ≠ 0) (w32 (Int.tdiv v1 v2))).bind fun u1 =>
      (gd ((10 : Int) ≠ 0) (Int.tmod u1 10)).bind fun u2 =>
      (gd (hTy h v0 = 10) 0).bind fun _ =>
      (R_writesSign v0 (w32 (48 + u2)) h).bind fun h4 =>
      (gd ((10 : Int) ≠ 0) (w32 (Int.tdiv v2 10))).bind fun u5 =>
      R_writes_24 fu v0 v1 u5 h4
    else
      some h
def R_writes_8 : Nat → Int → Int → Int → AH → Option AH
  | 0, _, _, _, _ => none
  | fu + 1, v0, v1, v2, h =>
    (gd (v2 ≠ 0) (w32 (Int.tdiv v1 v2))).bind fun u1 =>
    if (9 : Int) < u1 then
      R_writes_8 fu v0 v1 (w32 (v2 * 10)) h
    else
      R_writes_24 FU v0 v1 v2 h
def R_writes (v0 : Int) (v1 : Int) (h : AH) : Option AH :=
  (gd (hTy h v0 = 10) 0).bind fun _ =>
  (R_writesSign v0 32 h).bind fun h2 =>
  R_writes_8 FU v0 v1 1 h2
/-- PrimeProofsModel.writesLine(I)V -/
def R_writesLine_193 : Nat → Int → Int → Int → AH → Option AH
  | 0, _, _, _, _ => none
  | fu + 1, v0, v1, v3, h =>
    (gd (hTy h v0 = 10) (hCe h v0 13)).bind fun u1 =>
    (gd (hTy h u1 = 21 ∧ 0 ≤ v1 ∧ v1 < hLn h u1) (hCe h u1 v1)).bind fun u2 =>
    if v3 < (w32 ((w32 (9 * v1)) + u2)) then
      (gd (hTy h v0 = 10) (hCe h v0 17)).bind fun u3 =>
      (gd (hTy h u3 = 21 ∧ 0 ≤ v3 ∧ v3 < hLn h u3) (hCe h u3 v3)).bind fun u4 =>
      (gd (hTy h v0 = 10) 0).bind fun _ =>
      (R_writes v0 u4 h).bind fun h6 =>
      (gd (hTy h6 v0 = 10) (hCe h6 v0 18)).bind fun u7 =>
      (gd (hTy h6 u7 = 21 ∧ 0 ≤ v3 ∧ v3 < hLn h6 u7) (hCe h6 u7 v3)).bind fun u8 =>
      (gd (hTy h6 v0 = 10) 0).bind fun _ =>
      (R_writes v0 u8 h6).bind fun h10 =>
      R_writesLine_193 fu v0 v1 (w32 (v3 + 1)) h10
    else
      (gd (hTy h v0 = 10) 0).bind fun _ =>
      (R_writesSign v0 59 h).bind fun h12 =>
      some h12
def R_writesLine_121 : Nat → Int → Int → Int → Int → AH → Option AH
  | 0, _, _, _, _, _ => none
  | fu + 1, v0, v1, v2, v3, h =>
    (gd (hTy h v0 = 10) (hCe h v0 12)).bind fun u1 =>
    (gd (hTy h u1 = 21 ∧ 0 ≤ v1 ∧ v1 < hLn h u1) (hCe h u1 v1)).bind fun u2 =>
    if v3 < (w32 ((w32 (9 * v1)) + u2)) then
      (gd (hTy h v0 = 10) (hCe h v0 14)).bind fun u3 =>
      (gd (hTy h u3 = 21 ∧ 0 ≤ v3 ∧ v3 < hLn h u3) (hCe h u3 v3)).bind fun u4 =>
      (gd (hTy h v0 = 10) 0).bind fun _ =>
      (R_writes v0 u4 h).bind fun h6 =>
      (gd (hTy h6 v0 = 10) (hCe h6 v0 15)).bind fun u7 =>
      (gd (hTy h6 u7 = 21 ∧ 0 ≤ v3 ∧ v3 < hLn h6 u7) (hCe h6 u7 v3)).bind fun u8 =>
      (gd (hTy h6 v0 = 10) 0).bind fun _ =>
      (R_writes v0 u8 h6).bind fun h10 =>
      if v2 = (1 : Int) then
        R_writesLine_121 fu v0 v1 v2 (w32 (v3 + 1)) h10
      else
        (gd (hTy h10 v0 = 10) (hCe h10 v0 16)).bind fun u11 =>
        (gd (hTy h10 u11 = 21 ∧ 0 ≤ v3 ∧ v3 < hLn h10 u11) (hCe h10 u11 v3)).bind fun u12 =>
        (gd (hTy h10 v0 = 10) 0).bind fun _ =>
        (R_writes v0 u12 h10).bind fun h14 =>
        R_writesLine_121 fu v0 v1 v2 (w32 (v3 + 1)) h14
    else
      if v2 = (4 : Int) then
        (gd (hTy h v0 = 10) 0).bind fun _ =>
        (R_writesWord v0 9 h).bind fun h16 =>
        R_writesLine_193 FU v0 v1 (w32 (9 * v1)) h16
      else
        R_writesLine_193 FU v0 v1 (w32 (9 * v1)) h
def R_writesLine_113 (v0 : Int) (v1 : Int) (v2 : Int) (s0 : Int) (s1 : Int) (h : AH) : Option AH :=
  (gd (hTy h s1 = 10) 0).bind fun _ =>
  (R_writesWord s1 s0 h).bind fun h2 =>
  R_writesLine_121 FU v0 v1 v2 (w32 (9 * v1)) h2
def R_writesLine_63 (v0 : Int) (v1 : Int) (v2 : Int) (h : AH) : Option AH :=
  (R_hasPair v2).bind fun u1 =>
  if u1 = 0 then
    if v2 = 0 then
      R_writesLine_121 FU v0 v1 v2 (w32 (9 * v1)) h
    else
      if v2 = (4 : Int) then
        R_writesLine_113 v0 v1 v2 8 v0 h
      else
        R_writesLine_113 v0 v1 v2 6 v0 h
  else
    (gd (hTy h v0 = 10) 0).bind fun _ =>
    (R_writesWord v0 7 h).bind fun h3 =>
    (gd (hTy h3 v0 = 10) (hCe h3 v0 10)).bind fun u4 =>
    (gd (hTy h3 u4 = 21 ∧ 0 ≤ v1 ∧ v1 < hLn h3 u4) (hCe h3 u4 v1)).bind fun u5 =>
    (gd (hTy h3 v0 = 10) 0).bind fun _ =>
    (R_writes v0 u5 h3).bind fun h7 =>
    (gd (hTy h7 v0 = 10) (hCe h7 v0 11)).bind fun u8 =>
    (gd (hTy h7 u8 = 21 ∧ 0 ≤ v1 ∧ v1 < hLn h7 u8) (hCe h7 u8 v1)).bind fun u9 =>
    (gd (hTy h7 v0 = 10) 0).bind fun _ =>
    (R_writes v0 u9 h7).bind fun h11 =>
    if v2 = 0 then
      R_writesLine_121 FU v0 v1 v2 (w32 (9 * v1)) h11
    else
      if v2 = (4 : Int) then
        R_writesLine_113 v0 v1 v2 8 v0 h11
      else
        R_writesLine_113 v0 v1 v2 6 v0 h11
def R_writesLine_60 (v0 : Int) (v1 : Int) (v2 : Int) (s0 : Int) (s1 : Int) (h : AH) : Option AH :=
  (gd (hTy h s1 = 10) 0).bind fun _ =>
  (R_writes s1 s0 h).bind fun h2 =>
  R_writesLine_63 v0 v1 v2 h2
def R_writesLine (v0 : Int) (v1 : Int) (h : AH) : Option AH :=
  (gd (hTy h v0 = 10) (hCe h v0 9)).bind fun u1 =>
  (gd (hTy h u1 = 21 ∧ 0 ≤ v1 ∧ v1 < hLn h u1) (hCe h u1 v1)).bind fun u2 =>
  (gd (hTy h v0 = 10) (hSet h v0 33 0)).bind fun h3 =>
  (gd (hTy h3 v0 = 10) 0).bind fun _ =>
  (R_writesWord v0 u2 h3).bind fun h5 =>
  (gd (hTy h5 v0 = 10) (hCe h5 v0 8)).bind fun u6 =>
  (gd (hTy h5 u6 = 21 ∧ 0 ≤ v1 ∧ v1 < hLn h5 u6) (hCe h5 u6 v1)).bind fun u7 =>
  (gd (hTy h5 v0 = 10) 0).bind fun _ =>
  (R_writes v0 u7 h5).bind fun h9 =>
  if u2 = (1 : Int) then
    (gd (hTy h9 v0 = 10) 0).bind fun _ =>
    (R_writesWord v0 5 h9).bind fun h11 =>
    (gd (hTy h11 v0 = 10) (hCe h11 v0 12)).bind fun u12 =>
    (gd (hTy h11 u12 = 21 ∧ 0 ≤ v1 ∧ v1 < hLn h11 u12) (hCe h11 u12 v1)).bind fun u13 =>
    if u13 = 0 then
      R_writesLine_60 v0 v1 u2 2 v0 h11
    else
      (gd (hTy h11 v0 = 10) (hCe h11 v0 16)).bind fun u14 =>
      (gd (hTy h11 u14 = 21 ∧ 0 ≤ (w32 (9 * v1)) ∧ (w32 (9 * v1)) < hLn h11 u14) (hCe h11 u14 (w32 (9 * v1)))).bind fun u15 =>
      R_writesLine_60 v0 v1 u2 u15 v0 h11
  else
    R_writesLine_63 v0 v1 u2 h9
/-- PrimeProofsModel.spell(II)I -/
def R_spell (v0 : Int) (v1 : Int) (v2 : Int) (h : AH) : Option (Int × AH) :=
  (gd (hTy h v0 = 10) 0).bind fun _ =>
  (R_isLine v0 v1 h).bind fun u1 =>
  if u1 = 0 then
    some ((-1), h)
  else
    if v2 < (-1 : Int) then
      some ((-1), h)
    else
      (gd (hTy h v0 = 10) 0).bind fun _ =>
      (R_writesLine v0 v1 h).bind fun h3 =>
      if v2 = (-1 : Int) then
        (gd (hTy h3 v0 = 10) (hCe h3 v0 33)).bind fun u4 =>
        some (u4, h3)
      else
        (gd (hTy h3 v0 = 10) (hCe h3 v0 33)).bind fun u5 =>
        if v2 < u5 then
          (gd (hTy h3 v0 = 10) (hCe h3 v0 32)).bind fun u6 =>
          (gd (hTy h3 u6 = 21 ∧ 0 ≤ v2 ∧ v2 < hLn h3 u6) (hCe h3 u6 v2)).bind fun u7 =>
          some (u7, h3)
        else
          some ((-1), h3)
/-- PrimeProofsModel.set(III)I -/
def R_set_100 (v0 : Int) (v1 : Int) (v2 : Int) (v3 : Int) (s0 : Int) (h : AH) : Option (Int × AH) :=
  if v2 = 0 then
    (gd (hTy h v0 = 10) (hCe h v0 8)).bind fun u1 =>
    (gd (hTy h u1 = 21 ∧ 0 ≤ v1 ∧ v1 < hLn h u1) (hSet h u1 v1 v3)).bind fun h2 =>
    some (s0, h2)
  else
    if v2 = (1 : Int) then
      (gd (hTy h v0 = 10) (hCe h v0 10)).bind fun u3 =>
      (gd (hTy h u3 = 21 ∧ 0 ≤ v1 ∧ v1 < hLn h u3) (hSet h u3 v1 v3)).bind fun h4 =>
      some (s0, h4)
    else
      (gd (hTy h v0 = 10) (hCe h v0 11)).bind fun u5 =>
      (gd (hTy h u5 = 21 ∧ 0 ≤ v1 ∧ v1 < hLn h u5) (hSet h u5 v1 v3)).bind fun h6 =>
      some (s0, h6)
def R_set_67 (v0 : Int) (v1 : Int) (v2 : Int) (v3 : Int) (h : AH) : Option (Int × AH) :=
  if v2 = 0 then
    (gd (hTy h v0 = 10) (hCe h v0 8)).bind fun u1 =>
    (gd (hTy h u1 = 21 ∧ 0 ≤ v1 ∧ v1 < hLn h u1) (hCe h u1 v1)).bind fun u2 =>
    R_set_100 v0 v1 v2 v3 u2 h
  else
    if v2 = (1 : Int) then
      (gd (hTy h v0 = 10) (hCe h v0 10)).bind fun u3 =>
      (gd (hTy h u3 = 21 ∧ 0 ≤ v1 ∧ v1 < hLn h u3) (hCe h u3 v1)).bind fun u4 =>
      R_set_100 v0 v1 v2 v3 u4 h
    else
      (gd (hTy h v0 = 10) (hCe h v0 11)).bind fun u5 =>
      (gd (hTy h u5 = 21 ∧ 0 ≤ v1 ∧ v1 < hLn h u5) (hCe h u5 v1)).bind fun u6 =>
      R_set_100 v0 v1 v2 v3 u6 h
def R_set_38 (v0 : Int) (v1 : Int) (v2 : Int) (v3 : Int) (h : AH) : Option (Int × AH) :=
  if v2 = 0 then
    (R_isNumber v3).bind fun u1 =>
    if u1 = 0 then
      some ((-1), h)
    else
      R_set_67 v0 v1 v2 v3 h
  else
    (R_in v3 1 99).bind fun u2 =>
    if u2 = 0 then
      some ((-1), h)
    else
      R_set_67 v0 v1 v2 v3 h
def R_set (v0 : Int) (v1 : Int) (v2 : Int) (v3 : Int) (h : AH) : Option (Int × AH) :=
  (gd (hTy h v0 = 10) 0).bind fun _ =>
  (R_isLine v0 v1 h).bind fun u1 =>
  if u1 = 0 then
    some ((-1), h)
  else
    (R_in v2 0 2).bind fun u2 =>
    if u2 = 0 then
      some ((-1), h)
    else
      if 0 < v2 then
        (gd (hTy h v0 = 10) (hCe h v0 9)).bind fun u3 =>
        (gd (hTy h u3 = 21 ∧ 0 ≤ v1 ∧ v1 < hLn h u3) (hCe h u3 v1)).bind fun u4 =>
        (R_hasPair u4).bind fun u5 =>
        if u5 = 0 then
          some ((-1), h)
        else
          R_set_38 v0 v1 v2 v3 h
      else
        R_set_38 v0 v1 v2 v3 h
/-- PrimeProofsModel.isRow(IZI)Z -/
def R_isRow_30 (s0 : Int) (s1 : Int) (s2 : Int) (h : AH) : Option Int :=
  (R_in s2 s1 (w32 (s0 - 1))).bind fun u1 =>
  if u1 = 0 then
    some 0
  else
    some 1
def R_isRow (v0 : Int) (v1 : Int) (v2 : Int) (v3 : Int) (h : AH) : Option Int :=
  (gd (hTy h v0 = 10) 0).bind fun _ =>
  (R_isLine v0 v1 h).bind fun u1 =>
  if u1 = 0 then
    some 0
  else
    if v2 = 0 then
      (gd (hTy h v0 = 10) (hCe h v0 12)).bind fun u2 =>
      (gd (hTy h u2 = 21 ∧ 0 ≤ v1 ∧ v1 < hLn h u2) (hCe h u2 v1)).bind fun u3 =>
      R_isRow_30 u3 0 v3 h
    else
      (gd (hTy h v0 = 10) (hCe h v0 13)).bind fun u4 =>
      (gd (hTy h u4 = 21 ∧ 0 ≤ v1 ∧ v1 < hLn h u4) (hCe h u4 v1)).bind fun u5 =>
      R_isRow_30 u5 0 v3 h
/-- PrimeProofsModel.canBe(II)Z -/
def R_canBe (v0 : Int) (v1 : Int) : Option Int :=
  if v0 = 0 then
    (R_isNumber v1).bind fun u1 =>
    (gd (0 ≤ u1 ∧ u1 ≤ 1) 0).bind fun _ => some u1
  else
    if v0 = (1 : Int) then
      (R_in v1 1 30).bind fun u2 =>
      (gd (0 ≤ u2 ∧ u2 ≤ 1) 0).bind fun _ => some u2
    else
      (R_in v1 2 999).bind fun u3 =>
      (gd (0 ≤ u3 ∧ u3 ≤ 1) 0).bind fun _ => some u3
/-- PrimeProofsModel.alter(IZIII)I -/
def R_alter_95 (v1 : Int) (v3 : Int) (v5 : Int) (s0 : Int) (h : AH) : Option (Int × AH) :=
  (gd (hTy h s0 = 21 ∧ 0 ≤ (w32 ((w32 (9 * v1)) + v3)) ∧ (w32 ((w32 (9 * v1)) + v3)) < hLn h s0) (hCe h s0 (w32 ((w32 (9 * v1)) + v3)))).bind fun u1 =>
  (gd (hTy h s0 = 21 ∧ 0 ≤ (w32 ((w32 (9 * v1)) + v3)) ∧ (w32 ((w32 (9 * v1)) + v3)) < hLn h s0) (hSet h s0 (w32 ((w32 (9 * v1)) + v3)) v5)).bind fun h2 =>
  some (u1, h2)
def R_alter_25 (v0 : Int) (v1 : Int) (v2 : Int) (v3 : Int) (v4 : Int) (v5 : Int) (s0 : Int) (s1 : Int) (s2 : Int) (h : AH) : Option (Int × AH) :=
  (R_in s2 s1 s0).bind fun u1 =>
  if u1 = 0 then
    some ((-1), h)
  else
    (R_canBe v4 v5).bind fun u2 =>
    if u2 = 0 then
      some ((-1), h)
    else
      if v4 = (2 : Int) then
        (gd (hTy h v0 = 10) (hCe h v0 16)).bind fun u3 =>
        R_alter_95 v1 v3 v5 u3 h
      else
        if v4 = (1 : Int) then
          if v2 = 0 then
            (gd (hTy h v0 = 10) (hCe h v0 15)).bind fun u4 =>
            R_alter_95 v1 v3 v5 u4 h
          else
            (gd (hTy h v0 = 10) (hCe h v0 18)).bind fun u5 =>
            R_alter_95 v1 v3 v5 u5 h
        else
          if v2 = 0 then
            (gd (hTy h v0 = 10) (hCe h v0 14)).bind fun u6 =>
            R_alter_95 v1 v3 v5 u6 h
          else
            (gd (hTy h v0 = 10) (hCe h v0 17)).bind fun u7 =>
            R_alter_95 v1 v3 v5 u7 h
def R_alter (v0 : Int) (v1 : Int) (v2 : Int) (v3 : Int) (v4 : Int) (v5 : Int) (h : AH) : Option (Int × AH) :=
  (gd (hTy h v0 = 10) 0).bind fun _ =>
  (R_isRow v0 v1 v2 v3 h).bind fun u1 =>
  if u1 = 0 then
    some ((-1), h)
  else
    if v2 = 0 then
      R_alter_25 v0 v1 v2 v3 v4 v5 2 0 v4 h
    else
      R_alter_25 v0 v1 v2 v3 v4 v5 1 0 v4 h
/-- PrimeProofsModel.cut(IZI)I -/
def R_cut_41 : Nat → Int → Int → Int → Int → Int → AH → Option (Int × AH)
  | 0, _, _, _, _, _, _ => none
  | fu + 1, v0, v1, v2, v4, v5, h =>
    if v5 < (w32 ((w32 ((w32 (9 * v1)) + v4)) - 1)) then
      if v2 = 0 then
        (gd (hTy h v0 = 10) (hCe h v0 14)).bind fun u1 =>
        (gd (hTy h v0 = 10) (hCe h v0 14)).bind fun u2 =>
        (gd (hTy h u2 = 21 ∧ 0 ≤ (w32 (v5 + 1)) ∧ (w32 (v5 + 1)) < hLn h u2) (hCe h u2 (w32 (v5 + 1)))).bind fun u3 =>
        (gd (hTy h u1 = 21 ∧ 0 ≤ v5 ∧ v5 < hLn h u1) (hSet h u1 v5 u3)).bind fun h4 =>
        (gd (hTy h4 v0 = 10) (hCe h4 v0 15)).bind fun u5 =>
        (gd (hTy h4 v0 = 10) (hCe h4 v0 15)).bind fun u6 =>
        (gd (hTy h4 u6 = 21 ∧ 0 ≤ (w32 (v5 + 1)) ∧ (w32 (v5 + 1)) < hLn h4 u6) (hCe h4 u6 (w32 (v5 + 1)))).bind fun u7 =>
        (gd (hTy h4 u5 = 21 ∧ 0 ≤ v5 ∧ v5 < hLn h4 u5) (hSet h4 u5 v5 u7)).bind fun h8 =>
        (gd (hTy h8 v0 = 10) (hCe h8 v0 16)).bind fun u9 =>
        (gd (hTy h8 v0 = 10) (hCe h8 v0 16)).bind fun u10 =>
        (gd (hTy h8 u10 = 21 ∧ 0 ≤ (w32 (v5 + 1)) ∧ (w32 (v5 + 1)) < hLn h8 u10) (hCe h8 u10 (w32 (v5 + 1)))).bind fun u11 =>
        (gd (hTy h8 u9 = 21 ∧ 0 ≤ v5 ∧ v5 < hLn h8 u9) (hSet h8 u9 v5 u11)).bind fun h12 =>
        R_cut_41 fu v0 v1 v2 v4 (w32 (v5 + 1)) h12
      else
        (gd (hTy h v0 = 10) (hCe h v0 17)).bind fun u13 =>
        (gd (hTy h v0 = 10) (hCe h v0 17)).bind fun u14 =>
        (gd (hTy h u14 = 21 ∧ 0 ≤ (w32 (v5 + 1)) ∧ (w32 (v5 + 1)) < hLn h u14) (hCe h u14 (w32 (v5 + 1)))).bind fun u15 =>
        (gd (hTy h u13 = 21 ∧ 0 ≤ v5 ∧ v5 < hLn h u13) (hSet h u13 v5 u15)).bind fun h16 =>
        (gd (hTy h16 v0 = 10) (hCe h16 v0 18)).bind fun u17 =>
        (gd (hTy h16 v0 = 10) (hCe h16 v0 18)).bind fun u18 =>
        (gd (hTy h16 u18 = 21 ∧ 0 ≤ (w32 (v5 + 1)) ∧ (w32 (v5 + 1)) < hLn h16 u18) (hCe h16 u18 (w32 (v5 + 1)))).bind fun u19 =>
        (gd (hTy h16 u17 = 21 ∧ 0 ≤ v5 ∧ v5 < hLn h16 u17) (hSet h16 u17 v5 u19)).bind fun h20 =>
        R_cut_41 fu v0 v1 v2 v4 (w32 (v5 + 1)) h20
    else
      if v2 = 0 then
        (gd (hTy h v0 = 10) (hCe h v0 12)).bind fun u21 =>
        (gd (hTy h u21 = 21 ∧ 0 ≤ v1 ∧ v1 < hLn h u21) (hCe h u21 v1)).bind fun u22 =>
        (gd (hTy h u21 = 21 ∧ 0 ≤ v1 ∧ v1 < hLn h u21) (hSet h u21 v1 (w32 (u22 - 1)))).bind fun h23 =>
        some (w32 (v4 - 1), h23)
      else
        (gd (hTy h v0 = 10) (hCe h v0 13)).bind fun u24 =>
        (gd (hTy h u24 = 21 ∧ 0 ≤ v1 ∧ v1 < hLn h u24) (hCe h u24 v1)).bind fun u25 =>
        (gd (hTy h u24 = 21 ∧ 0 ≤ v1 ∧ v1 < hLn h u24) (hSet h u24 v1 (w32 (u25 - 1)))).bind fun h26 =>
        some (w32 (v4 - 1), h26)
def R_cut (v0 : Int) (v1 : Int) (v2 : Int) (v3 : Int) (h : AH) : Option (Int × AH) :=
  (gd (hTy h v0 = 10) 0).bind fun _ =>
  (R_isRow v0 v1 v2 v3 h).bind fun u1 =>
  if u1 = 0 then
    some ((-1), h)
  else
    if v2 = 0 then
      (gd (hTy h v0 = 10) (hCe h v0 12)).bind fun u2 =>
      (gd (hTy h u2 = 21 ∧ 0 ≤ v1 ∧ v1 < hLn h u2) (hCe h u2 v1)).bind fun u3 =>
      R_cut_41 FU v0 v1 v2 u3 (w32 ((w32 (9 * v1)) + v3)) h
    else
      (gd (hTy h v0 = 10) (hCe h v0 13)).bind fun u4 =>
      (gd (hTy h u4 = 21 ∧ 0 ≤ v1 ∧ v1 < hLn h u4) (hCe h u4 v1)).bind fun u5 =>
      R_cut_41 FU v0 v1 v2 u5 (w32 ((w32 (9 * v1)) + v3)) h
/-- PrimeProofsModel.isRightLine(I)Z -/
def R_isRightLine (v0 : Int) (v1 : Int) (h : AH) : Option (Int × AH) :=
  (gd (hTy h v0 = 10) 0).bind fun _ =>
  (R_laysRight v0 h).bind fun h2 =>
  (gd (hTy h2 v0 = 10) (hCe h2 v0 19)).bind fun u3 =>
  (gd ((hTy h2 u3 = 23 ∨ hTy h2 u3 = 25) ∧ 0 ≤ v1 ∧ v1 < hLn h2 u3) (hCe h2 u3 v1)).bind fun u4 =>
  (gd (0 ≤ u4 ∧ u4 ≤ 1) 0).bind fun _ => some (u4, h2)
/-- PrimeProofsModel.move(II)I -/
def R_move_53 : Nat → Int → Int → Int → AH → Option (Int × AH)
  | 0, _, _, _, _ => none
  | fu + 1, v0, v2, v3, h =>
    if v2 < v3 then
      (gd (hTy h v0 = 10) 0).bind fun _ =>
      (R_becomes v0 v3 (w32 (v3 - 1)) h).bind fun h2 =>
      R_move_53 fu v0 v2 (w32 (v3 + (-1))) h2
    else
      (gd (hTy h v0 = 10) 0).bind fun _ =>
      (R_becomes v0 v2 115 h).bind fun h4 =>
      (gd (hTy h4 v0 = 10) 0).bind fun _ =>
      (R_isRightLine v0 v2 h4).bind fun u5 =>
      if u5.1 = 0 then
        some (0, u5.2)
      else
        some (1, u5.2)
def R_move_32 : Nat → Int → Int → Int → Int → AH → Option (Int × AH)
  | 0, _, _, _, _, _ => none
  | fu + 1, v0, v1, v2, v3, h =>
    if v3 < v2 then
      (gd (hTy h v0 = 10) 0).bind fun _ =>
      (R_becomes v0 v3 (w32 (v3 + 1)) h).bind fun h2 =>
      R_move_32 fu v0 v1 v2 (w32 (v3 + 1)) h2
    else
      R_move_53 FU v0 v2 v1 h
def R_move (v0 : Int) (v1 : Int) (v2 : Int) (h : AH) : Option (Int × AH) :=
  (gd (hTy h v0 = 10) 0).bind fun _ =>
  (R_isLine v0 v1 h).bind fun u1 =>
  if u1 = 0 then
    some ((-1), h)
  else
    (gd (hTy h v0 = 10) 0).bind fun _ =>
    (R_isLine v0 v2 h).bind fun u2 =>
    if u2 = 0 then
      some ((-1), h)
    else
      if v1 = v2 then
        some ((-1), h)
      else
        (gd (hTy h v0 = 10) 0).bind fun _ =>
        (R_becomes v0 115 v1 h).bind fun h4 =>
        R_move_32 FU v0 v1 v2 v1 h4
/-- PrimeProofsModel.has(JI)Z -/
def R_has (v0 : Int) (v2 : Int) : Option Int :=
  if (andL (shrL v0 v2) 1) = (1 : Int) then
    some 1
  else
    some 0
/-- PrimeProofsModel.props(I)J -/
def R_props_53 : Nat → Int → Int → Int → Int → AH → Option Int
  | 0, _, _, _, _, _ => none
  | fu + 1, v0, v1, v2, v4, h =>
    (gd (hTy h v0 = 10) (hCe h v0 13)).bind fun u1 =>
    (gd (hTy h u1 = 21 ∧ 0 ≤ v1 ∧ v1 < hLn h u1) (hCe h u1 v1)).bind fun u2 =>
    if v4 < (w32 ((w32 (9 * v1)) + u2)) then
      (gd (hTy h v0 = 10) (hCe h v0 17)).bind fun u3 =>
      (gd (hTy h u3 = 21 ∧ 0 ≤ v4 ∧ v4 < hLn h u3) (hCe h u3 v4)).bind fun u4 =>
      (gd (hTy h v0 = 10) 0).bind fun _ =>
      (R_lineFor v0 u4 v1 h).bind fun u5 =>
      R_props_53 fu v0 v1 (orL v2 (shlL 1 u5)) (w32 (v4 + 1)) h
    else
      some v2
def R_props_8 : Nat → Int → Int → Int → Int → AH → Option Int
  | 0, _, _, _, _, _ => none
  | fu + 1, v0, v1, v2, v4, h =>
    (gd (hTy h v0 = 10) (hCe h v0 12)).bind fun u1 =>
    (gd (hTy h u1 = 21 ∧ 0 ≤ v1 ∧ v1 < hLn h u1) (hCe h u1 v1)).bind fun u2 =>
    if v4 < (w32 ((w32 (9 * v1)) + u2)) then
      (gd (hTy h v0 = 10) (hCe h v0 14)).bind fun u3 =>
      (gd (hTy h u3 = 21 ∧ 0 ≤ v4 ∧ v4 < hLn h u3) (hCe h u3 v4)).bind fun u4 =>
      (gd (hTy h v0 = 10) 0).bind fun _ =>
      (R_lineFor v0 u4 v1 h).bind fun u5 =>
      R_props_8 fu v0 v1 (orL v2 (shlL 1 u5)) (w32 (v4 + 1)) h
    else
      R_props_53 FU v0 v1 v2 (w32 (9 * v1)) h
def R_props (v0 : Int) (v1 : Int) (h : AH) : Option Int :=
  R_props_8 FU v0 v1 0 (w32 (9 * v1)) h
/-- PrimeProofsModel.restsOf(I)J -/
def R_restsOf_7 : Nat → Int → Int → Int → AH → Option Int
  | 0, _, _, _, _ => none
  | fu + 1, v0, v2, v4, h =>
    if v4 < 0 then
      some v2
    else
      (R_has v2 v4).bind fun u1 =>
      if u1 = 0 then
        R_restsOf_7 fu v0 v2 (w32 (v4 + (-1))) h
      else
        (gd (hTy h v0 = 10) 0).bind fun _ =>
        (R_props v0 v4 h).bind fun u2 =>
        R_restsOf_7 fu v0 (orL v2 u2) (w32 (v4 + (-1))) h
def R_restsOf (v0 : Int) (v1 : Int) (h : AH) : Option Int :=
  R_restsOf_7 FU v0 (shlL 1 v1) v1 h
/-- PrimeProofsModel.prune(I)I -/
def R_prune_33 : Nat → Int → Int → Int → Int → AH → Option (Int × AH)
  | 0, _, _, _, _, _ => none
  | fu + 1, v0, v2, v4, v5, h =>
    (gd (hTy h v0 = 10) (hCe h v0 7)).bind fun u1 =>
    if v5 < u1 then
      (R_has v2 v5).bind fun u2 =>
      if u2 = 0 then
        R_prune_33 fu v0 v2 v4 (w32 (v5 + 1)) h
      else
        if v4 = v5 then
          R_prune_33 fu v0 v2 (w32 (v4 + 1)) (w32 (v5 + 1)) h
        else
          (gd (hTy h v0 = 10) 0).bind fun _ =>
          (R_becomes v0 v4 v5 h).bind fun h4 =>
          R_prune_33 fu v0 v2 (w32 (v4 + 1)) (w32 (v5 + 1)) h4
    else
      (gd (hTy h v0 = 10) (hSet h v0 7 v4)).bind fun h5 =>
      (gd (hTy h5 v0 = 10) (hCe h5 v0 7)).bind fun u6 =>
      some (u6, h5)
def R_prune (v0 : Int) (v1 : Int) (h : AH) : Option (Int × AH) :=
  (gd (hTy h v0 = 10) 0).bind fun _ =>
  (R_isLine v0 v1 h).bind fun u1 =>
  if u1 = 0 then
    some ((-1), h)
  else
    (gd (hTy h v0 = 10) 0).bind fun _ =>
    (R_isRightLine v0 v1 h).bind fun u2 =>
    if u2.1 = 0 then
      some ((-2), u2.2)
    else
      (gd (hTy u2.2 v0 = 10) 0).bind fun _ =>
      (R_restsOf v0 v1 u2.2).bind fun u3 =>
      R_prune_33 FU v0 u3 0 0 u2.2
/-- PrimeProofsModel.drop()I -/
def R_drop (v0 : Int) (h : AH) : Option (Int × AH) :=
  (gd (hTy h v0 = 10) (hCe h v0 7)).bind fun u1 =>
  if u1 = 0 then
    some ((-1), h)
  else
    (gd (hTy h v0 = 10) (hCe h v0 7)).bind fun u2 =>
    (gd (hTy h v0 = 10) (hSet h v0 7 (w32 (u2 - 1)))).bind fun h3 =>
    (gd (hTy h3 v0 = 10) (hCe h3 v0 7)).bind fun u4 =>
    some (u4, h3)
/-- PrimeProofsModel.clear()I -/
def R_clear (v0 : Int) (h : AH) : Option (Int × AH) :=
  (gd (hTy h v0 = 10) (hCe h v0 7)).bind fun u1 =>
  (gd (hTy h v0 = 10) (hSet h v0 7 0)).bind fun h2 =>
  some (u1, h2)
/-- PrimeProofsModel.line(II)I -/
def R_line (v0 : Int) (v1 : Int) (v2 : Int) (h : AH) : Option (Int × AH) :=
  (gd (hTy h v0 = 10) 0).bind fun _ =>
  (R_isLine v0 v1 h).bind fun u1 =>
  if u1 = 0 then
    some ((-1), h)
  else
    if v2 = 0 then
      (gd (hTy h v0 = 10) (hCe h v0 8)).bind fun u2 =>
      (gd (hTy h u2 = 21 ∧ 0 ≤ v1 ∧ v1 < hLn h u2) (hCe h u2 v1)).bind fun u3 =>
      some (u3, h)
    else if v2 = 1 then
      (gd (hTy h v0 = 10) (hCe h v0 9)).bind fun u4 =>
      (gd (hTy h u4 = 21 ∧ 0 ≤ v1 ∧ v1 < hLn h u4) (hCe h u4 v1)).bind fun u5 =>
      some (u5, h)
    else if v2 = 2 then
      (gd (hTy h v0 = 10) (hCe h v0 10)).bind fun u6 =>
      (gd (hTy h u6 = 21 ∧ 0 ≤ v1 ∧ v1 < hLn h u6) (hCe h u6 v1)).bind fun u7 =>
      some (u7, h)
    else if v2 = 3 then
      (gd (hTy h v0 = 10) (hCe h v0 11)).bind fun u8 =>
      (gd (hTy h u8 = 21 ∧ 0 ≤ v1 ∧ v1 < hLn h u8) (hCe h u8 v1)).bind fun u9 =>
      some (u9, h)
    else if v2 = 4 then
      (gd (hTy h v0 = 10) (hCe h v0 12)).bind fun u10 =>
      (gd (hTy h u10 = 21 ∧ 0 ≤ v1 ∧ v1 < hLn h u10) (hCe h u10 v1)).bind fun u11 =>
      some (u11, h)
    else if v2 = 5 then
      (gd (hTy h v0 = 10) (hCe h v0 13)).bind fun u12 =>
      (gd (hTy h u12 = 21 ∧ 0 ≤ v1 ∧ v1 < hLn h u12) (hCe h u12 v1)).bind fun u13 =>
      some (u13, h)
    else if v2 = 6 then
      (gd (hTy h v0 = 10) 0).bind fun _ =>
      (R_laysRight v0 h).bind fun h15 =>
      (gd (hTy h15 v0 = 10) (hCe h15 v0 20)).bind fun u16 =>
      (gd (hTy h15 u16 = 21 ∧ 0 ≤ v1 ∧ v1 < hLn h15 u16) (hCe h15 u16 v1)).bind fun u17 =>
      some (u17, h15)
    else 
      some ((-1), h)
/-- PrimeProofsModel.row(IZII)I -/
def R_row_138 (v1 : Int) (s0 : Int) (s1 : Int) (h : AH) : Option (Int × AH) :=
  (gd (hTy h s1 = 10) 0).bind fun _ =>
  (R_lineFor s1 s0 v1 h).bind fun u1 =>
  if u1 = (-1 : Int) then
    some ((-2), h)
  else
    some (u1, h)
def R_row (v0 : Int) (v1 : Int) (v2 : Int) (v3 : Int) (v4 : Int) (h : AH) : Option (Int × AH) :=
  (gd (hTy h v0 = 10) 0).bind fun _ =>
  (R_isRow v0 v1 v2 v3 h).bind fun u1 =>
  if u1 = 0 then
    some ((-1), h)
  else
    if v4 = 0 then
      if v2 = 0 then
        (gd (hTy h v0 = 10) (hCe h v0 14)).bind fun u2 =>
        (gd (hTy h u2 = 21 ∧ 0 ≤ (w32 ((w32 (9 * v1)) + v3)) ∧ (w32 ((w32 (9 * v1)) + v3)) < hLn h u2) (hCe h u2 (w32 ((w32 (9 * v1)) + v3)))).bind fun u3 =>
        some (u3, h)
      else
        (gd (hTy h v0 = 10) (hCe h v0 17)).bind fun u4 =>
        (gd (hTy h u4 = 21 ∧ 0 ≤ (w32 ((w32 (9 * v1)) + v3)) ∧ (w32 ((w32 (9 * v1)) + v3)) < hLn h u4) (hCe h u4 (w32 ((w32 (9 * v1)) + v3)))).bind fun u5 =>
        some (u5, h)
    else if v4 = 1 then
      if v2 = 0 then
        (gd (hTy h v0 = 10) (hCe h v0 15)).bind fun u6 =>
        (gd (hTy h u6 = 21 ∧ 0 ≤ (w32 ((w32 (9 * v1)) + v3)) ∧ (w32 ((w32 (9 * v1)) + v3)) < hLn h u6) (hCe h u6 (w32 ((w32 (9 * v1)) + v3)))).bind fun u7 =>
        some (u7, h)
      else
        (gd (hTy h v0 = 10) (hCe h v0 18)).bind fun u8 =>
        (gd (hTy h u8 = 21 ∧ 0 ≤ (w32 ((w32 (9 * v1)) + v3)) ∧ (w32 ((w32 (9 * v1)) + v3)) < hLn h u8) (hCe h u8 (w32 ((w32 (9 * v1)) + v3)))).bind fun u9 =>
        some (u9, h)
    else if v4 = 2 then
      if v2 = 0 then
        (gd (hTy h v0 = 10) (hCe h v0 16)).bind fun u10 =>
        (gd (hTy h u10 = 21 ∧ 0 ≤ (w32 ((w32 (9 * v1)) + v3)) ∧ (w32 ((w32 (9 * v1)) + v3)) < hLn h u10) (hCe h u10 (w32 ((w32 (9 * v1)) + v3)))).bind fun u11 =>
        some (u11, h)
      else
        some (0, h)
    else if v4 = 3 then
      (gd (hTy h v0 = 10) 0).bind fun _ =>
      (R_laysRight v0 h).bind fun h13 =>
      if v2 = 0 then
        (gd (hTy h13 v0 = 10) (hCe h13 v0 14)).bind fun u14 =>
        (gd (hTy h13 u14 = 21 ∧ 0 ≤ (w32 ((w32 (9 * v1)) + v3)) ∧ (w32 ((w32 (9 * v1)) + v3)) < hLn h13 u14) (hCe h13 u14 (w32 ((w32 (9 * v1)) + v3)))).bind fun u15 =>
        R_row_138 v1 u15 v0 h13
      else
        (gd (hTy h13 v0 = 10) (hCe h13 v0 17)).bind fun u16 =>
        (gd (hTy h13 u16 = 21 ∧ 0 ≤ (w32 ((w32 (9 * v1)) + v3)) ∧ (w32 ((w32 (9 * v1)) + v3)) < hLn h13 u16) (hCe h13 u16 (w32 ((w32 (9 * v1)) + v3)))).bind fun u17 =>
        R_row_138 v1 u17 v0 h13
    else 
      some ((-1), h)
/-- PrimeProofsModel.right()J -/
def R_right_8 : Nat → Int → Int → Int → AH → Option (Int × AH)
  | 0, _, _, _, _ => none
  | fu + 1, v0, v1, v3, h =>
    (gd (hTy h v0 = 10) (hCe h v0 7)).bind fun u1 =>
    if v3 < u1 then
      (gd (hTy h v0 = 10) (hCe h v0 19)).bind fun u2 =>
      (gd ((hTy h u2 = 23 ∨ hTy h u2 = 25) ∧ 0 ≤ v3 ∧ v3 < hLn h u2) (hCe h u2 v3)).bind fun u3 =>
      if u3 = 0 then
        R_right_8 fu v0 v1 (w32 (v3 + 1)) h
      else
        R_right_8 fu v0 (orL v1 (shlL 1 v3)) (w32 (v3 + 1)) h
    else
      some (v1, h)
def R_right (v0 : Int) (h : AH) : Option (Int × AH) :=
  (gd (hTy h v0 = 10) 0).bind fun _ =>
  (R_laysRight v0 h).bind fun h2 =>
  R_right_8 FU v0 0 0 h2
/-- PrimeProofsModel.rests(I)J -/
def R_rests (v0 : Int) (v1 : Int) (h : AH) : Option (Int × AH) :=
  (gd (hTy h v0 = 10) 0).bind fun _ =>
  (R_isLine v0 v1 h).bind fun u1 =>
  if u1 = 0 then
    some ((-1), h)
  else
    (gd (hTy h v0 = 10) 0).bind fun _ =>
    (R_isRightLine v0 v1 h).bind fun u2 =>
    if u2.1 = 0 then
      some ((-2), u2.2)
    else
      (gd (hTy u2.2 v0 = 10) 0).bind fun _ =>
      (R_restsOf v0 v1 u2.2).bind fun u3 =>
      some (u3, u2.2)
/-- PrimeProofsModel.deepOf(I)I -/
def R_deepOf_46 (k9 : Int → Int → Int → Int → AH → Option (Int × AH)) : Nat → Int → Int → Int → Int → Int → Int → AH → Option (Int × AH)
  | 0, _, _, _, _, _, _, _ => none
  | fu + 1, v0, v1, v2, v4, v5, v7, h =>
    if v7 < v4 then
      (R_has v5 v7).bind fun u1 =>
      if u1 = 0 then
        R_deepOf_46 k9 fu v0 v1 v2 v4 v5 (w32 (v7 + 1)) h
      else
        (gd (hTy h v0 = 10) (hCe h v0 34)).bind fun u2 =>
        (gd (hTy h u2 = 21 ∧ 0 ≤ v7 ∧ v7 < hLn h u2) (hCe h u2 v7)).bind fun u3 =>
        (gd (hTy h v0 = 10) (hCe h v0 34)).bind fun u4 =>
        (gd (hTy h u4 = 21 ∧ 0 ≤ v4 ∧ v4 < hLn h u4) (hCe h u4 v4)).bind fun u5 =>
        if u5 < (w32 (u3 + 1)) then
          (gd (hTy h v0 = 10) (hCe h v0 34)).bind fun u6 =>
          (gd (hTy h v0 = 10) (hCe h v0 34)).bind fun u7 =>
          (gd (hTy h u7 = 21 ∧ 0 ≤ v7 ∧ v7 < hLn h u7) (hCe h u7 v7)).bind fun u8 =>
          (gd (hTy h u6 = 21 ∧ 0 ≤ v4 ∧ v4 < hLn h u6) (hSet h u6 v4 (w32 (u8 + 1)))).bind fun h9 =>
          R_deepOf_46 k9 fu v0 v1 v2 v4 v5 (w32 (v7 + 1)) h9
        else
          R_deepOf_46 k9 fu v0 v1 v2 v4 v5 (w32 (v7 + 1)) h
    else
      k9 v0 v1 v2 (w32 (v4 + 1)) h
def R_deepOf_9 : Nat → Int → Int → Int → Int → AH → Option (Int × AH)
  | 0, _, _, _, _, _ => none
  | fu + 1, v0, v1, v2, v4, h =>
    if v1 < v4 then
      (gd (hTy h v0 = 10) (hCe h v0 34)).bind fun u1 =>
      (gd (hTy h u1 = 21 ∧ 0 ≤ v1 ∧ v1 < hLn h u1) (hCe h u1 v1)).bind fun u2 =>
      some (u2, h)
    else
      (R_has v2 v4).bind fun u3 =>
      if u3 = 0 then
        R_deepOf_9 fu v0 v1 v2 (w32 (v4 + 1)) h
      else
        (gd (hTy h v0 = 10) 0).bind fun _ =>
        (R_props v0 v4 h).bind fun u4 =>
        (gd (hTy h v0 = 10) (hCe h v0 34)).bind fun u5 =>
        (gd (hTy h u5 = 21 ∧ 0 ≤ v4 ∧ v4 < hLn h u5) (hSet h u5 v4 (0 : Int))).bind fun h6 =>
        R_deepOf_46 (fun a0 a1 a2 a3 h0 => R_deepOf_9 fu a0 a1 a2 a3 h0) FU v0 v1 v2 v4 u4 0 h6
def R_deepOf (v0 : Int) (v1 : Int) (h : AH) : Option (Int × AH) :=
  (gd (hTy h v0 = 10) 0).bind fun _ =>
  (R_restsOf v0 v1 h).bind fun u1 =>
  R_deepOf_9 FU v0 v1 u1 0 h
/-- PrimeProofsModel.deep(I)I -/
def R_deep (v0 : Int) (v1 : Int) (h : AH) : Option (Int × AH) :=
  (gd (hTy h v0 = 10) 0).bind fun _ =>
  (R_isLine v0 v1 h).bind fun u1 =>
  if u1 = 0 then
    some ((-1), h)
  else
    (gd (hTy h v0 = 10) 0).bind fun _ =>
    (R_isRightLine v0 v1 h).bind fun u2 =>
    if u2.1 = 0 then
      some ((-2), u2.2)
    else
      (gd (hTy u2.2 v0 = 10) 0).bind fun _ =>
      (R_deepOf v0 v1 u2.2).bind fun u3 =>
      some (u3.1, u3.2)
/-- PrimeProofsModel.falls(I)J -/
def R_falls_123 (k40 : Int → Int → Int → AH → Option (Int × AH)) (v0 : Int) (v2 : Int) (v4 : Int) (s0 : Int) (s1 : Int) (s2 : Int) (h : AH) : Option (Int × AH) :=
  (gd ((hTy h s2 = 23 ∧ -128 ≤ s0 ∧ s0 ≤ 127 ∨ hTy h s2 = 25 ∧ 0 ≤ s0 ∧ s0 ≤ 1) ∧ 0 ≤ s1 ∧ s1 < hLn h s2) (hSet h s2 s1 s0)).bind fun h1 =>
  (gd (hTy h1 v0 = 10) (hCe h1 v0 19)).bind fun u2 =>
  (gd ((hTy h1 u2 = 23 ∨ hTy h1 u2 = 25) ∧ 0 ≤ v4 ∧ v4 < hLn h1 u2) (hCe h1 u2 v4)).bind fun u3 =>
  if u3 = 0 then
    k40 v0 (orL v2 (shlL 1 v4)) (w32 (v4 + 1)) h1
  else
    k40 v0 v2 (w32 (v4 + 1)) h1
def R_falls_40 : Nat → Int → Int → Int → AH → Option (Int × AH)
  | 0, _, _, _, _ => none
  | fu + 1, v0, v2, v4, h =>
    (gd (hTy h v0 = 10) (hCe h v0 7)).bind fun u1 =>
    if v4 < u1 then
      (gd (hTy h v0 = 10) (hCe h v0 19)).bind fun u2 =>
      (gd ((hTy h u2 = 23 ∨ hTy h u2 = 25) ∧ 0 ≤ v4 ∧ v4 < hLn h u2) (hCe h u2 v4)).bind fun u3 =>
      if u3 = 0 then
        R_falls_40 fu v0 v2 (w32 (v4 + 1)) h
      else
        (gd (hTy h v0 = 10) (hCe h v0 19)).bind fun u4 =>
        (gd (hTy h v0 = 10) (hCe h v0 14)).bind fun u5 =>
        (gd (hTy h v0 = 10) (hCe h v0 12)).bind fun u6 =>
        (gd (hTy h u6 = 21 ∧ 0 ≤ v4 ∧ v4 < hLn h u6) (hCe h u6 v4)).bind fun u7 =>
        (gd (hTy h v0 = 10) 0).bind fun _ =>
        (R_hasAll v0 u5 (w32 (9 * v4)) u7 v4 h).bind fun u8 =>
        if u8 = 0 then
          R_falls_123 (fun a0 a1 a2 h0 => R_falls_40 fu a0 a1 a2 h0) v0 v2 v4 0 v4 u4 h
        else
          (gd (hTy h v0 = 10) (hCe h v0 17)).bind fun u9 =>
          (gd (hTy h v0 = 10) (hCe h v0 13)).bind fun u10 =>
          (gd (hTy h u10 = 21 ∧ 0 ≤ v4 ∧ v4 < hLn h u10) (hCe h u10 v4)).bind fun u11 =>
          (gd (hTy h v0 = 10) 0).bind fun _ =>
          (R_hasAll v0 u9 (w32 (9 * v4)) u11 v4 h).bind fun u12 =>
          if u12 = 0 then
            R_falls_123 (fun a0 a1 a2 h0 => R_falls_40 fu a0 a1 a2 h0) v0 v2 v4 0 v4 u4 h
          else
            R_falls_123 (fun a0 a1 a2 h0 => R_falls_40 fu a0 a1 a2 h0) v0 v2 v4 1 v4 u4 h
    else
      some (v2, h)
def R_falls (v0 : Int) (v1 : Int) (h : AH) : Option (Int × AH) :=
  (gd (hTy h v0 = 10) 0).bind fun _ =>
  (R_isLine v0 v1 h).bind fun u1 =>
  if u1 = 0 then
    some ((-1), h)
  else
    (gd (hTy h v0 = 10) 0).bind fun _ =>
    (R_isRightLine v0 v1 h).bind fun u2 =>
    if u2.1 = 0 then
      some ((-2), u2.2)
    else
      (gd (hTy u2.2 v0 = 10) (hCe u2.2 v0 19)).bind fun u3 =>
      (gd ((hTy u2.2 u3 = 23 ∧ -128 ≤ (0 : Int) ∧ (0 : Int) ≤ 127 ∨ hTy u2.2 u3 = 25 ∧ 0 ≤ (0 : Int) ∧ (0 : Int) ≤ 1) ∧ 0 ≤ v1 ∧ v1 < hLn u2.2 u3) (hSet u2.2 u3 v1 (0 : Int))).bind fun h4 =>
      R_falls_40 FU v0 (shlL 1 v1) (w32 (v1 + 1)) h4
/-- PrimeProofsModel.costOf(I)I -/
def R_costOf_5 : Nat → Int → Int → Option Int
  | 0, _, _ => none
  | fu + 1, v1, v2 =>
    if 0 < v2 then
      (gd ((2 : Int) ≠ 0) (Int.tmod v2 2)).bind fun u1 =>
      (gd ((2 : Int) ≠ 0) (w32 (Int.tdiv v2 2))).bind fun u2 =>
      R_costOf_5 fu (w32 (v1 + (w32 (1 + u1)))) u2
    else
      some v1
def R_costOf (v0 : Int) : Option Int :=
  R_costOf_5 FU (-2) v0
/-- PrimeProofsModel.costsOf(I)I -/
def R_costsOf_7 : Nat → Int → Int → Int → Int → AH → Option Int
  | 0, _, _, _, _, _ => none
  | fu + 1, v0, v1, v2, v3, h =>
    (gd (hTy h v0 = 10) (hCe h v0 12)).bind fun u1 =>
    (gd (hTy h u1 = 21 ∧ 0 ≤ v1 ∧ v1 < hLn h u1) (hCe h u1 v1)).bind fun u2 =>
    if v3 < (w32 ((w32 (9 * v1)) + u2)) then
      (gd (hTy h v0 = 10) (hCe h v0 8)).bind fun u3 =>
      (gd (hTy h u3 = 21 ∧ 0 ≤ v1 ∧ v1 < hLn h u3) (hCe h u3 v1)).bind fun u4 =>
      (R_costOf (w32 (u4 - 1))).bind fun u5 =>
      (gd (hTy h v0 = 10) (hCe h v0 8)).bind fun u6 =>
      (gd (hTy h u6 = 21 ∧ 0 ≤ v1 ∧ v1 < hLn h u6) (hCe h u6 v1)).bind fun u7 =>
      (gd (hTy h v0 = 10) (hCe h v0 14)).bind fun u8 =>
      (gd (hTy h u8 = 21 ∧ 0 ≤ v3 ∧ v3 < hLn h u8) (hCe h u8 v3)).bind fun u9 =>
      (gd (u9 ≠ 0) (w32 (Int.tdiv (w32 (u7 - 1)) u9))).bind fun u10 =>
      (R_costOf u10).bind fun u11 =>
      R_costsOf_7 fu v0 v1 (w32 (v2 + (w32 (u5 + u11)))) (w32 (v3 + 1)) h
    else
      some v2
def R_costsOf (v0 : Int) (v1 : Int) (h : AH) : Option Int :=
  R_costsOf_7 FU v0 v1 0 (w32 (9 * v1)) h
/-- PrimeProofsModel.cost(I)I -/
def R_cost (v0 : Int) (v1 : Int) (h : AH) : Option (Int × AH) :=
  (gd (hTy h v0 = 10) 0).bind fun _ =>
  (R_isLine v0 v1 h).bind fun u1 =>
  if u1 = 0 then
    some ((-1), h)
  else
    (gd (hTy h v0 = 10) 0).bind fun _ =>
    (R_isRightLine v0 v1 h).bind fun u2 =>
    if u2.1 = 0 then
      some ((-2), u2.2)
    else
      (gd (hTy u2.2 v0 = 10) 0).bind fun _ =>
      (R_costsOf v0 v1 u2.2).bind fun u3 =>
      some (u3, u2.2)
/-- PrimeProofsModel.loose(II)I -/
def R_loose_28 : Nat → Int → Int → Int → Int → Int → AH → Option (Int × AH)
  | 0, _, _, _, _, _, _ => none
  | fu + 1, v0, v1, v2, v3, v4, h =>
    if (999 : Int) < v4 then
      some (v3, h)
    else
      (gd (hTy h v0 = 10) (hCe h v0 8)).bind fun u1 =>
      (gd (hTy h u1 = 21 ∧ 0 ≤ v1 ∧ v1 < hLn h u1) (hCe h u1 v1)).bind fun u2 =>
      (R_isOneBy u2 v4).bind fun u3 =>
      if u3 = 0 then
        R_loose_28 fu v0 v1 v2 v3 (w32 (v4 + 1)) h
      else
        (gd (hTy h v0 = 10) (hCe h v0 8)).bind fun u4 =>
        (gd (hTy h u4 = 21 ∧ 0 ≤ v1 ∧ v1 < hLn h u4) (hCe h u4 v1)).bind fun u5 =>
        (gd (hTy h v0 = 10) (hCe h v0 14)).bind fun u6 =>
        (gd (hTy h u6 = 21 ∧ 0 ≤ (w32 ((w32 (9 * v1)) + v2)) ∧ (w32 ((w32 (9 * v1)) + v2)) < hLn h u6) (hCe h u6 (w32 ((w32 (9 * v1)) + v2)))).bind fun u7 =>
        (R_isApartBy u5 v4 u7).bind fun u8 =>
        if u8 = 0 then
          R_loose_28 fu v0 v1 v2 v3 (w32 (v4 + 1)) h
        else
          R_loose_28 fu v0 v1 v2 (w32 (v3 + 1)) (w32 (v4 + 1)) h
def R_loose (v0 : Int) (v1 : Int) (v2 : Int) (h : AH) : Option (Int × AH) :=
  (gd (hTy h v0 = 10) 0).bind fun _ =>
  (R_isRow v0 v1 0 v2 h).bind fun u1 =>
  if u1 = 0 then
    some ((-1), h)
  else
    (gd (hTy h v0 = 10) 0).bind fun _ =>
    (R_isRightLine v0 v1 h).bind fun u2 =>
    if u2.1 = 0 then
      some ((-2), u2.2)
    else
      R_loose_28 FU v0 v1 v2 0 2 u2.2
/-- PrimeProofsModel.shared(II)J -/
def R_shared (v0 : Int) (v1 : Int) (v2 : Int) (h : AH) : Option (Int × AH) :=
  (gd (hTy h v0 = 10) 0).bind fun _ =>
  (R_isLine v0 v1 h).bind fun u1 =>
  if u1 = 0 then
    some ((-1), h)
  else
    (gd (hTy h v0 = 10) 0).bind fun _ =>
    (R_isLine v0 v2 h).bind fun u2 =>
    if u2 = 0 then
      some ((-1), h)
    else
      (gd (hTy h v0 = 10) 0).bind fun _ =>
      (R_laysRight v0 h).bind fun h4 =>
      (gd (hTy h4 v0 = 10) (hCe h4 v0 19)).bind fun u5 =>
      (gd ((hTy h4 u5 = 23 ∨ hTy h4 u5 = 25) ∧ 0 ≤ v1 ∧ v1 < hLn h4 u5) (hCe h4 u5 v1)).bind fun u6 =>
      if u6 = 0 then
        some ((-2), h4)
      else
        (gd (hTy h4 v0 = 10) (hCe h4 v0 19)).bind fun u7 =>
        (gd ((hTy h4 u7 = 23 ∨ hTy h4 u7 = 25) ∧ 0 ≤ v2 ∧ v2 < hLn h4 u7) (hCe h4 u7 v2)).bind fun u8 =>
        if u8 = 0 then
          some ((-2), h4)
        else
          (gd (hTy h4 v0 = 10) 0).bind fun _ =>
          (R_restsOf v0 v1 h4).bind fun u9 =>
          (gd (hTy h4 v0 = 10) 0).bind fun _ =>
          (R_restsOf v0 v2 h4).bind fun u10 =>
          some (andL u9 u10, h4)
/-- PrimeProofsModel.proof(I)I -/
def R_proof (v0 : Int) (v1 : Int) (h : AH) : Option (Int × AH) :=
  (R_isNumber v1).bind fun u1 =>
  if u1 = 0 then
    some ((-1), h)
  else
    (gd (hTy h v0 = 10) 0).bind fun _ =>
    (R_laysRight v0 h).bind fun h3 =>
    (gd (hTy h3 v0 = 10) (hCe h3 v0 7)).bind fun u4 =>
    (gd (hTy h3 v0 = 10) 0).bind fun _ =>
    (R_lineFor v0 v1 u4 h3).bind fun u5 =>
    if u5 = (-1 : Int) then
      some ((-2), h3)
    else
      some (u5, h3)
/-- PrimeProofsModel.prime(II)I -/
def R_prime (v0 : Int) (v1 : Int) (v2 : Int) (h : AH) : Option (Int × AH) :=
  (R_isNumber v1).bind fun u1 =>
  if u1 = 0 then
    some ((-1), h)
  else
    if v2 < (-1 : Int) then
      some ((-1), h)
    else
      (gd (hTy h v0 = 10) 0).bind fun _ =>
      (R_laysFactors v0 v1 h).bind fun h3 =>
      if v2 = (-1 : Int) then
        (gd (hTy h3 v0 = 10) (hCe h3 v0 6)).bind fun u4 =>
        some (u4, h3)
      else
        (gd (hTy h3 v0 = 10) (hCe h3 v0 6)).bind fun u5 =>
        if v2 < u5 then
          (gd (hTy h3 v0 = 10) (hCe h3 v0 4)).bind fun u6 =>
          (gd (hTy h3 u6 = 21 ∧ 0 ≤ v2 ∧ v2 < hLn h3 u6) (hCe h3 u6 v2)).bind fun u7 =>
          some (u7, h3)
        else
          some ((-1), h3)
/-- PrimeProofsModel.often(II)I -/
def R_often_23 : Nat → Int → Int → Int → Option Int
  | 0, _, _, _ => none
  | fu + 1, v2, v3, v4 =>
    (gd (v2 ≠ 0) (Int.tmod v4 v2)).bind fun u1 =>
    if u1 = 0 then
      (gd (v2 ≠ 0) (w32 (Int.tdiv v4 v2))).bind fun u2 =>
      R_often_23 fu v2 (w32 (v3 + 1)) u2
    else
      some v3
def R_often (v0 : Int) (v1 : Int) (v2 : Int) : Option Int :=
  (R_isNumber v1).bind fun u1 =>
  if u1 = 0 then
    some (-1)
  else
    (R_isNumber v2).bind fun u2 =>
    if u2 = 0 then
      some (-1)
    else
      R_often_23 FU v2 0 v1
/-- PrimeProofsModel.next(I)I -/
def R_next_18 : Nat → Int → Option Int
  | 0, _ => none
  | fu + 1, v2 =>
    (R_isPrime v2).bind fun u1 =>
    if u1 = 0 then
      R_next_18 fu (w32 (v2 + 1))
    else
      some v2
def R_next (v0 : Int) (v1 : Int) : Option Int :=
  (R_in v1 0 999999936).bind fun u1 =>
  if u1 = 0 then
    some (-1)
  else
    R_next_18 FU (w32 (v1 + 1))
/-- PrimeProofsModel.smoothBy(I)J -/
def R_smoothBy_28 (k5 : Int → Int → Int → Int → AH → Option Int) : Nat → Int → Int → Int → Int → Int → AH → Option Int
  | 0, _, _, _, _, _, _ => none
  | fu + 1, v0, v1, v2, v4, v5, h =>
    (gd (hTy h v0 = 10) (hCe h v0 5)).bind fun u1 =>
    (gd (hTy h u1 = 21 ∧ 0 ≤ v4 ∧ v4 < hLn h u1) (hCe h u1 v4)).bind fun u2 =>
    if v5 < u2 then
      (gd (hTy h v0 = 10) (hCe h v0 4)).bind fun u3 =>
      (gd (hTy h u3 = 21 ∧ 0 ≤ v4 ∧ v4 < hLn h u3) (hCe h u3 v4)).bind fun u4 =>
      R_smoothBy_28 k5 fu v0 v1 (w64 (v2 * u4)) v4 (w32 (v5 + 1)) h
    else
      k5 v0 v1 v2 (w32 (v4 + 1)) h
def R_smoothBy_5 : Nat → Int → Int → Int → Int → AH → Option Int
  | 0, _, _, _, _, _ => none
  | fu + 1, v0, v1, v2, v4, h =>
    (gd (hTy h v0 = 10) (hCe h v0 6)).bind fun u1 =>
    if v4 < u1 then
      (gd (hTy h v0 = 10) (hCe h v0 4)).bind fun u2 =>
      (gd (hTy h u2 = 21 ∧ 0 ≤ v4 ∧ v4 < hLn h u2) (hCe h u2 v4)).bind fun u3 =>
      if v1 < u3 then
        R_smoothBy_5 fu v0 v1 v2 (w32 (v4 + 1)) h
      else
        R_smoothBy_28 (fun a0 a1 a2 a3 h0 => R_smoothBy_5 fu a0 a1 a2 a3 h0) FU v0 v1 v2 v4 0 h
    else
      some v2
def R_smoothBy (v0 : Int) (v1 : Int) (h : AH) : Option Int :=
  R_smoothBy_5 FU v0 v1 1 0 h
/-- PrimeProofsModel.smooth(II)I -/
def R_smooth (v0 : Int) (v1 : Int) (v2 : Int) (h : AH) : Option (Int × AH) :=
  (R_isNumber v1).bind fun u1 =>
  if u1 = 0 then
    some ((-1), h)
  else
    if v2 < 0 then
      some ((-1), h)
    else
      (gd (hTy h v0 = 10) 0).bind fun _ =>
      (R_laysFactors v0 v1 h).bind fun h3 =>
      (gd (hTy h3 v0 = 10) 0).bind fun _ =>
      (R_smoothBy v0 v2 h3).bind fun u4 =>
      some (w32 u4, h3)
/-- PrimeProofsModel.bound(I)I -/
def R_bound_26 : Nat → Int → Int → Int → AH → Option (Int × AH)
  | 0, _, _, _, _ => none
  | fu + 1, v0, v1, v2, h =>
    (gd (hTy h v0 = 10) (hCe h v0 4)).bind fun u1 =>
    (gd (hTy h u1 = 21 ∧ 0 ≤ v2 ∧ v2 < hLn h u1) (hCe h u1 v2)).bind fun u2 =>
    (gd (hTy h v0 = 10) 0).bind fun _ =>
    (R_smoothBy v0 u2 h).bind fun u3 =>
    (gd (hTy h v0 = 10) (hCe h v0 4)).bind fun u4 =>
    (gd (hTy h u4 = 21 ∧ 0 ≤ v2 ∧ v2 < hLn h u4) (hCe h u4 v2)).bind fun u5 =>
    (gd (hTy h v0 = 10) 0).bind fun _ =>
    (R_smoothBy v0 u5 h).bind fun u6 =>
    if v1 < (w64 (u3 * u6)) then
      (gd (hTy h v0 = 10) (hCe h v0 4)).bind fun u7 =>
      (gd (hTy h u7 = 21 ∧ 0 ≤ v2 ∧ v2 < hLn h u7) (hCe h u7 v2)).bind fun u8 =>
      some (u8, h)
    else
      R_bound_26 fu v0 v1 (w32 (v2 + 1)) h
def R_bound (v0 : Int) (v1 : Int) (h : AH) : Option (Int × AH) :=
  (R_in v1 3 1000000000).bind fun u1 =>
  if u1 = 0 then
    some ((-1), h)
  else
    (gd (hTy h v0 = 10) 0).bind fun _ =>
    (R_laysFactors v0 (w64 (v1 - 1)) h).bind fun h3 =>
    R_bound_26 FU v0 v1 0 h3
/-- PrimeProofsModel.chase(II)I -/
def R_chase_96 (k34 : Int → Int → Int → Int → Int → Option Int) (v1 : Int) (v2 : Int) (v3 : Int) (v5 : Int) (v7 : Int) (s0 : Int) : Option Int :=
  (R_common s0 v1).bind fun u1 =>
  if u1 = (1 : Int) then
    k34 v1 v2 v3 v5 (w32 (v7 + 1))
  else
    some (w32 u1)
def R_chase_34 : Nat → Int → Int → Int → Int → Int → Option Int
  | 0, _, _, _, _, _ => none
  | fu + 1, v1, v2, v3, v5, v7 =>
    if v7 < (1000 : Int) then
      (gd (v1 ≠ 0) (Int.tmod (w64 ((w64 (v3 * v3)) + v2)) v1)).bind fun u1 =>
      (gd (v1 ≠ 0) (Int.tmod (w64 ((w64 (v5 * v5)) + v2)) v1)).bind fun u2 =>
      (gd (v1 ≠ 0) (Int.tmod (w64 ((w64 (u2 * u2)) + v2)) v1)).bind fun u3 =>
      if u3 < u1 then
        R_chase_96 (fun a0 a1 a2 a3 a4 => R_chase_34 fu a0 a1 a2 a3 a4) v1 v2 u1 u3 v7 (w64 (u1 - u3))
      else
        R_chase_96 (fun a0 a1 a2 a3 a4 => R_chase_34 fu a0 a1 a2 a3 a4) v1 v2 u1 u3 v7 (w64 (u3 - u1))
    else
      some (-2)
def R_chase (v0 : Int) (v1 : Int) (v2 : Int) : Option Int :=
  (R_isNumber v1).bind fun u1 =>
  if u1 = 0 then
    some (-1)
  else
    (R_in v2 1 99).bind fun u2 =>
    if u2 = 0 then
      some (-1)
    else
      R_chase_34 FU v1 v2 2 2 0
/-- PrimeProofsModel.primes(II)I -/
def R_primes_32 : Nat → Int → Int → Int → Option Int
  | 0, _, _, _ => none
  | fu + 1, v2, v3, v4 =>
    if v2 < v4 then
      some v3
    else
      (R_isPrime v4).bind fun u1 =>
      if u1 = 0 then
        R_primes_32 fu v2 v3 (w32 (v4 + 1))
      else
        R_primes_32 fu v2 (w32 (v3 + 1)) (w32 (v4 + 1))
def R_primes (v0 : Int) (v1 : Int) (v2 : Int) : Option Int :=
  if v1 < 0 then
    some (-1)
  else
    if v2 < v1 then
      some (-1)
    else
      if (1000000000 : Int) < v2 then
        some (-1)
      else
        if (w32 (v2 - v1)) < (1000 : Int) then
          R_primes_32 FU v2 0 v1
        else
          some (-1)
/-- PrimeProofsModel.isOdd(I)Z -/
def R_isOdd (v0 : Int) : Option Int :=
  (R_in v0 3 1000000000).bind fun u1 =>
  if u1 = 0 then
    some 0
  else
    (gd ((2 : Int) ≠ 0) (Int.tmod v0 2)).bind fun u2 =>
    if u2 = (1 : Int) then
      some 1
    else
      some 0
/-- PrimeProofsModel.doesPass(JJ)Z -/
def R_doesPass_45 : Nat → Int → Int → Int → Option Int
  | 0, _, _, _ => none
  | fu + 1, v0, v4, v6 =>
    if v4 < (w64 (v0 - 1)) then
      if v6 = (w64 (v0 - 1)) then
        some 1
      else
        (gd (v0 ≠ 0) (Int.tmod (w64 (v6 * v6)) v0)).bind fun u1 =>
        R_doesPass_45 fu v0 (w64 (v4 * 2)) u1
    else
      some 0
def R_doesPass_5 : Nat → Int → Int → Int → Option Int
  | 0, _, _, _ => none
  | fu + 1, v0, v2, v4 =>
    (gd ((2 : Int) ≠ 0) (Int.tmod v4 2)).bind fun u1 =>
    if u1 = (0 : Int) then
      (gd ((2 : Int) ≠ 0) (w64 (Int.tdiv v4 2))).bind fun u2 =>
      R_doesPass_5 fu v0 v2 u2
    else
      (R_powerOf v2 v4 v0).bind fun u3 =>
      if u3 = (1 : Int) then
        some 1
      else
        R_doesPass_45 FU v0 v4 u3
def R_doesPass (v0 : Int) (v2 : Int) : Option Int :=
  R_doesPass_5 FU v0 v2 (w64 (v0 - 1))
/-- PrimeProofsModel.passes(II)I -/
def R_passes (v0 : Int) (v1 : Int) (v2 : Int) : Option Int :=
  (R_isOdd v1).bind fun u1 =>
  if u1 = 0 then
    some (-1)
  else
    (R_in v2 2 999).bind fun u2 =>
    if u2 = 0 then
      some (-1)
    else
      if v2 < v1 then
        (R_doesPass v1 v2).bind fun u3 =>
        if u3 = 0 then
          some 0
        else
          some 1
      else
        some (-1)
/-- PrimeProofsModel.fools(II)I -/
def R_fools_27 : Nat → Int → Int → Int → Int → Int → Option Int
  | 0, _, _, _, _, _ => none
  | fu + 1, v1, v2, v3, v4, v5 =>
    if (999 : Int) < v5 then
      if v2 = 0 then
        some v3
      else
        some v4
    else
      if v5 < v1 then
        (R_doesPass v1 v5).bind fun u1 =>
        if u1 = 0 then
          if v4 = 0 then
            R_fools_27 fu v1 v2 v3 v5 (w32 (v5 + 1))
          else
            R_fools_27 fu v1 v2 v3 v4 (w32 (v5 + 1))
        else
          R_fools_27 fu v1 v2 (w32 (v3 + 1)) v4 (w32 (v5 + 1))
      else
        if v2 = 0 then
          some v3
        else
          some v4
def R_fools (v0 : Int) (v1 : Int) (v2 : Int) : Option Int :=
  (R_isOdd v1).bind fun u1 =>
  if u1 = 0 then
    some (-1)
  else
    (R_in v2 0 1).bind fun u2 =>
    if u2 = 0 then
      some (-1)
    else
      R_fools_27 FU v1 v2 0 0 2
/-- PrimeProofsModel.power(III)I -/
def R_power (v0 : Int) (v1 : Int) (v2 : Int) (v3 : Int) : Option Int :=
  if v1 < 0 then
    some (-1)
  else
    if v2 < 0 then
      some (-1)
    else
      if v3 < (1 : Int) then
        some (-1)
      else
        (R_powerOf v1 v2 v3).bind fun u1 =>
        some (w32 u1)
/-- PrimeProofsModel.order(II)I -/
def R_order_43 : Nat → Int → Int → Int → Int → Option Int
  | 0, _, _, _, _ => none
  | fu + 1, v1, v2, v3, v4 =>
    if v4 = (1 : Int) then
      some v3
    else
      (gd (v2 ≠ 0) (Int.tmod (w64 (v4 * v1)) v2)).bind fun u1 =>
      R_order_43 fu v1 v2 (w32 (v3 + 1)) u1
def R_order (v0 : Int) (v1 : Int) (v2 : Int) : Option Int :=
  if v1 < 0 then
    some (-1)
  else
    (R_in v2 2 1000000).bind fun u1 =>
    if u1 = 0 then
      some (-1)
    else
      (R_common v1 v2).bind fun u2 =>
      if u2 = (1 : Int) then
        (gd (v2 ≠ 0) (Int.tmod v1 v2)).bind fun u3 =>
        R_order_43 FU v1 v2 1 u3
      else
        some (-2)
/-- PrimeProofsModel.jacobi(II)I -/
def R_jacobi (v0 : Int) (v1 : Int) (v2 : Int) : Option Int :=
  if v2 < (1 : Int) then
    some (-2)
  else
    (gd ((2 : Int) ≠ 0) (Int.tmod v2 2)).bind fun u1 =>
    if u1 = 0 then
      some (-2)
    else
      (R_signOf v1 v2).bind fun u2 =>
      some u2
/-- PrimeProofsModel.u(IIII)I -/
def R_u (v0 : Int) (v1 : Int) (v2 : Int) (v3 : Int) (v4 : Int) (h : AH) : Option (Int × AH) :=
  (R_in v1 1 99).bind fun u1 =>
  if u1 = 0 then
    some ((-1), h)
  else
    (R_in v2 1 99).bind fun u2 =>
    if u2 = 0 then
      some ((-1), h)
    else
      if v3 < 0 then
        some ((-1), h)
      else
        (R_in v4 1 1000000000).bind fun u3 =>
        if u3 = 0 then
          some ((-1), h)
        else
          (gd (hTy h v0 = 10) 0).bind fun _ =>
          (R_sequence v0 v1 v2 v3 v4 h).bind fun u4 =>
          some (w32 u4.1, u4.2)
/-- PrimeProofsModel.units(I)I -/
def R_units_26 : Nat → Int → Int → Int → AH → Option (Int × AH)
  | 0, _, _, _, _ => none
  | fu + 1, v0, v2, v4, h =>
    (gd (hTy h v0 = 10) (hCe h v0 6)).bind fun u1 =>
    if v4 < u1 then
      (gd (hTy h v0 = 10) (hCe h v0 4)).bind fun u2 =>
      (gd (hTy h u2 = 21 ∧ 0 ≤ v4 ∧ v4 < hLn h u2) (hCe h u2 v4)).bind fun u3 =>
      (gd (u3 ≠ 0) (w64 (Int.tdiv v2 u3))).bind fun u4 =>
      (gd (hTy h v0 = 10) (hCe h v0 4)).bind fun u5 =>
      (gd (hTy h u5 = 21 ∧ 0 ≤ v4 ∧ v4 < hLn h u5) (hCe h u5 v4)).bind fun u6 =>
      R_units_26 fu v0 (w64 (u4 * (w32 (u6 - 1)))) (w32 (v4 + 1)) h
    else
      some (w32 v2, h)
def R_units (v0 : Int) (v1 : Int) (h : AH) : Option (Int × AH) :=
  (R_in v1 1 1000000000).bind fun u1 =>
  if u1 = 0 then
    some ((-1), h)
  else
    (gd (hTy h v0 = 10) 0).bind fun _ =>
    (R_laysFactors v0 v1 h).bind fun h3 =>
    R_units_26 FU v0 v1 0 h3
/-- PrimeProofsModel.count(I)I -/
def R_count_210 : Nat → Int → Int → Int → AH → Option (Int × AH)
  | 0, _, _, _, _ => none
  | fu + 1, v0, v2, v3, h =>
    (gd (hTy h v0 = 10) (hCe h v0 7)).bind fun u1 =>
    if v3 < u1 then
      (gd (hTy h v0 = 10) (hCe h v0 19)).bind fun u2 =>
      (gd ((hTy h u2 = 23 ∨ hTy h u2 = 25) ∧ 0 ≤ v3 ∧ v3 < hLn h u2) (hCe h u2 v3)).bind fun u3 =>
      if u3 = 0 then
        R_count_210 fu v0 v2 (w32 (v3 + 1)) h
      else
        (gd (hTy h v0 = 10) 0).bind fun _ =>
        (R_costsOf v0 v3 h).bind fun u4 =>
        R_count_210 fu v0 (w32 (v2 + u4)) (w32 (v3 + 1)) h
    else
      some (v2, h)
def R_count_168 : Nat → Int → Int → Int → AH → Option (Int × AH)
  | 0, _, _, _, _ => none
  | fu + 1, v0, v2, v3, h =>
    (gd (hTy h v0 = 10) (hCe h v0 7)).bind fun u1 =>
    if v3 < u1 then
      (gd (hTy h v0 = 10) (hCe h v0 19)).bind fun u2 =>
      (gd ((hTy h u2 = 23 ∨ hTy h u2 = 25) ∧ 0 ≤ v3 ∧ v3 < hLn h u2) (hCe h u2 v3)).bind fun u3 =>
      if u3 = 0 then
        R_count_168 fu v0 v2 (w32 (v3 + 1)) h
      else
        (gd (hTy h v0 = 10) 0).bind fun _ =>
        (R_deepOf v0 v3 h).bind fun u4 =>
        if v2 < u4.1 then
          (gd (hTy u4.2 v0 = 10) 0).bind fun _ =>
          (R_deepOf v0 v3 u4.2).bind fun u5 =>
          R_count_168 fu v0 u5.1 (w32 (v3 + 1)) u5.2
        else
          R_count_168 fu v0 v2 (w32 (v3 + 1)) u4.2
    else
      some (v2, h)
def R_count_124 : Nat → Int → Int → Int → AH → Option (Int × AH)
  | 0, _, _, _, _ => none
  | fu + 1, v0, v2, v3, h =>
    (gd (hTy h v0 = 10) (hCe h v0 7)).bind fun u1 =>
    if v3 < u1 then
      (gd (hTy h v0 = 10) (hCe h v0 19)).bind fun u2 =>
      (gd ((hTy h u2 = 23 ∨ hTy h u2 = 25) ∧ 0 ≤ v3 ∧ v3 < hLn h u2) (hCe h u2 v3)).bind fun u3 =>
      if u3 = 0 then
        R_count_124 fu v0 v2 (w32 (v3 + 1)) h
      else
        (gd (hTy h v0 = 10) (hCe h v0 8)).bind fun u4 =>
        (gd (hTy h u4 = 21 ∧ 0 ≤ v3 ∧ v3 < hLn h u4) (hCe h u4 v3)).bind fun u5 =>
        if v2 < u5 then
          (gd (hTy h v0 = 10) (hCe h v0 8)).bind fun u6 =>
          (gd (hTy h u6 = 21 ∧ 0 ≤ v3 ∧ v3 < hLn h u6) (hCe h u6 v3)).bind fun u7 =>
          R_count_124 fu v0 u7 (w32 (v3 + 1)) h
        else
          R_count_124 fu v0 v2 (w32 (v3 + 1)) h
    else
      some (v2, h)
def R_count_85 : Nat → Int → Int → Int → AH → Option (Int × AH)
  | 0, _, _, _, _ => none
  | fu + 1, v0, v2, v3, h =>
    (gd (hTy h v0 = 10) (hCe h v0 7)).bind fun u1 =>
    if v3 < u1 then
      (gd (hTy h v0 = 10) (hCe h v0 12)).bind fun u2 =>
      (gd (hTy h u2 = 21 ∧ 0 ≤ v3 ∧ v3 < hLn h u2) (hCe h u2 v3)).bind fun u3 =>
      (gd (hTy h v0 = 10) (hCe h v0 13)).bind fun u4 =>
      (gd (hTy h u4 = 21 ∧ 0 ≤ v3 ∧ v3 < hLn h u4) (hCe h u4 v3)).bind fun u5 =>
      R_count_85 fu v0 (w32 (v2 + (w32 (u3 + u5)))) (w32 (v3 + 1)) h
    else
      some (v2, h)
def R_count_55 : Nat → Int → Int → Int → AH → Option (Int × AH)
  | 0, _, _, _, _ => none
  | fu + 1, v0, v2, v3, h =>
    (gd (hTy h v0 = 10) (hCe h v0 7)).bind fun u1 =>
    if v3 < u1 then
      (gd (hTy h v0 = 10) (hCe h v0 19)).bind fun u2 =>
      (gd ((hTy h u2 = 23 ∨ hTy h u2 = 25) ∧ 0 ≤ v3 ∧ v3 < hLn h u2) (hCe h u2 v3)).bind fun u3 =>
      if u3 = 0 then
        R_count_55 fu v0 v2 (w32 (v3 + 1)) h
      else
        R_count_55 fu v0 (w32 (v2 + 1)) (w32 (v3 + 1)) h
    else
      some (v2, h)
def R_count (v0 : Int) (v1 : Int) (h : AH) : Option (Int × AH) :=
  (gd (hTy h v0 = 10) 0).bind fun _ =>
  (R_laysRight v0 h).bind fun h2 =>
  if v1 = 0 then
    (gd (hTy h2 v0 = 10) (hCe h2 v0 7)).bind fun u3 =>
    some (u3, h2)
  else if v1 = 1 then
    R_count_55 FU v0 0 0 h2
  else if v1 = 2 then
    R_count_85 FU v0 0 0 h2
  else if v1 = 3 then
    (gd (hTy h2 v0 = 10) (hCe h2 v0 24)).bind fun u4 =>
    some (u4, h2)
  else if v1 = 4 then
    R_count_124 FU v0 0 0 h2
  else if v1 = 5 then
    R_count_168 FU v0 0 0 h2
  else if v1 = 6 then
    R_count_210 FU v0 0 0 h2
  else 
    some ((-1), h2)
