/-! a line of a tape; the class reads it -/
section PURE
variable (tp : List Int)
def stP (T : T3) : Int := if T.1 = 1 ∧ wx (sl tp T.2.1 T.2.2) < 5 then ((wx (sl tp T.2.1 T.2.2) : Nat) : Int) else -1
def mBW {α : Type} (p : Bool × T3) (f : T3 → Option α × T3) : Option α × T3 := if p.1 = true then f p.2 else (none, p.2)
def mBI {α β : Type} (p : Option β × T3) (f : β → T3 → Option α × T3) : Option α × T3 := match p.1 with
  | none => (none, p.2)
  | some v => f v p.2
def p165 (l : LN) (T : T3) : Option LN × T3 := mBW (teP tp T) fun T' => (some l, T')
def p153 (l : LN) (T : T3) : Option LN × T3 := if l.1.2.1 = 3 ∨ l.1.2.1 = 4 then mBI (rwP tp 0 9 [] T) fun rs T' => p165 tp (l.1, l.2.1, rs) T' else p165 tp l T
def p142 (l : LN) (T : T3) : Option LN × T3 := if l.1.2.1 = 4 then mBW (twP tp 9 T) fun T' => p153 tp l T' else p153 tp l T
def p128 (b : Int) (l : LN) (T : T3) : Option LN × T3 := if l.1.2.1 = 1 ∨ l.1.2.1 = 2 ∨ l.1.2.1 = 4 then mBI (rwP tp (if 0 < b then b else -1) 9 [] T) fun rs T' => p142 tp (l.1, rs, l.2.2) T' else p142 tp l T
def p125 (k : Nat) (b : Int) (l : LN) (T : T3) : Option LN × T3 := mBW (twP tp k T) fun T' => p128 tp b l T'
def pGo (b : Int) (l : LN) (T : T3) : Option LN × T3 := if l.1.2.1 = 0 then p128 tp b l T else if l.1.2.1 = 4 then p125 tp 8 b l T else p125 tp 6 b l T
def p69 (b : Int) (l : LN) (T : T3) : Option LN × T3 := if l.1.2.1 = 3 ∨ l.1.2.1 = 4 then mBW (twP tp 7 T) fun T1 => mBI (tiP tp 1 99 T1) fun p T2 => mBI (tiP tp 1 99 T2) fun q T3 => pGo tp b ((l.1.1, l.1.2.1, p, q), l.2) T3 else pGo tp b l T
def pLn (T : T3) : Option LN × T3 := if stP tp T = -1 then (none, T) else mBI (tiP tp 2 1000000000 (nxT tp T)) fun n T1 => if stP tp T = 1 then mBW (twP tp 5 T1) fun T2 => mBI (tiP tp 2 999 T2) fun b T3 => p69 tp b ((n, stP tp T, 0, 0), [], []) T3 else p69 tp 0 ((n, stP tp T, 0, 0), [], []) T1
def pAll : Nat → T3 → List LN → Option (List LN) × T3
  | 0, T, acc => (some acc, T)
  | f + 1, T, acc => if T.1 = 0 then (some acc, T) else mBI (pLn tp T) fun l T' => pAll f T' (acc ++ [l])
end PURE
/-! the draft -/
def RKd (b j : Int) : Prop := AKr b j ∨ LK 17 b j
theorem RKd.mut {b j : Int} (z : RKd b j) : Mut b j := mutB (by unfold RKd AKr LK SK at z; unfold MutB; omega)
def DD (h : AH) (tp : List Int) (l : LN) (T : T3) : Prop := RD h tp T ∧ LD h 17 l ∧ hCe h 17 6 = -1
def CO (tp : List Int) (o : Option (Int × AH)) (h : AH) (r : Option LN × T3) : Prop := ∃ h', o = some (b2i r.1.isSome, h') ∧ RD h' tp r.2 ∧ Fr RKd h h' ∧ ∀ l, r.1 = some l → LD h' 17 l ∧ hCe h' 17 6 = -1
theorem CO.tr {tp : List Int} {o : Option (Int × AH)} {h h1 : AH} {r : Option LN × T3} (F : Fr RKd h h1) (c : CO tp o h1 r) : CO tp o h r := by
  obtain ⟨h', e, R, F', L⟩ := c
  exact ⟨h', e, R, F.tr F', L⟩
theorem CO.no {tp : List Int} {h : AH} {T : T3} (R : RD h tp T) : CO tp (some (0, h)) h (none, T) := ⟨h, rfl, R, Fr.rf, fun l z => by cases z⟩
theorem DD.ak {h h' : AH} {tp : List Int} {l : LN} {T T' : T3} (D : DD h tp l T) (F : Fr AKr h h') (R : RD h' tp T') : DD h' tp l T' := ⟨R, D.2.1.fr F fun b j x y _ z => by unfold AKr at z; omega, (F.2 _ _ fun z => by unfold AKr at z; omega).trans D.2.2⟩
section CPS
variable {tp : List Int} {h : AH} {l : LN} {T : T3} {F : Int × AH → Option (Int × AH)}
theorem tl_word (D : DD h tp l T) (k : Nat) (hk : k < 10) {k' : Int} (ek : k' = ((nmR k : Nat) : Int)) (F0 : ∀ h1, F (0, h1) = some (0, h1)) {f : T3 → Option LN × T3} (F1 : ∀ h1, DD h1 tp l (twP tp k T).2 → CO tp (F (1, h1)) h1 (f (twP tp k T).2)) : CO tp ((Reader_tellWord 16 k' h).bind F) h (mBW (twP tp k T) f) := by
  subst ek
  obtain ⟨h1, e1, R1, A1⟩ := s_tellWord D.1 hk
  rw [e1, Option.bind_some]
  refine CO.tr (A1.mo fun b j z => Or.inl z) ?_
  have D1 := D.ak A1 R1
  unfold mBW
  cases c : (twP tp k T).1 with
  | true => rw [if_pos rfl]; exact F1 h1 D1
  | false => rw [if_neg (by decide), show b2i false = 0 from rfl, F0]; exact CO.no R1
theorem tl_int (D : DD h tp l T) {lo hi : Int} (hlo : 1 ≤ lo) (hhi : hi ≤ 1000000000) (F0 : ∀ h1, F (-1, h1) = some (0, h1)) {f : Int → T3 → Option LN × T3} (F1 : ∀ v h1, lo ≤ v → v ≤ hi → DD h1 tp l (tiP tp lo hi T).2 → CO tp (F (v, h1)) h1 (f v (tiP tp lo hi T).2)) : CO tp ((Reader_tellInt 16 lo hi h).bind F) h (mBI (tiP tp lo hi T) f) := by
  obtain ⟨h1, e1, R1, A1⟩ := s_tellInt D.1 (lo := lo) (hi := hi) (by omega) hhi
  rw [e1, Option.bind_some]
  refine CO.tr (A1.mo fun b j z => Or.inl z) ?_
  have D1 := D.ak A1 R1
  unfold mBI
  cases c : (tiP tp lo hi T).1 with
  | none => rw [show (none : Option Int).getD (-1) = -1 from rfl, F0]; exact CO.no R1
  | some v =>
    have := tiP_v (tp := tp) (T := T) (lo := lo) (hi := hi) (v := v) (T' := (tiP tp lo hi T).2) (Prod.ext c rfl)
    exact F1 v h1 this.1 this.2.1 D1
theorem LD.dn {h h' : AH} {hd : Int × Int × Int × Int} {d rs u : List RW} (L : LD h 17 (hd, d, u)) (F : Fr (RSd 18) h h') (S : SD h' 18 rs) : LD h' 17 (hd, rs, u) := by
  obtain ⟨B, H, D, U⟩ := L
  refine ⟨B.fr F (fun z => by unfold RSd AKr SK at z; omega) (fun z => by unfold RSd AKr SK at z; omega) (fun z => by unfold RSd AKr SK at z; omega) (fun z => by unfold RSd AKr SK at z; omega), ?_, S, U.fr F (fun z => by unfold RSd AKr SK at z; omega) (fun z => by unfold RSd AKr SK at z; omega) fun j z => by unfold RSd AKr SK at z; omega⟩
  unfold hdAt at *
  rw [F.2 _ _ (fun z => by unfold RSd AKr SK at z; omega), F.2 _ _ (fun z => by unfold RSd AKr SK at z; omega), F.2 _ _ (fun z => by unfold RSd AKr SK at z; omega), F.2 _ _ (fun z => by unfold RSd AKr SK at z; omega)]
  exact H
theorem LD.up {h h' : AH} {hd : Int × Int × Int × Int} {d rs u : List RW} (L : LD h 17 (hd, d, u)) (F : Fr (RSd 20) h h') (S : SD h' 20 rs) : LD h' 17 (hd, d, rs) := by
  obtain ⟨B, H, D, U⟩ := L
  refine ⟨B.fr F (fun z => by unfold RSd AKr SK at z; omega) (fun z => by unfold RSd AKr SK at z; omega) (fun z => by unfold RSd AKr SK at z; omega) (fun z => by unfold RSd AKr SK at z; omega), ?_, D.fr F (fun z => by unfold RSd AKr SK at z; omega) (fun z => by unfold RSd AKr SK at z; omega) fun j z => by unfold RSd AKr SK at z; omega, S⟩
  unfold hdAt at *
  rw [F.2 _ _ (fun z => by unfold RSd AKr SK at z; omega), F.2 _ _ (fun z => by unfold RSd AKr SK at z; omega), F.2 _ _ (fun z => by unfold RSd AKr SK at z; omega), F.2 _ _ (fun z => by unfold RSd AKr SK at z; omega)]
  exact H
theorem RSd.rk {s b j : Int} (hs : s = 18 ∨ s = 20) (z : RSd s b j) : RKd b j := by unfold RSd at z; unfold RKd LK; rcases hs with rfl | rfl <;> rcases z with z | z <;> first | exact Or.inl z | exact Or.inr (Or.inr (Or.inl z)) | exact Or.inr (Or.inr (Or.inr z))
theorem tl_down {hd : Int × Int × Int × Int} {u : List RW} (D : DD h tp (hd, [], u) T) {m : Int} (F0 : ∀ h1, F (0, h1) = some (0, h1)) {f : List RW → T3 → Option LN × T3} (F1 : ∀ rs h1, DD h1 tp (hd, rs, u) (rwP tp m 9 [] T).2 → CO tp (F (1, h1)) h1 (f rs (rwP tp m 9 [] T).2)) : CO tp ((gd (hTy h 16 = 5) (hCe h 16 2)).bind fun u4 => (gd (hTy h u4 = 4) (hCe h u4 0)).bind fun u5 => (gd (hTy h 16 = 5) 0).bind fun _ => (Reader_tellRows 16 u5 m h).bind F) h (mBI (rwP tp m 9 [] T) f) := by
  have H := D.1.1
  obtain ⟨h1, e1, R1, A1, S1⟩ := s_tellRows (s := 18) (Or.inl rfl) (m := m) D.1 D.2.1.2.2.1
  refine CO.tr (A1.mo fun b j z => z.rk (Or.inl rfl)) ?_
  have pre : ∀ {r}, F (b2i (rwP tp m 9 [] T).1.isSome, h1) = r → ((gd (hTy h 16 = 5) (hCe h 16 2)).bind fun u4 => (gd (hTy h u4 = 4) (hCe h u4 0)).bind fun u5 => (gd (hTy h 16 = 5) 0).bind fun _ => (Reader_tellRows 16 u5 m h).bind F) = r := by
    rintro r rfl
    refine gB H.t16 ?_
    rw [H.p16_2]
    refine gB H.t17 ?_
    rw [H.p17_0]
    refine gB H.t16 ?_
    exact cB e1 rfl
  rw [pre rfl]
  unfold mBI
  cases c : (rwP tp m 9 [] T).1 with
  | none => rw [show b2i (none : Option (List RW)).isSome = 0 from rfl, F0]; exact CO.no R1
  | some rs => exact F1 rs h1 ⟨R1, D.2.1.dn A1 (S1 rs c), (A1.2 _ _ fun z => by unfold RSd AKr SK at z; omega).trans D.2.2⟩
theorem tl_up {hd : Int × Int × Int × Int} {d : List RW} (D : DD h tp (hd, d, []) T) {m : Int} (F0 : ∀ h1, F (0, h1) = some (0, h1)) {f : List RW → T3 → Option LN × T3} (F1 : ∀ rs h1, DD h1 tp (hd, d, rs) (rwP tp m 9 [] T).2 → CO tp (F (1, h1)) h1 (f rs (rwP tp m 9 [] T).2)) : CO tp ((gd (hTy h 16 = 5) (hCe h 16 2)).bind fun u4 => (gd (hTy h u4 = 4) (hCe h u4 1)).bind fun u5 => (gd (hTy h 16 = 5) 0).bind fun _ => (Reader_tellRows 16 u5 m h).bind F) h (mBI (rwP tp m 9 [] T) f) := by
  have H := D.1.1
  obtain ⟨h1, e1, R1, A1, S1⟩ := s_tellRows (s := 20) (Or.inr rfl) (m := m) D.1 D.2.1.2.2.2
  refine CO.tr (A1.mo fun b j z => z.rk (Or.inr rfl)) ?_
  have pre : ∀ {r}, F (b2i (rwP tp m 9 [] T).1.isSome, h1) = r → ((gd (hTy h 16 = 5) (hCe h 16 2)).bind fun u4 => (gd (hTy h u4 = 4) (hCe h u4 1)).bind fun u5 => (gd (hTy h 16 = 5) 0).bind fun _ => (Reader_tellRows 16 u5 m h).bind F) = r := by
    rintro r rfl
    refine gB H.t16 ?_
    rw [H.p16_2]
    refine gB H.t17 ?_
    rw [H.p17_1]
    refine gB H.t16 ?_
    exact cB e1 rfl
  rw [pre rfl]
  unfold mBI
  cases c : (rwP tp m 9 [] T).1 with
  | none => rw [show b2i (none : Option (List RW)).isSome = 0 from rfl, F0]; exact CO.no R1
  | some rs => exact F1 rs h1 ⟨R1, D.2.1.up A1 (S1 rs c), (A1.2 _ _ fun z => by unfold RSd AKr SK at z; omega).trans D.2.2⟩
theorem tl_end (D : DD h tp l T) (F0 : ∀ h1, F (0, h1) = some (0, h1)) (F1 : ∀ h1, F (1, h1) = some (1, h1)) : CO tp ((Reader_tellEnd 16 h).bind F) h (p165 tp l T) := by
  obtain ⟨h1, e1, R1, A1⟩ := s_tellEnd D.1
  rw [e1, Option.bind_some]
  refine CO.tr (A1.mo fun b j z => Or.inl z) ?_
  have D1 := D.ak A1 R1
  unfold p165 mBW
  cases c : (teP tp T).1 with
  | true => rw [if_pos rfl, show b2i true = 1 from rfl, F1]; exact ⟨h1, rfl, R1, Fr.rf, fun l z => by injection z with z; rw [← z]; exact D1.2⟩
  | false => rw [if_neg (by decide), show b2i false = 0 from rfl, F0]; exact CO.no R1
theorem DD.put {v : Int} {j : Int} (hj : j = 4 ∨ j = 5) (D : DD h tp l T) : DD (hSet h 17 j v) tp ((l.1.1, l.1.2.1, if j = 4 then v else l.1.2.2.1, if j = 4 then l.1.2.2.2 else v), l.2) T ∧ Fr RKd h (hSet h 17 j v) := by
  have F : Fr (fun b i => b = 17 ∧ i = j) h (hSet h 17 j v) := Fr.set ⟨rfl, rfl⟩
  obtain ⟨R, ⟨B, H, Dd, U⟩, c6⟩ := D
  refine ⟨⟨R.fr F fun b i z => ⟨mutB (by unfold MutB; omega), by omega⟩, ⟨B.fr F (by omega) (by omega) (by omega) (by omega), ?_, Dd.fr F (by omega) (by omega) (fun _ => by omega), U.fr F (by omega) (by omega) fun _ => by omega⟩, (cN (by omega)).trans c6⟩, F.mo fun b i z => Or.inr (Or.inl ⟨z.1, by omega⟩)⟩
  unfold hdAt at *
  rcases hj with rfl | rfl
  · exact ⟨(cN (by omega)).trans H.1, (cN (by omega)).trans H.2.1, cS _ _ _ _, (cN (by omega)).trans H.2.2.2⟩
  · exact ⟨(cN (by omega)).trans H.1, (cN (by omega)).trans H.2.1, (cN (by omega)).trans H.2.2.1, cS _ _ _ _⟩
end CPS
theorem sto_loop {tp : List Int} {h : AH} {T : T3} (R : RD h tp T) : ∀ (n f i : Nat), i + n = 5 → n < f → (∀ j, j < i → ¬ (T.1 = 1 ∧ sl tp T.2.1 T.2.2 = wdR j)) → Reader_sortTold_2 f 16 i h = some (stP tp T) := by
  have H := R.1
  intro n
  induction n with
  | zero =>
    intro f i hi hf c
    obtain ⟨f, rfl, -⟩ := fu_pos hf
    unfold Reader_sortTold_2 stP
    refine ifT (by omega) ?_
    rw [if_neg]
    rintro ⟨z1, z2⟩
    exact c (wx (sl tp T.2.1 T.2.2)) (by omega) ⟨z1, (wx_iff (by omega)).mpr rfl⟩
  | succ n ih =>
    intro f i hi hf c
    obtain ⟨f, rfl, hf⟩ := fu_pos hf
    have nr : nmR i = nmS i := by unfold nmR; rw [if_pos (by omega)]
    unfold Reader_sortTold_2
    refine ifF (by omega) ?_
    refine cB nm_of ?_
    refine gB H.t16 ?_
    rw [← nr]
    refine cB (s_isWord R (k := i) (by omega)) ?_
    by_cases q : T.1 = 1 ∧ sl tp T.2.1 T.2.2 = wdR i
    · rw [decide_eq_true q]
      refine ifF one_ne ?_
      have w := (wx_iff (show i < 10 by omega)).mp q.2
      unfold stP
      rw [if_pos ⟨q.1, by omega⟩, w]
    · rw [decide_eq_false q]
      refine ifT rfl ?_
      rw [w32_e (z := (i : Int) + 1) (by omega)]
      exact ih f (i + 1) (by omega) (by omega) fun j hj => by
        by_cases z : j = i
        · subst z; exact q
        · exact c j (by omega)
theorem stP_c {tp : List Int} {T : T3} : stP tp T = -1 ∨ stP tp T = 0 ∨ stP tp T = 1 ∨ stP tp T = 2 ∨ stP tp T = 3 ∨ stP tp T = 4 := by
  unfold stP
  split <;> omega
theorem gd_y {α : Type} {g : Prop} [Decidable g] {x : α} (h : g) : gd g x = some x := if_pos h
/-- P and Q -/
theorem tl_pq {tp : List Int} {h : AH} {T : T3} {n s : Int} {F : Int × AH → Option (Int × AH)} (D : DD h tp ((n, s, 0, 0), [], []) T) (F0 : ∀ h1, F (0, h1) = some (0, h1)) {f : Int → Int → T3 → Option LN × T3} (F1 : ∀ p q h1 T1, DD h1 tp ((n, s, p, q), [], []) T1 → CO tp (F (1, h1)) h1 (f p q T1)) : CO tp ((Reader_tellPQ 16 h).bind F) h (mBW (twP tp 7 T) fun T1 => mBI (tiP tp 1 99 T1) fun p T2 => mBI (tiP tp 1 99 T2) fun q T3 => f p q T3) := by
  have H := D.1.1
  unfold Reader_tellPQ
  rw [gd_y H.t16, Option.bind_some, Option.bind_assoc]
  refine tl_word D 7 (by omega) rfl ?_ ?_
  · intro h1; exact F0 h1
  intro h1 D1
  have H1 := D1.1.1
  dsimp only
  rw [if_neg (by decide)]
  obtain ⟨h2, e2, R2, A2⟩ := s_tellInt D1.1 (lo := 1) (hi := 99) (by omega) (by omega)
  have D2 := D1.ak A2 R2
  have H2 := R2.1
  obtain ⟨D3, A3⟩ := D2.put (v := (tiP tp 1 99 (twP tp 7 T).2).1.getD (-1)) (j := 4) (Or.inl rfl)
  have H3 := D3.1.1
  have c3 : hCe (hSet h2 17 4 ((tiP tp 1 99 (twP tp 7 T).2).1.getD (-1))) 17 4 = (tiP tp 1 99 (twP tp 7 T).2).1.getD (-1) := cS _ _ _ _
  refine CO.tr ((A2.mo fun b j z => Or.inl z).tr A3) ?_
  generalize hg : hSet h2 17 4 ((tiP tp 1 99 (twP tp 7 T).2).1.getD (-1)) = h3 at *
  have pre : ∀ {r}, (if (tiP tp 1 99 (twP tp 7 T).2).1.getD (-1) = -1 then F (0, h3) else (Reader_tellInt 16 1 99 h3).bind fun u8 => ((gd (hTy u8.2 17 = 4) (hSet u8.2 17 5 u8.1)).bind fun h9 => (gd (hTy h9 16 = 5) (hCe h9 16 2)).bind fun u10 => (gd (hTy h9 u10 = 4) (hCe h9 u10 5)).bind fun u11 => if u11 = (-1 : Int) then some (0, h9) else some (1, h9)).bind F) = r → (((gd (hTy h1 16 = 5) (hCe h1 16 2)).bind fun u2 => (gd (hTy h1 16 = 5) 0).bind fun _ => (Reader_tellInt 16 1 99 h1).bind fun u3 => (gd (hTy u3.2 u2 = 4) (hSet u3.2 u2 4 u3.1)).bind fun h4 => (gd (hTy h4 16 = 5) (hCe h4 16 2)).bind fun u5 => (gd (hTy h4 u5 = 4) (hCe h4 u5 4)).bind fun u6 => if u6 = (-1 : Int) then some (0, h4) else (gd (hTy h4 16 = 5) (hCe h4 16 2)).bind fun u7 => (gd (hTy h4 16 = 5) 0).bind fun _ => (Reader_tellInt 16 1 99 h4).bind fun u8 => (gd (hTy u8.2 u7 = 4) (hSet u8.2 u7 5 u8.1)).bind fun h9 => (gd (hTy h9 16 = 5) (hCe h9 16 2)).bind fun u10 => (gd (hTy h9 u10 = 4) (hCe h9 u10 5)).bind fun u11 => if u11 = (-1 : Int) then some (0, h9) else some (1, h9)).bind F) = r := by
    rintro r rfl
    by_cases z : (tiP tp 1 99 (twP tp 7 T).2).1.getD (-1) = -1
    · rw [if_pos z]
      refine cB (v := ((0 : Int), h3)) ?_ rfl
      refine gB H1.t16 ?_
      rw [H1.p16_2]
      refine gB H1.t16 ?_
      refine cB e2 ?_
      refine gB H2.t17 ?_
      rw [hg]
      refine gB H3.t16 ?_
      rw [H3.p16_2]
      refine gB H3.t17 ?_
      rw [c3]
      exact ifT z rfl
    · rw [if_neg z]
      have b3 : ∀ g : Int × AH → Option (Int × AH), ((Reader_tellInt 16 1 99 h3).bind fun u8 => (g u8).bind F) = (((Reader_tellInt 16 1 99 h3).bind g).bind F) := fun g => (Option.bind_assoc _ _ _).symm
      rw [b3]
      congr 1
      refine gB H1.t16 ?_
      rw [H1.p16_2]
      refine gB H1.t16 ?_
      refine cB e2 ?_
      refine gB H2.t17 ?_
      rw [hg]
      refine gB H3.t16 ?_
      rw [H3.p16_2]
      refine gB H3.t17 ?_
      rw [c3]
      refine ifF z ?_
      refine gB H3.t16 ?_
      exact gB H3.t16 rfl
  rw [pre rfl]
  unfold mBI
  cases c : (tiP tp 1 99 (twP tp 7 T).2).1 with
  | none => rw [show (none : Option Int).getD (-1) = -1 from rfl, if_pos rfl, F0]; exact CO.no D3.1
  | some p =>
    have pv := tiP_v (tp := tp) (T := (twP tp 7 T).2) (lo := 1) (hi := 99) (v := p) (T' := (tiP tp 1 99 (twP tp 7 T).2).2) (Prod.ext c rfl)
    rw [c] at D3
    rw [Option.getD_some, if_neg (show ¬ p = -1 by omega)]
    dsimp only
    obtain ⟨h4, e4, R4, A4⟩ := s_tellInt D3.1 (lo := 1) (hi := 99) (by omega) (by omega)
    have D4 := D3.ak A4 R4
    have H4 := R4.1
    obtain ⟨D5', A5⟩ := D4.put (v := (tiP tp 1 99 (tiP tp 1 99 (twP tp 7 T).2).2).1.getD (-1)) (j := 5) (Or.inr rfl)
    have H5 := D5'.1.1
    have c5 : hCe (hSet h4 17 5 ((tiP tp 1 99 (tiP tp 1 99 (twP tp 7 T).2).2).1.getD (-1))) 17 5 = (tiP tp 1 99 (tiP tp 1 99 (twP tp 7 T).2).2).1.getD (-1) := cS _ _ _ _
    refine CO.tr ((A4.mo fun b j z => Or.inl z).tr A5) ?_
    generalize hg5 : hSet h4 17 5 ((tiP tp 1 99 (tiP tp 1 99 (twP tp 7 T).2).2).1.getD (-1)) = h5 at *
    rw [e4, Option.bind_some]
    have pre5 : ∀ {r}, (if (tiP tp 1 99 (tiP tp 1 99 (twP tp 7 T).2).2).1.getD (-1) = -1 then F (0, h5) else F (1, h5)) = r → (((gd (hTy h4 17 = 4) (hSet h4 17 5 ((tiP tp 1 99 (tiP tp 1 99 (twP tp 7 T).2).2).1.getD (-1)))).bind fun h9 => (gd (hTy h9 16 = 5) (hCe h9 16 2)).bind fun u10 => (gd (hTy h9 u10 = 4) (hCe h9 u10 5)).bind fun u11 => if u11 = (-1 : Int) then some (0, h9) else some (1, h9)).bind F) = r := by
      rintro r rfl
      by_cases z : (tiP tp 1 99 (tiP tp 1 99 (twP tp 7 T).2).2).1.getD (-1) = -1
      · rw [if_pos z]
        refine cB (v := ((0 : Int), h5)) ?_ rfl
        refine gB H4.t17 ?_
        rw [hg5]
        refine gB H5.t16 ?_
        rw [H5.p16_2]
        refine gB H5.t17 ?_
        rw [c5]
        exact ifT z rfl
      · rw [if_neg z]
        refine cB (v := ((1 : Int), h5)) ?_ rfl
        refine gB H4.t17 ?_
        rw [hg5]
        refine gB H5.t16 ?_
        rw [H5.p16_2]
        refine gB H5.t17 ?_
        rw [c5]
        exact ifF z rfl
    dsimp only
    rw [pre5 rfl]
    cases c2 : (tiP tp 1 99 (tiP tp 1 99 (twP tp 7 T).2).2).1 with
    | none => rw [show (none : Option Int).getD (-1) = -1 from rfl, if_pos rfl, F0]; exact CO.no D5'.1
    | some q =>
      have qv := tiP_v (tp := tp) (T := (tiP tp 1 99 (twP tp 7 T).2).2) (lo := 1) (hi := 99) (v := q) (T' := (tiP tp 1 99 (tiP tp 1 99 (twP tp 7 T).2).2).2) (Prod.ext c2 rfl)
      rw [c2] at D5'
      rw [Option.getD_some, if_neg (show ¬ q = -1 by omega)]
      exact F1 p q h5 _ D5'
