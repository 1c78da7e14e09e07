/-! read by the class: words, numbers, rows -/
def twP (tp : List Int) (k : Nat) (T : T3) : Bool × T3 := if T.1 = 1 ∧ sl tp T.2.1 T.2.2 = wdR k then (true, nxT tp T) else (false, T)
def tiP (tp : List Int) (lo hi : Int) (T : T3) : Option Int × T3 := if T.1 = 2 ∧ T.2.2 - T.2.1 ≤ 10 ∧ lo ≤ vaS tp T.2.1 T.2.2 ∧ vaS tp T.2.1 T.2.2 ≤ hi then (some (vaS tp T.2.1 T.2.2), nxT tp T) else (none, T)
def teP (tp : List Int) (T : T3) : Bool × T3 := if T.1 = 3 ∧ tA tp T.2.1 = 59 then (true, nxT tp T) else (false, T)
def rwP (tp : List Int) (m : Int) : Nat → List RW → T3 → Option (List RW) × T3
  | 0, l, T => if T.1 = 2 then (none, T) else (some l, T)
  | n + 1, l, T => if T.1 = 2 then
      match tiP tp 2 1000000000 T with
      | (none, T1) => (none, T1)
      | (some q, T1) => match tiP tp 1 30 T1 with
        | (none, T2) => (none, T2)
        | (some e, T2) => if m = -1 then
            match tiP tp 2 999 T2 with
            | (none, T3) => (none, T3)
            | (some b, T3) => rwP tp m n (l ++ [(q, e, b)]) T3
          else rwP tp m n (l ++ [(q, e, m)]) T2
    else (some l, T)
theorem RD.nx {h : AH} {tp : List Int} {T : T3} (R : RD h tp T) : ∃ h', Reader_advance 16 h = some h' ∧ RD h' tp (nxT tp T) ∧ Fr AKr h h' := s_advance R.1 R.2.1 R.2.2.1 R.2.2.2.2.1 R.2.2.2.2.2.2.1
theorem RD.fr {P : Int → Int → Prop} {h h' : AH} {tp : List Int} {T : T3} (R : RD h tp T) (F : Fr P h h') (q : ∀ b j, P b j → Mut b j ∧ b ≠ 14 ∧ b ≠ 15 ∧ b ≠ 16) : RD h' tp T := ⟨R.1.fr F fun b j z => (q b j z).1, R.2.1.fr F (fun z => (q _ _ z).2.1 rfl) (fun j z => (q _ _ z).2.2.1 rfl), (F.2 _ _ fun z => (q _ _ z).2.2.2 rfl).trans R.2.2.1, (F.2 _ _ fun z => (q _ _ z).2.2.2 rfl).trans R.2.2.2.1, (F.2 _ _ fun z => (q _ _ z).2.2.2 rfl).trans R.2.2.2.2.1, R.2.2.2.2.2⟩
section TELL
variable {h : AH} {tp : List Int} {T : T3}
theorem iw_loop (R : RD h tp T) {k : Nat} (hk : k < 10) (le : T.2.2 - T.2.1 = (wdR k).length) : ∀ (n f i : Nat), i + n = (wdR k).length → n < f → (∀ j, j < i → tA tp (T.2.1 + j) = (wdR k).getD j 0) → Reader_isWord_28 f 16 (nmR k) i h = some (b2i (decide (sl tp T.2.1 T.2.2 = wdR k))) := by
  obtain ⟨H, t, c3, c4, c5, w1, w2, -⟩ := R
  have t4 := t.2.1
  have wl := wdC_len (nmR k)
  have hs := nmR_lt k hk
  have wl' : (wdR k).length ≤ 5 := wl
  intro n
  induction n with
  | zero =>
    intro f i hi hf c
    obtain ⟨f, rfl, -⟩ := fu_pos hf
    rw [decide_eq_true ((sl_eq w1 w2).mpr ⟨le, fun j hj => c j (by omega)⟩)]
    unfold Reader_isWord_28
    refine gB (by omega) ?_
    refine cB (str_len (nmR k) hs) ?_
    exact ifF (by show ¬ ((i : Int) < ((wdR k).length : Int)); omega) rfl
  | succ n ih =>
    intro f i hi hf c
    obtain ⟨f, rfl, hf⟩ := fu_pos hf
    have pre : ∀ {r}, (if tA tp (T.2.1 + i) = (wdR k).getD i 0 then Reader_isWord_28 f 16 (nmR k) ((i + 1 : Nat) : Int) h else some 0) = r → Reader_isWord_28 (f + 1) 16 (nmR k) i h = r := by
      rintro r rfl
      conv => lhs; unfold Reader_isWord_28
      refine gB (by omega) ?_
      refine cB (str_len (nmR k) hs) ?_
      refine ifT (by show (i : Int) < ((wdR k).length : Int); omega) ?_
      refine gB H.t16 ?_
      rw [c4]
      refine gB H.t16 ?_
      rw [H.p16_0]
      refine gB H.t14 ?_
      rw [t.1, w32_e (z := (T.2.1 : Int) + i) (by omega)]
      refine ifT (by omega) ?_
      refine gB H.t16 ?_
      refine gB H.t14 ?_
      rw [H.p14_0]
      refine gB H.t16 ?_
      rw [w32_e (z := (T.2.1 : Int) + i) (by omega)]
      refine gB ⟨H.t15, by omega, by rw [H.l15]; omega⟩ ?_
      refine gB (by omega) ?_
      refine cB (str_at (nmR k) hs i (by omega) (by show i < (wdR k).length; omega)) ?_
      have ta := t.at (show T.2.1 + i < tp.length by omega)
      rw [show ((T.2.1 + i : Nat) : Int) = (T.2.1 : Int) + i by omega] at ta
      rw [ta, w32_e (z := (i : Int) + 1) (by omega)]
      rfl
    by_cases q : tA tp (T.2.1 + i) = (wdR k).getD i 0
    · refine pre ((if_pos q).trans (ih f (i + 1) (by omega) (by omega) fun j hj => ?_))
      by_cases z : j = i
      · subst z; exact q
      · exact c j (by omega)
    · refine pre ((if_neg q).trans ?_)
      rw [decide_eq_false (fun z => q (((sl_eq w1 w2).mp z).2 i (by omega)))]
      rfl
theorem s_isWord (R : RD h tp T) {k : Nat} (hk : k < 10) : Reader_isWord 16 (nmR k) h = some (b2i (decide (T.1 = 1 ∧ sl tp T.2.1 T.2.2 = wdR k))) := by
  have R0 := R
  obtain ⟨H, t, c3, c4, c5, w1, w2, -⟩ := R
  have t4 := t.2.1
  have hs := nmR_lt k hk
  have wl' : (wdR k).length ≤ 5 := wdC_len (nmR k)
  unfold Reader_isWord
  refine gB H.t16 ?_
  rw [c3]
  by_cases q : T.1 = 1
  · refine ifT q ?_
    refine gB H.t16 ?_
    rw [c5]
    refine gB H.t16 ?_
    rw [c4]
    refine gB (by omega) ?_
    refine cB (str_len (nmR k) hs) ?_
    rw [w32_e (z := (T.2.2 : Int) - T.2.1) (by omega)]
    by_cases z : T.2.2 - T.2.1 = (wdR k).length
    · refine ifT (by show (T.2.2 : Int) - T.2.1 = ((wdR k).length : Int); omega) ?_
      refine (iw_loop R0 hk z (wdR k).length FU 0 (by omega) (fu_big (by omega)) fun j hj => absurd hj (Nat.not_lt_zero j)).trans ?_
      rw [show decide (T.1 = 1 ∧ sl tp T.2.1 T.2.2 = wdR k) = decide (sl tp T.2.1 T.2.2 = wdR k) from decide_eq_decide.mpr ⟨fun y => y.2, fun y => ⟨q, y⟩⟩]
    · refine ifF (by show ¬ ((T.2.2 : Int) - T.2.1 = ((wdR k).length : Int)); omega) ?_
      rw [decide_eq_false (fun y => z ((sl_eq w1 w2).mp y.2).1)]
      rfl
  · refine ifF q ?_
    rw [decide_eq_false (fun y => q y.1)]
    rfl
theorem s_tellWord (R : RD h tp T) {k : Nat} (hk : k < 10) : ∃ h', Reader_tellWord 16 (nmR k) h = some (b2i (twP tp k T).1, h') ∧ RD h' tp (twP tp k T).2 ∧ Fr AKr h h' := by
  have H := R.1
  unfold twP
  by_cases q : T.1 = 1 ∧ sl tp T.2.1 T.2.2 = wdR k
  · rw [if_pos q]
    obtain ⟨h', e, R', F⟩ := R.nx
    refine ⟨h', ?_, R', F⟩
    unfold Reader_tellWord
    refine gB H.t16 ?_
    refine cB (s_isWord R hk) ?_
    rw [decide_eq_true q]
    refine ifF one_ne ?_
    refine gB H.t16 ?_
    exact cB e rfl
  · rw [if_neg q]
    refine ⟨h, ?_, R, Fr.rf⟩
    unfold Reader_tellWord
    refine gB H.t16 ?_
    refine cB (s_isWord R hk) ?_
    rw [decide_eq_false q]
    exact ifT rfl rfl
theorem p10i : ∀ n : Nat, n < 11 → (10 : Int) ^ n ≤ 10000000000 := by decide
theorem ti_loop (R : RD h tp T) (k2 : T.1 = 2) (l10 : T.2.2 - T.2.1 ≤ 10) {lo hi : Int} : ∀ (n f i : Nat), i + n = T.2.2 - T.2.1 → n < f → Reader_tellInt_32 f 16 lo hi (vaF tp i T.2.1) ((T.2.1 + i : Nat) : Int) h = Reader_tellInt_80 16 lo hi (vaS tp T.2.1 T.2.2) h := by
  obtain ⟨H, t, c3, c4, c5, w1, w2, -, -, -, w6, -⟩ := R
  have t4 := t.2.1
  have dg := w6 k2
  intro n
  induction n with
  | zero =>
    intro f i hi' hf
    obtain ⟨f, rfl, -⟩ := fu_pos hf
    have : i = T.2.2 - T.2.1 := by omega
    subst this
    unfold Reader_tellInt_32
    refine gB H.t16 ?_
    rw [c5]
    refine ifF (by omega) ?_
    rfl
  | succ n ih =>
    intro f i hi' hf
    obtain ⟨f, rfl, hf⟩ := fu_pos hf
    have vb := va_bd (tp := tp) (i := T.2.1) i fun j a b => dg j a (by omega)
    have p10 := p10i i (by omega)
    have d := kd_2 (dg (T.2.1 + i) (by omega) (by omega))
    unfold Reader_tellInt_32
    refine gB H.t16 ?_
    rw [c5]
    refine ifT (by omega) ?_
    refine gB H.t16 ?_
    rw [H.p16_0]
    refine gB H.t14 ?_
    rw [t.1]
    refine ifT (by omega) ?_
    refine gB H.t16 ?_
    refine gB H.t14 ?_
    rw [H.p14_0]
    refine gB ⟨H.t15, by omega, by rw [H.l15]; omega⟩ ?_
    rw [t.at (by omega), w32_e (z := tA tp (T.2.1 + i) - 48) (by omega), w64_e (z := 10 * vaF tp i T.2.1) (by omega), w64_e (z := 10 * vaF tp i T.2.1 + (tA tp (T.2.1 + i) - 48)) (by omega), w32_e (z := ((T.2.1 + i : Nat) : Int) + 1) (by omega)]
    exact ih f (i + 1) (by omega) (by omega)
theorem vaS_bd (w : WTp tp T) (k2 : T.1 = 2) (l10 : T.2.2 - T.2.1 ≤ 10) : 0 ≤ vaS tp T.2.1 T.2.2 ∧ vaS tp T.2.1 T.2.2 < 10000000000 := by
  have vb := va_bd (tp := tp) (i := T.2.1) (T.2.2 - T.2.1) fun j a b => w.2.2.2.2.2.1 k2 j a (by omega)
  have p10 := p10i (T.2.2 - T.2.1) (by omega)
  unfold vaS
  omega
theorem s_tellInt (R : RD h tp T) {lo hi : Int} (hlo : 0 ≤ lo) (hhi : hi ≤ 1000000000) : ∃ h', Reader_tellInt 16 lo hi h = some ((tiP tp lo hi T).1.getD (-1), h') ∧ RD h' tp (tiP tp lo hi T).2 ∧ Fr AKr h h' := by
  have H := R.1
  have c3 := R.2.2.1
  have c4 := R.2.2.2.1
  have c5 := R.2.2.2.2.1
  have w := R.2.2.2.2.2
  have t4 := R.2.1.2.1
  have w1 := w.1
  have w2 := w.2.1
  by_cases k2 : T.1 = 2
  · by_cases l10 : T.2.2 - T.2.1 ≤ 10
    · have vb := vaS_bd w k2 l10
      have pre : ∀ {r}, Reader_tellInt_80 16 lo hi (vaS tp T.2.1 T.2.2) h = r → Reader_tellInt 16 lo hi h = r := by
        rintro r rfl
        unfold Reader_tellInt
        refine gB H.t16 ?_
        rw [c3]
        refine ifT k2 ?_
        refine gB H.t16 ?_
        rw [c5]
        refine gB H.t16 ?_
        rw [c4, w32_e (z := (T.2.2 : Int) - T.2.1) (by omega)]
        refine ifF (by omega) ?_
        refine gB H.t16 ?_
        exact ti_loop R k2 l10 (T.2.2 - T.2.1) FU 0 (by omega) (fu_big (by omega))
      unfold tiP
      by_cases q : lo ≤ vaS tp T.2.1 T.2.2 ∧ vaS tp T.2.1 T.2.2 ≤ hi
      · rw [if_pos ⟨k2, l10, q⟩]
        obtain ⟨h', e, R', F⟩ := R.nx
        refine ⟨h', pre ?_, R', F⟩
        unfold Reader_tellInt_80
        refine ifF (by omega) ?_
        refine ifF (by omega) ?_
        refine gB H.t16 ?_
        refine cB e ?_
        rw [w32_e (z := vaS tp T.2.1 T.2.2) (by omega)]
        rfl
      · rw [if_neg (fun z => q z.2.2)]
        refine ⟨h, pre ?_, R, Fr.rf⟩
        unfold Reader_tellInt_80
        by_cases a : vaS tp T.2.1 T.2.2 < lo
        · exact ifT a rfl
        · exact ifF a (ifT (by omega) rfl)
    · unfold tiP
      rw [if_neg (fun z => l10 z.2.1)]
      refine ⟨h, ?_, R, Fr.rf⟩
      unfold Reader_tellInt
      refine gB H.t16 ?_
      rw [c3]
      refine ifT k2 ?_
      refine gB H.t16 ?_
      rw [c5]
      refine gB H.t16 ?_
      rw [c4, w32_e (z := (T.2.2 : Int) - T.2.1) (by omega)]
      exact ifT (by omega) rfl
  · unfold tiP
    rw [if_neg (fun z => k2 z.1)]
    refine ⟨h, ?_, R, Fr.rf⟩
    unfold Reader_tellInt
    refine gB H.t16 ?_
    rw [c3]
    exact ifF k2 rfl
theorem tiP_v {lo hi v : Int} {T' : T3} (e : tiP tp lo hi T = (some v, T')) : lo ≤ v ∧ v ≤ hi ∧ T.1 = 2 ∧ T.2.2 - T.2.1 ≤ 10 ∧ v = vaS tp T.2.1 T.2.2 ∧ T' = nxT tp T := by
  unfold tiP at e
  split at e
  · rename_i c
    injection e with e1 e2
    injection e1 with e1
    exact ⟨by omega, by omega, c.1, c.2.1, e1.symm, e2.symm⟩
  · injection e with e1 e2
    cases e1
theorem tiP_n {lo hi : Int} {T' : T3} (e : tiP tp lo hi T = (none, T')) : T' = T ∧ ¬ (T.1 = 2 ∧ T.2.2 - T.2.1 ≤ 10 ∧ lo ≤ vaS tp T.2.1 T.2.2 ∧ vaS tp T.2.1 T.2.2 ≤ hi) := by
  unfold tiP at e
  split at e
  · injection e with e1 e2
    cases e1
  · rename_i c
    injection e with e1 e2
    exact ⟨e2.symm, c⟩
theorem s_tellEnd (R : RD h tp T) : ∃ h', Reader_tellEnd 16 h = some (b2i (teP tp T).1, h') ∧ RD h' tp (teP tp T).2 ∧ Fr AKr h h' := by
  have H := R.1
  have t := R.2.1
  have c3 := R.2.2.1
  have c4 := R.2.2.2.1
  have w := R.2.2.2.2.2
  have t4 := R.2.1.2.1
  have w2 := w.2.1
  unfold teP
  by_cases k3 : T.1 = 3
  · have lt := w.2.2.2.1 (by omega)
    have pre : ∀ {r}, (if tA tp T.2.1 = 59 then ((Reader_advance 16 h).bind fun h10 => some ((1 : Int), h10)) else some (0, h)) = r → Reader_tellEnd 16 h = r := by
      rintro r rfl
      unfold Reader_tellEnd
      refine gB H.t16 ?_
      rw [c3]
      refine ifT k3 ?_
      refine gB H.t16 ?_
      rw [c4]
      refine gB H.t16 ?_
      rw [H.p16_0]
      refine gB H.t14 ?_
      rw [t.1]
      refine ifT (by omega) ?_
      refine gB H.t16 ?_
      refine gB H.t14 ?_
      rw [H.p14_0]
      refine gB H.t16 ?_
      refine gB ⟨H.t15, by omega, by rw [H.l15]; omega⟩ ?_
      rw [t.at (by omega)]
      by_cases q : tA tp T.2.1 = 59
      · rw [if_pos q, if_pos q]; exact gB H.t16 rfl
      · rw [if_neg q, if_neg q]
    by_cases q : tA tp T.2.1 = 59
    · rw [if_pos ⟨k3, q⟩]
      obtain ⟨h', e, R', F⟩ := R.nx
      exact ⟨h', pre ((if_pos q).trans (cB e rfl)), R', F⟩
    · rw [if_neg (fun z => q z.2)]
      exact ⟨h, pre (if_neg q), R, Fr.rf⟩
  · rw [if_neg (fun z => k3 z.1)]
    refine ⟨h, ?_, R, Fr.rf⟩
    unfold Reader_tellEnd
    refine gB H.t16 ?_
    rw [c3]
    exact ifF k3 rfl
end TELL
/-! rows -/
def RSd (s b j : Int) : Prop := AKr b j ∨ SK s b j
theorem rt_loop {tp : List Int} {s : Int} (hs : s = 18 ∨ s = 20) {m : Int} : ∀ (n f : Nat) (h : AH) (T : T3) (l : List RW), l.length + n = 9 → n < f → RD h tp T → SD h s l → ∃ h', Reader_tellRows_2 f 16 s m l.length h = some (b2i (rwP tp m n l T).1.isSome, h') ∧ RD h' tp (rwP tp m n l T).2 ∧ Fr (RSd s) h h' ∧ ∀ rs, (rwP tp m n l T).1 = some rs → SD h' s rs := by
  have qA : ∀ b j, AKr b j → RSd s b j := fun b j z => Or.inl z
  have SA : ∀ {h h' : AH} {l : List RW}, SD h s l → Fr AKr h h' → SD h' s l := fun S F => S.fr F (fun z => by unfold AKr at z; omega) (fun z => by unfold AKr at z; omega) fun j z => by unfold AKr at z; omega
  intro n
  induction n with
  | zero =>
    intro f h T l hl hf R S
    obtain ⟨f, rfl, -⟩ := fu_pos hf
    have H := R.1
    unfold rwP
    by_cases k2 : T.1 = 2
    · rw [if_pos k2]
      refine ⟨h, ?_, R, Fr.rf, fun rs z => by cases z⟩
      unfold Reader_tellRows_2
      refine ifF (by omega) ?_
      refine gB H.t16 ?_
      rw [R.2.2.1]
      exact ifT k2 rfl
    · rw [if_neg k2]
      refine ⟨h, ?_, R, Fr.rf, fun rs z => by injection z with z; rw [← z]; exact S⟩
      unfold Reader_tellRows_2
      refine ifF (by omega) ?_
      refine gB H.t16 ?_
      rw [R.2.2.1]
      exact ifF k2 rfl
  | succ n ih =>
    intro f h T l hl hf R S
    obtain ⟨f, rfl, hf⟩ := fu_pos hf
    have H := R.1
    unfold rwP
    by_cases k2 : T.1 = 2
    · rw [if_pos k2]
      obtain ⟨h1, e1, R1, F1⟩ := s_tellInt R (lo := 2) (hi := 1000000000) (by omega) (by omega)
      have S1 := SA S F1
      have H1 := R1.1
      have pre : ∀ {r}, (if (tiP tp 2 1000000000 T).1.getD (-1) = -1 then some (0, h1) else (Reader_tellInt 16 1 30 h1).bind fun u3 => if u3.1 = -1 then some (0, u3.2) else if m = -1 then (gd (hTy u3.2 16 = 5) 0).bind fun _ => (Reader_tellInt 16 2 999 u3.2).bind fun u4 => Reader_tellRows_67 (fun a0 a1 a2 a3 h0 => Reader_tellRows_2 f a0 a1 a2 a3 h0) 16 s m l.length ((tiP tp 2 1000000000 T).1.getD (-1)) u3.1 u4.1 u4.2 else Reader_tellRows_67 (fun a0 a1 a2 a3 h0 => Reader_tellRows_2 f a0 a1 a2 a3 h0) 16 s m l.length ((tiP tp 2 1000000000 T).1.getD (-1)) u3.1 m u3.2) = r → Reader_tellRows_2 (f + 1) 16 s m l.length h = r := by
        rintro r rfl
        conv => lhs; unfold Reader_tellRows_2
        refine ifT (by omega) ?_
        refine gB H.t16 ?_
        rw [R.2.2.1]
        refine ifT k2 ?_
        refine gB H.t16 ?_
        refine cB e1 ?_
        by_cases z : (tiP tp 2 1000000000 T).1.getD (-1) = -1
        · refine ifT z ?_
          rw [if_pos z]
        · refine ifF z ?_
          rw [if_neg z]
          exact gB H1.t16 rfl
      have nx : ∀ {h2 : AH} {T2 : T3} {q e b : Int}, RD h2 tp T2 → SD h2 s l → b ≠ -1 → ∃ h', Reader_tellRows_67 (fun a0 a1 a2 a3 h0 => Reader_tellRows_2 f a0 a1 a2 a3 h0) 16 s m l.length q e b h2 = some (b2i (rwP tp m n (l ++ [(q, e, b)]) T2).1.isSome, h') ∧ RD h' tp (rwP tp m n (l ++ [(q, e, b)]) T2).2 ∧ Fr (RSd s) h2 h' ∧ ∀ rs, (rwP tp m n (l ++ [(q, e, b)]) T2).1 = some rs → SD h' s rs := by
        intro h2 T2 q e b R2 S2 hb
        obtain ⟨h3, e3, F3, S3⟩ := s_append S2 (by omega) (q := q) (e := e) (b := b)
        have R3 := R2.fr F3 fun b j z => ⟨mutB (by unfold SK at z; unfold MutB; omega), by unfold SK at z; omega⟩
        obtain ⟨h4, e4, R4, F4, S4⟩ := ih f h3 T2 (l ++ [(q, e, b)]) (by rw [List.length_append]; show l.length + 1 + n = 9; omega) (by omega) R3 S3
        refine ⟨h4, ?_, R4, (F3.mo fun b j z => Or.inr z).tr F4, S4⟩
        unfold Reader_tellRows_67
        refine ifF hb ?_
        refine gB S2.1.1 ?_
        refine cB e3 ?_
        rw [w32_e (z := (l.length : Int) + 1) (by omega), show (l.length : Int) + 1 = ((l ++ [(q, e, b)]).length : Int) by rw [List.length_append]; rfl]
        exact e4
      rcases c1 : tiP tp 2 1000000000 T with ⟨_ | q, T1⟩
      · rw [c1] at pre R1
        exact ⟨h1, pre (if_pos rfl), R1, F1.mo qA, fun rs z => by cases z⟩
      · rw [c1] at pre R1
        have q1 := tiP_v c1
        obtain ⟨h2, e2, R2, F2⟩ := s_tellInt R1 (lo := 1) (hi := 30) (by omega) (by omega)
        have S2 := SA S1 F2
        have H2 := R2.1
        dsimp only at R1 e2 R2 pre ⊢
        rw [Option.getD_some, if_neg (show ¬ q = -1 by omega)] at pre
        rcases c2 : tiP tp 1 30 T1 with ⟨_ | e, T2⟩
        · rw [c2] at e2 R2
          refine ⟨h2, pre (cB e2 (ifT rfl rfl)), R2, (F1.tr F2).mo qA, fun rs z => by cases z⟩
        · rw [c2] at e2 R2
          have q2 := tiP_v c2
          dsimp only at R2 ⊢
          by_cases m1 : m = -1
          · rw [if_pos m1]
            obtain ⟨h3, e3, R3, F3⟩ := s_tellInt R2 (lo := 2) (hi := 999) (by omega) (by omega)
            have S3 := SA S2 F3
            rcases c3 : tiP tp 2 999 T2 with ⟨_ | b, T3'⟩
            · rw [c3] at e3 R3
              refine ⟨h3, pre (cB e2 (ifF (show ¬ e = -1 by omega) (ifT m1 (gB H2.t16 (cB e3 ?_))))), R3, (F1.tr (F2.tr F3)).mo qA, fun rs z => by cases z⟩
              unfold Reader_tellRows_67
              exact ifT rfl rfl
            · rw [c3] at e3 R3
              have q3 := tiP_v c3
              obtain ⟨h4, e4, R4, F4, S4⟩ := nx (q := q) (e := e) (b := b) R3 S3 (by omega)
              exact ⟨h4, pre (cB e2 (ifF (show ¬ e = -1 by omega) (ifT m1 (gB H2.t16 (cB e3 e4))))), R4, ((F1.tr (F2.tr F3)).mo qA).tr F4, S4⟩
          · rw [if_neg m1]
            obtain ⟨h4, e4, R4, F4, S4⟩ := nx (q := q) (e := e) (b := m) R2 S2 m1
            exact ⟨h4, pre (cB e2 (ifF (show ¬ e = -1 by omega) (ifF m1 e4))), R4, ((F1.tr F2).mo qA).tr F4, S4⟩
    · rw [if_neg k2]
      refine ⟨h, ?_, R, Fr.rf, fun rs z => by injection z with z; rw [← z]; exact S⟩
      unfold Reader_tellRows_2
      refine ifT (by omega) ?_
      refine gB H.t16 ?_
      rw [R.2.2.1]
      refine ifF k2 ?_
      refine gB H.t16 ?_
      exact ifF k2 rfl
theorem s_tellRows {tp : List Int} {s : Int} (hs : s = 18 ∨ s = 20) {m : Int} {h : AH} {T : T3} (R : RD h tp T) (S : SD h s []) : ∃ h', Reader_tellRows 16 s m h = some (b2i (rwP tp m 9 [] T).1.isSome, h') ∧ RD h' tp (rwP tp m 9 [] T).2 ∧ Fr (RSd s) h h' ∧ ∀ rs, (rwP tp m 9 [] T).1 = some rs → SD h' s rs := by
  unfold Reader_tellRows
  exact rt_loop hs 9 FU h T [] rfl (fu_big (by omega)) R S
