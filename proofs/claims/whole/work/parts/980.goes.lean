/-! read by the reference: on to the next WORD, INT or sign -/
def GKr (b j : Int) : Prop := b = 27 ∧ 25 ≤ j ∧ j ≤ 30
theorem GKr.mut {b j : Int} (z : GKr b j) : Mut b j := mutM (by unfold GKr at z; unfold MutM; omega)
def rtk (tp : List Int) (T : T3) : Int := if T.1 = 0 then 0 else if T.1 = 1 then 1 else if T.1 = 2 then (if T.2.2 - T.2.1 ≤ 10 then 2 else 4) else if tA tp T.2.1 = 59 then 3 else 4
def RQt (h : AH) (tp : List Int) (T : T3) (w : Int) : Prop := Sh h ∧ TP h 27 24 48 tp ∧ hCe h 27 25 = rtk tp T ∧ hCe h 27 26 = (T.2.1 : Int) ∧ hCe h 27 29 = (T.2.2 : Int) ∧ (T.1 = 1 → hCe h 27 27 = ((wx (sl tp T.2.1 T.2.2) : Nat) : Int)) ∧ (T.1 = 2 → T.2.2 - T.2.1 ≤ 10 → hCe h 27 28 = vaS tp T.2.1 T.2.2) ∧ hCe h 27 30 = w ∧ WTp tp T
theorem kd1 {c : Int} : kd c = 1 ↔ 97 ≤ c ∧ c ≤ 122 := ⟨kd_1, fun h => if_pos h⟩
theorem kd2 {c : Int} : kd c = 2 ↔ 48 ≤ c ∧ c ≤ 57 := ⟨kd_2, fun h => by unfold kd; rw [if_neg (by omega), if_pos h]⟩
section GOES
variable {tp : List Int}
theorem TP.g {h h' : AH} (t : TP h 27 24 48 tp) (F : Fr GKr h h') : TP h' 27 24 48 tp := t.fr F (by unfold GKr; omega) fun j => by unfold GKr; omega
theorem Sh.g {h h' : AH} (H : Sh h) (F : Fr GKr h h') : Sh h' := H.fr F fun b j => GKr.mut
theorem s_isLetter {h : AH} (H : Sh h) (t : TP h 27 24 48 tp) {i : Nat} : R_isLetter 27 i h = some (b2i (decide (i < tp.length ∧ kd (tA tp i) = 1))) := by
  have t4 := t.2.1
  unfold R_isLetter
  refine gB H.t27 ?_
  rw [t.1]
  by_cases q : i < tp.length
  · refine ifT (by omega) ?_
    refine gB H.t27 ?_
    rw [H.p27_23]
    refine gB ⟨H.t48, by omega, by rw [H.l48]; omega⟩ ?_
    rw [t.at q]
    refine rin_if ?_
    by_cases z : 97 ≤ tA tp i ∧ tA tp i ≤ 122
    · rw [if_pos z, decide_eq_true ⟨q, kd1.mpr z⟩]; rfl
    · rw [if_neg z, decide_eq_false (fun y => z (kd1.mp y.2))]; rfl
  · refine ifF (by omega) ?_
    rw [decide_eq_false (fun y => q y.1)]; rfl
theorem s_isDigit {h : AH} (H : Sh h) (t : TP h 27 24 48 tp) {i : Nat} : R_isDigit 27 i h = some (b2i (decide (i < tp.length ∧ kd (tA tp i) = 2))) := by
  have t4 := t.2.1
  unfold R_isDigit
  refine gB H.t27 ?_
  rw [t.1]
  by_cases q : i < tp.length
  · refine ifT (by omega) ?_
    refine gB H.t27 ?_
    rw [H.p27_23]
    refine gB ⟨H.t48, by omega, by rw [H.l48]; omega⟩ ?_
    rw [t.at q]
    refine rin_if ?_
    by_cases z : 48 ≤ tA tp i ∧ tA tp i ≤ 57
    · rw [if_pos z, decide_eq_true ⟨q, kd2.mpr z⟩]; rfl
    · rw [if_neg z, decide_eq_false (fun y => z (kd2.mp y.2))]; rfl
  · refine ifF (by omega) ?_
    rw [decide_eq_false (fun y => q y.1)]; rfl
/-- blanks -/
theorem g27 {e : Nat} {b : Bool} : ∀ (n f i : Nat) (h : AH), i + n = tp.length → n < f → Sh h → TP h 27 24 48 tp → hCe h 27 29 = (i : Int) → ∃ h', R_goesOn_27 f 27 (b2i b) e h = R_goesOn_90 27 (b2i (b && decide (skF tp n i = e))) h' ∧ hCe h' 27 29 = (skF tp n i : Int) ∧ hCe h' 27 26 = (skF tp n i : Int) ∧ hCe h' 27 30 = hCe h 27 30 ∧ Fr GKr h h' := by
  have fin : ∀ (h : AH) (i : Nat), Sh h → TP h 27 24 48 tp → hCe h 27 29 = (i : Int) → ∀ {r}, R_goesOn_90 27 (b2i (b && decide (i = e))) (hSet h 27 26 i) = r → ((gd (hTy h 27 = 10) (hCe h 27 29)).bind fun u8 => (gd (hTy h 27 = 10) (hSet h 27 26 u8)).bind fun h9 => if b2i b = 0 then R_goesOn_90 27 0 h9 else (gd (hTy h9 27 = 10) (hCe h9 27 26)).bind fun u10 => if u10 = e then R_goesOn_90 27 1 h9 else R_goesOn_90 27 0 h9) = r := by
    rintro h i H t c r rfl
    refine gB H.t27 ?_
    rw [c]
    refine gB H.t27 ?_
    cases b with
    | false => exact ifT rfl rfl
    | true =>
      refine ifF one_ne ?_
      refine gB H.t27 ?_
      rw [cS]
      by_cases q : i = e
      · rw [decide_eq_true q]; exact ifT (by omega) rfl
      · rw [decide_eq_false q]; exact ifF (by omega) rfl
  intro n
  induction n with
  | zero =>
    intro f i h hi hf H t c
    obtain ⟨f, rfl, -⟩ := fu_pos hf
    refine ⟨hSet h 27 26 i, ?_, (cN (by omega)).trans c, cS _ _ _ _, cN (by omega), Fr.set ⟨rfl, by omega, by omega⟩⟩
    rw [show skF tp 0 i = i from rfl]
    conv => lhs; unfold R_goesOn_27
    refine gB H.t27 ?_
    rw [c]
    refine gB H.t27 ?_
    rw [t.1]
    refine ifF (by omega) ?_
    have := fin h i H t c (r := _) rfl
    rw [c] at this
    exact this
  | succ n ih =>
    intro f i h hi hf H t c
    obtain ⟨f, rfl, hf⟩ := fu_pos hf
    have i4 := t.2.1
    have pre : ∀ {r}, (if tA tp i = 32 then R_goesOn_27 f 27 (b2i b) e (hSet h 27 29 ((i + 1 : Nat) : Int)) else R_goesOn_90 27 (b2i (b && decide (i = e))) (hSet h 27 26 i)) = r → R_goesOn_27 (f + 1) 27 (b2i b) e h = r := by
      rintro r rfl
      conv => lhs; unfold R_goesOn_27
      refine gB H.t27 ?_
      rw [c]
      refine gB H.t27 ?_
      rw [t.1]
      refine ifT (by omega) ?_
      refine gB H.t27 ?_
      rw [H.p27_23]
      refine gB H.t27 ?_
      refine gB ⟨H.t48, by omega, by rw [H.l48]; omega⟩ ?_
      rw [t.at (by omega)]
      by_cases q : tA tp i = 32
      · rw [if_pos q, if_pos q]
        refine gB H.t27 ?_
        rw [w32_e (z := (i : Int) + 1) (by omega)]
        exact gB H.t27 rfl
      · rw [if_neg q, if_neg q]
        have := fin h i H t c (r := _) rfl
        rw [c] at this
        exact this
    by_cases q : tA tp i = 32
    · have F1 : Fr GKr h (hSet h 27 29 ((i + 1 : Nat) : Int)) := Fr.set ⟨rfl, by omega, by omega⟩
      obtain ⟨h', e', c', d', k', F'⟩ := ih f (i + 1) _ (by omega) (by omega) (H.g F1) (t.g F1) (cS _ _ _ _)
      rw [show skF tp (n + 1) i = skF tp n (i + 1) from if_pos q]
      exact ⟨h', pre ((if_pos q).trans e'), c', d', k'.trans (cN (by omega)), F1.tr F'⟩
    · rw [show skF tp (n + 1) i = i from if_neg q]
      exact ⟨hSet h 27 26 i, pre (if_neg q), (cN (by omega)).trans c, cS _ _ _ _, cN (by omega), Fr.set ⟨rfl, by omega, by omega⟩⟩
/-! words -/
theorem iw8 {h : AH} (H : Sh h) (t : TP h 27 24 48 tp) {s e : Nat} (c26 : hCe h 27 26 = (s : Int)) (c29 : hCe h 27 29 = (e : Int)) (el : e ≤ tp.length) (lt : ∀ j, s ≤ j → j < e → kd (tA tp j) = 1) {k : Nat} (hk : k < 10) : ∀ (n f i : Nat), s + i + n = e → n < f → i ≤ (wdR k).length → (∀ j, j < i → tA tp (s + j) = (wdR k).getD j 0) → R_isWord_8 f 27 (wfN k) i h = some (b2i (decide (sl tp s e = wdR k))) := by
  have t4 := t.2.1
  obtain ⟨x1, x2, x3⟩ := wf_w k hk
  have wl : (wdR k).length ≤ 5 := wdC_len (nmR k)
  have x1' : wfN k + (wdR k).length < 49 := x1
  have ch : ∀ i, i ≤ (wdR k).length → ∃ c, wdT.getD (wfN k + i) 0 = c ∧ (c = 0 ↔ i = (wdR k).length) ∧ (i < (wdR k).length → c = (wdR k).getD i 0) := by
    intro i hi
    by_cases q : i = (wdR k).length
    · subst q; exact ⟨0, x2, ⟨fun _ => rfl, fun _ => rfl⟩, fun z => absurd z (by omega)⟩
    · obtain ⟨y1, y2⟩ := x3 i (by omega) (show i < (wdR k).length by omega)
      exact ⟨_, y1, ⟨fun z => absurd z y2, fun z => absurd z q⟩, fun _ => rfl⟩
  have w49 : ∀ i : Nat, s + i ≤ e → i ≤ (wdR k).length → R_isWord_49 27 (wfN k) i h = some (b2i (decide (s + i = e ∧ i = (wdR k).length))) := by
    intro i h1 h2
    obtain ⟨c, d1, d2, -⟩ := ch i h2
    unfold R_isWord_49
    refine gB H.t27 ?_
    rw [c26]
    refine gB H.t27 ?_
    rw [c29, w32_e (z := (s : Int) + i) (by omega)]
    by_cases q : s + i = e
    · refine ifT (by omega) ?_
      refine gB H.t27 ?_
      rw [H.p27_31, w32_e (z := (wfN k : Int) + i) (by omega)]
      refine gB ⟨Or.inl H.t49, by omega, by rw [H.l49]; omega⟩ ?_
      rw [show (wfN k : Int) + i = ((wfN k + i : Nat) : Int) by omega, H.2.2.1 (wfN k + i) (by omega), d1]
      by_cases z : i = (wdR k).length
      · rw [decide_eq_true ⟨q, z⟩]; exact ifT (d2.mpr z) rfl
      · rw [decide_eq_false (fun y => z y.2)]; exact ifF (fun y => z (d2.mp y)) rfl
    · refine ifF (by omega) ?_
      rw [decide_eq_false (fun y => q y.1)]; rfl
  intro n
  induction n with
  | zero =>
    intro f i hi hf il c
    obtain ⟨f, rfl, -⟩ := fu_pos hf
    have eq : decide (s + i = e ∧ i = (wdR k).length) = decide (sl tp s e = wdR k) := by
      refine decide_eq_decide.mpr ⟨fun y => (sl_eq (by omega) el).mpr ⟨by omega, fun j hj => c j (by omega)⟩, fun y => ?_⟩
      have := ((sl_eq (by omega) el).mp y).1
      omega
    rw [← eq, ← w49 i (by omega) il]
    conv => lhs; unfold R_isWord_8
    refine gB H.t27 ?_
    rw [c26]
    refine gB H.t27 ?_
    rw [c29, w32_e (z := (s : Int) + i) (by omega)]
    exact ifF (by omega) rfl
  | succ n ih =>
    intro f i hi hf il c
    obtain ⟨f, rfl, hf⟩ := fu_pos hf
    obtain ⟨u, d1, d2, d3⟩ := ch i il
    have ta := t.at (show s + i < tp.length by omega)
    have k1 := kd_1 (lt (s + i) (by omega) (by omega))
    have pre : ∀ {r}, (if u = tA tp (s + i) then R_isWord_8 f 27 (wfN k) ((i + 1 : Nat) : Int) h else R_isWord_49 27 (wfN k) i h) = r → R_isWord_8 (f + 1) 27 (wfN k) i h = r := by
      rintro r rfl
      conv => lhs; unfold R_isWord_8
      refine gB H.t27 ?_
      rw [c26]
      refine gB H.t27 ?_
      rw [c29, w32_e (z := (s : Int) + i) (by omega)]
      refine ifT (by omega) ?_
      refine gB H.t27 ?_
      rw [H.p27_31, w32_e (z := (wfN k : Int) + i) (by omega)]
      refine gB ⟨Or.inl H.t49, by omega, by rw [H.l49]; omega⟩ ?_
      rw [show (wfN k : Int) + i = ((wfN k + i : Nat) : Int) by omega, H.2.2.1 (wfN k + i) (by omega), d1]
      refine gB H.t27 ?_
      rw [H.p27_23]
      refine gB H.t27 ?_
      rw [w32_e (z := (s : Int) + i) (by omega)]
      refine gB ⟨H.t48, by omega, by rw [H.l48]; omega⟩ ?_
      rw [show (s : Int) + i = ((s + i : Nat) : Int) by omega, ta, w32_e (z := (i : Int) + 1) (by omega)]
      rfl
    by_cases q : u = tA tp (s + i)
    · have lt' : i < (wdR k).length := by
        rcases Nat.lt_or_ge i (wdR k).length with z | z
        · exact z
        · have := d2.mpr (by omega); omega
      refine pre ((if_pos q).trans (ih f (i + 1) (by omega) (by omega) (by omega) fun j hj => ?_))
      by_cases z : j = i
      · subst z; rw [← q]; exact d3 lt'
      · exact c j (by omega)
    · refine pre ((if_neg q).trans ?_)
      rw [w49 i (by omega) il, decide_eq_false (by omega), decide_eq_false]
      intro y
      obtain ⟨y1, y2⟩ := (sl_eq (by omega) el).mp y
      exact q ((d3 (by omega)).trans (y2 i (by omega)).symm)
theorem g166 {s e : Nat} (hse : s ≤ e) (el : e ≤ tp.length) (lt : ∀ j, s ≤ j → j < e → kd (tA tp j) = 1) : ∀ (n f k : Nat) (h : AH), k + n = 10 → n < f → Sh h → TP h 27 24 48 tp → hCe h 27 26 = (s : Int) → hCe h 27 29 = (e : Int) → hCe h 27 27 = ((wxF (sl tp s e) k : Nat) : Int) → ∃ h', R_goesOn_166 f 27 k h = some h' ∧ hCe h' 27 27 = ((wx (sl tp s e) : Nat) : Int) ∧ Fr (fun b j => b = 27 ∧ j = 27) h h' := by
  intro n
  induction n with
  | zero =>
    intro f k h hk hf H t c26 c29 c27
    obtain ⟨f, rfl, -⟩ := fu_pos hf
    have : k = 10 := by omega
    subst this
    refine ⟨h, ?_, c27, Fr.rf⟩
    unfold R_goesOn_166
    exact ifF (by omega) rfl
  | succ n ih =>
    intro f k h hk hf H t c26 c29 c27
    obtain ⟨f, rfl, hf⟩ := fu_pos hf
    have iw : R_isWord 27 k h = some (b2i (decide (sl tp s e = wdR k))) := by
      unfold R_isWord
      refine gB H.t27 ?_
      have e2 : R_wordFrom 27 k h = some (wfN k : Int) := wf_run H 60 FU 0 k (wfN k) (wf_v k (by omega)) (by omega) (by omega) (fu_big (by omega))
      refine cB e2 ?_
      have t4 := t.2.1
      exact iw8 H t c26 c29 el lt (by omega) (e - s) FU 0 (by omega) (fu_big (by omega)) (Nat.zero_le _) fun j hj => absurd hj (Nat.not_lt_zero j)
    have pre : ∀ {r}, (if sl tp s e = wdR k then R_goesOn_166 f 27 ((k + 1 : Nat) : Int) (hSet h 27 27 k) else R_goesOn_166 f 27 ((k + 1 : Nat) : Int) h) = r → R_goesOn_166 (f + 1) 27 k h = r := by
      rintro r rfl
      conv => lhs; unfold R_goesOn_166
      refine ifT (by omega) ?_
      refine gB H.t27 ?_
      refine cB iw ?_
      rw [w32_e (z := (k : Int) + 1) (by omega)]
      by_cases q : sl tp s e = wdR k
      · rw [if_pos q, decide_eq_true q]
        refine ifF one_ne ?_
        exact gB H.t27 rfl
      · rw [if_neg q, decide_eq_false q]
        exact ifT rfl rfl
    by_cases q : sl tp s e = wdR k
    · have F1 : Fr (fun b j => b = 27 ∧ j = 27) h (hSet h 27 27 k) := Fr.set ⟨rfl, rfl⟩
      obtain ⟨h', e', c', F'⟩ := ih f (k + 1) _ (by omega) (by omega) (H.fr F1 fun b j z => mutM (by unfold MutM; omega)) (t.fr F1 (by omega) fun j => by omega) ((cN (by omega)).trans c26) ((cN (by omega)).trans c29) (by rw [cS, show wxF (sl tp s e) (k + 1) = k from if_pos q])
      exact ⟨h', pre ((if_pos q).trans e'), c', F1.tr F'⟩
    · obtain ⟨h', e', c', F'⟩ := ih f (k + 1) h (by omega) (by omega) H t c26 c29 (by rw [show wxF (sl tp s e) (k + 1) = wxF (sl tp s e) k from if_neg q]; exact c27)
      exact ⟨h', pre ((if_neg q).trans e'), c', F'⟩
theorem g127 {b : Bool} : ∀ (n f i : Nat) (h : AH), i + n = tp.length → n < f → Sh h → TP h 27 24 48 tp → hCe h 27 29 = (i : Int) → ∃ h', R_goesOn_127 f 27 (b2i b) h = R_goesOn_166 FU 27 0 h' ∧ hCe h' 27 29 = (ruF tp 1 n i : Int) ∧ hCe h' 27 25 = (if b = true then 4 else 1) ∧ Fr (fun b j => b = 27 ∧ (j = 29 ∨ j = 25)) h h' := by
  intro n
  induction n with
  | zero =>
    intro f i h hi hf H t c
    obtain ⟨f, rfl, -⟩ := fu_pos hf
    refine ⟨hSet h 27 25 (if b = true then 4 else 1), ?_, (cN (by omega)).trans c, cS _ _ _ _, Fr.set ⟨rfl, Or.inr rfl⟩⟩
    unfold R_goesOn_127
    refine gB H.t27 ?_
    rw [c]
    refine gB H.t27 ?_
    refine cB (s_isLetter H t) ?_
    rw [decide_eq_false (by omega)]
    refine ifT rfl ?_
    cases b with
    | false => exact ifT rfl (gB H.t27 rfl)
    | true => exact ifF one_ne (gB H.t27 rfl)
  | succ n ih =>
    intro f i h hi hf H t c
    obtain ⟨f, rfl, hf⟩ := fu_pos hf
    have i4 := t.2.1
    by_cases q : kd (tA tp i) = 1
    · have F1 : Fr (fun b j => b = 27 ∧ (j = 29 ∨ j = 25)) h (hSet h 27 29 ((i + 1 : Nat) : Int)) := Fr.set ⟨rfl, Or.inl rfl⟩
      obtain ⟨h', e', c', k', F'⟩ := ih f (i + 1) _ (by omega) (by omega) (H.fr F1 fun b j z => mutM (by unfold MutM; omega)) (t.fr F1 (by omega) fun j => by omega) (cS _ _ _ _)
      rw [show ruF tp 1 (n + 1) i = ruF tp 1 n (i + 1) from if_pos q]
      refine ⟨h', ?_, c', k', F1.tr F'⟩
      rw [← e']
      conv => lhs; unfold R_goesOn_127
      refine gB H.t27 ?_
      rw [c]
      refine gB H.t27 ?_
      refine cB (s_isLetter H t) ?_
      rw [decide_eq_true ⟨by omega, q⟩]
      refine ifF one_ne ?_
      refine gB H.t27 ?_
      rw [w32_e (z := (i : Int) + 1) (by omega)]
      exact gB H.t27 rfl
    · rw [show ruF tp 1 (n + 1) i = i from if_neg q]
      refine ⟨hSet h 27 25 (if b = true then 4 else 1), ?_, (cN (by omega)).trans c, cS _ _ _ _, Fr.set ⟨rfl, Or.inr rfl⟩⟩
      unfold R_goesOn_127
      refine gB H.t27 ?_
      rw [c]
      refine gB H.t27 ?_
      refine cB (s_isLetter H t) ?_
      rw [decide_eq_false (fun z => q z.2)]
      refine ifT rfl ?_
      cases b with
      | false => exact ifT rfl (gB H.t27 rfl)
      | true => exact ifF one_ne (gB H.t27 rfl)
/-- numbers -/
theorem g210 {b : Bool} {s : Nat} : ∀ (n f i : Nat) (h : AH), i + n = tp.length → n < f → s ≤ i → Sh h → TP h 27 24 48 tp → hCe h 27 26 = (s : Int) → hCe h 27 29 = (i : Int) → (∀ j, s ≤ j → j < i → kd (tA tp j) = 2) → (i - s ≤ 10 → hCe h 27 28 = vaF tp (i - s) s) → ∃ h', R_goesOn_210 f 27 (b2i b) h = some h' ∧ hCe h' 27 29 = (ruF tp 2 n i : Int) ∧ hCe h' 27 25 = (if b = true then 4 else if ruF tp 2 n i - s ≤ 10 then 2 else 4) ∧ (ruF tp 2 n i - s ≤ 10 → hCe h' 27 28 = vaF tp (ruF tp 2 n i - s) s) ∧ Fr (fun b j => b = 27 ∧ (j = 29 ∨ j = 25 ∨ j = 28)) h h' := by
  have fin : ∀ (h : AH) (i f : Nat), s ≤ i → i ≤ 400 → Sh h → hCe h 27 26 = (s : Int) → hCe h 27 29 = (i : Int) → (if b2i b = 0 then ((gd (hTy h 27 = 10) (hCe h 27 29)).bind fun u3 => (gd (hTy h 27 = 10) (hCe h 27 26)).bind fun u4 => if (10 : Int) < (w32 (u3 - u4)) then (gd (hTy h 27 = 10) (hSet h 27 25 4)).bind fun h5 => some h5 else (gd (hTy h 27 = 10) (hSet h 27 25 2)).bind fun h6 => some h6) else (gd (hTy h 27 = 10) (hSet h 27 25 4)).bind fun h7 => some h7) = some (hSet h 27 25 (if b = true then 4 else if i - s ≤ 10 then 2 else 4)) := by
    intro h i f si i4 H c26 c29
    cases b with
    | true => exact ifF one_ne (gB H.t27 rfl)
    | false =>
      refine ifT rfl ?_
      refine gB H.t27 ?_
      rw [c29]
      refine gB H.t27 ?_
      rw [c26, w32_e (z := (i : Int) - s) (by omega)]
      by_cases q : i - s ≤ 10
      · rw [if_pos q]; exact ifF (by omega) (gB H.t27 rfl)
      · rw [if_neg q]; exact ifT (by omega) (gB H.t27 rfl)
  intro n
  induction n with
  | zero =>
    intro f i h hi hf si H t c26 c29 dg c28
    obtain ⟨f, rfl, -⟩ := fu_pos hf
    have i4 := t.2.1
    refine ⟨hSet h 27 25 (if b = true then 4 else if i - s ≤ 10 then 2 else 4), ?_, (cN (by omega)).trans c29, cS _ _ _ _, fun z => (cN (by omega)).trans (c28 z), Fr.set ⟨rfl, Or.inr (Or.inl rfl)⟩⟩
    unfold R_goesOn_210
    refine gB H.t27 ?_
    rw [c29]
    refine gB H.t27 ?_
    refine cB (s_isDigit H t) ?_
    rw [decide_eq_false (by omega)]
    refine ifT rfl ?_
    have := fin h i f si (by omega) H c26 c29
    rw [c29] at this
    exact this
  | succ n ih =>
    intro f i h hi hf si H t c26 c29 dg c28
    obtain ⟨f, rfl, hf⟩ := fu_pos hf
    have i4 := t.2.1
    by_cases q : kd (tA tp i) = 2
    · have d := kd_2 q
      have dg' : ∀ j, s ≤ j → j < i + 1 → kd (tA tp j) = 2 := fun j a1 a2 => by
        by_cases z : j = i
        · subst z; exact q
        · exact dg j a1 (by omega)
      rw [show ruF tp 2 (n + 1) i = ruF tp 2 n (i + 1) from if_pos q]
      by_cases z : i - s < 10
      · have vb := va_bd (tp := tp) (i := s) (i - s) fun j a1 a2 => dg j a1 (by omega)
        have p10 := p10i (i - s) (by omega)
        have cv := c28 (by omega)
        have va : vaF tp (i + 1 - s) s = 10 * vaF tp (i - s) s + tA tp i - 48 := by
          rw [show i + 1 - s = (i - s) + 1 by omega]
          show 10 * vaF tp (i - s) s + (tA tp (s + (i - s)) - 48) = _
          rw [show s + (i - s) = i by omega]
          omega
        have F1 : Fr (fun b j => b = 27 ∧ (j = 29 ∨ j = 25 ∨ j = 28)) h (hSet (hSet h 27 28 (vaF tp (i + 1 - s) s)) 27 29 ((i + 1 : Nat) : Int)) := (Fr.set ⟨rfl, Or.inr (Or.inr rfl)⟩).setT ⟨rfl, Or.inl rfl⟩
        obtain ⟨h', e', a1, a2, a3, F'⟩ := ih f (i + 1) _ (by omega) (by omega) (by omega) (H.fr F1 fun b j z => mutM (by unfold MutM; omega)) (t.fr F1 (by omega) fun j => by omega) ((cN (by omega)).trans ((cN (by omega)).trans c26)) (cS _ _ _ _) dg' (fun _ => (cN (by omega)).trans (cS _ _ _ _))
        refine ⟨h', ?_, a1, a2, a3, F1.tr F'⟩
        rw [← e']
        conv => lhs; unfold R_goesOn_210
        refine gB H.t27 ?_
        rw [c29]
        refine gB H.t27 ?_
        refine cB (s_isDigit H t) ?_
        rw [decide_eq_true ⟨by omega, q⟩]
        refine ifF one_ne ?_
        refine gB H.t27 ?_
        refine gB H.t27 ?_
        rw [c26, w32_e (z := (i : Int) - s) (by omega)]
        refine ifT (by omega) ?_
        refine gB H.t27 ?_
        rw [cv]
        refine gB H.t27 ?_
        rw [H.p27_23]
        refine gB H.t27 ?_
        refine gB ⟨H.t48, by omega, by rw [H.l48]; omega⟩ ?_
        rw [t.at (by omega), w64_e (z := 10 * vaF tp (i - s) s) (by omega), w64_e (z := 10 * vaF tp (i - s) s + tA tp i) (by omega), w64_e (z := 10 * vaF tp (i - s) s + tA tp i - 48) (by omega), ← va]
        refine gB H.t27 ?_
        refine gB H.t27 ?_
        rw [cN (b := 27) (j := 29) (by omega), c29, w32_e (z := (i : Int) + 1) (by omega)]
        exact gB H.t27 rfl
      · have F1 : Fr (fun b j => b = 27 ∧ (j = 29 ∨ j = 25 ∨ j = 28)) h (hSet h 27 29 ((i + 1 : Nat) : Int)) := Fr.set ⟨rfl, Or.inl rfl⟩
        obtain ⟨h', e', a1, a2, a3, F'⟩ := ih f (i + 1) _ (by omega) (by omega) (by omega) (H.fr F1 fun b j z => mutM (by unfold MutM; omega)) (t.fr F1 (by omega) fun j => by omega) ((cN (by omega)).trans c26) (cS _ _ _ _) dg' (fun z' => by omega)
        refine ⟨h', ?_, a1, a2, a3, F1.tr F'⟩
        rw [← e']
        conv => lhs; unfold R_goesOn_210
        refine gB H.t27 ?_
        rw [c29]
        refine gB H.t27 ?_
        refine cB (s_isDigit H t) ?_
        rw [decide_eq_true ⟨by omega, q⟩]
        refine ifF one_ne ?_
        refine gB H.t27 ?_
        refine gB H.t27 ?_
        rw [c26, w32_e (z := (i : Int) - s) (by omega)]
        refine ifF (by omega) ?_
        refine gB H.t27 ?_
        rw [w32_e (z := (i : Int) + 1) (by omega)]
        exact gB H.t27 rfl
    · rw [show ruF tp 2 (n + 1) i = i from if_neg q]
      refine ⟨hSet h 27 25 (if b = true then 4 else if i - s ≤ 10 then 2 else 4), ?_, (cN (by omega)).trans c29, cS _ _ _ _, fun z => (cN (by omega)).trans (c28 z), Fr.set ⟨rfl, Or.inr (Or.inl rfl)⟩⟩
      unfold R_goesOn_210
      refine gB H.t27 ?_
      rw [c29]
      refine gB H.t27 ?_
      refine cB (s_isDigit H t) ?_
      rw [decide_eq_false (fun z => q z.2)]
      refine ifT rfl ?_
      have := fin h i f si (by omega) H c26 c29
      rw [c29] at this
      exact this
end GOES
