/-! the class reads a line, all lines -/
section P69
variable {tp : List Int} {n : Int} {T : T3}
theorem p69_0 : p69 tp 0 ((n, 0, 0, 0), [], []) T = p165 tp ((n, 0, 0, 0), [], []) T := rfl
theorem p69_1 {b : Int} : p69 tp b ((n, 1, 0, 0), [], []) T = mBW (twP tp 6 T) fun T' => mBI (rwP tp (if 0 < b then b else -1) 9 [] T') fun rs T'' => p165 tp ((n, 1, 0, 0), rs, []) T'' := rfl
theorem p69_2 : p69 tp 0 ((n, 2, 0, 0), [], []) T = mBW (twP tp 6 T) fun T' => mBI (rwP tp (-1) 9 [] T') fun rs T'' => p165 tp ((n, 2, 0, 0), rs, []) T'' := rfl
theorem p69_3 : p69 tp 0 ((n, 3, 0, 0), [], []) T = mBW (twP tp 7 T) fun T1 => mBI (tiP tp 1 99 T1) fun p T2 => mBI (tiP tp 1 99 T2) fun q T3 => mBW (twP tp 6 T3) fun T' => mBI (rwP tp 0 9 [] T') fun rs T'' => p165 tp ((n, 3, p, q), [], rs) T'' := rfl
theorem p69_4 : p69 tp 0 ((n, 4, 0, 0), [], []) T = mBW (twP tp 7 T) fun T1 => mBI (tiP tp 1 99 T1) fun p T2 => mBI (tiP tp 1 99 T2) fun q T3 => mBW (twP tp 8 T3) fun T' => mBI (rwP tp (-1) 9 [] T') fun rs T4 => mBW (twP tp 9 T4) fun T5 => mBI (rwP tp 0 9 [] T5) fun rs2 T'' => p165 tp ((n, 4, p, q), rs, rs2) T'' := rfl
end P69
theorem mBI_n {α β : Type} {p : Option β × T3} {f : β → T3 → Option α × T3} (c : p.1 = none) : mBI p f = (none, p.2) := by unfold mBI; rw [c]
theorem mBI_v {α β : Type} {p : Option β × T3} {f : β → T3 → Option α × T3} {v : β} (c : p.1 = some v) : mBI p f = f v p.2 := by unfold mBI; rw [c]
theorem s_tellLine {tp : List Int} {h : AH} {T : T3} (R : RD h tp T) : CO tp (Reader_tellLine 16 h) h (pLn tp T) := by
  have H := R.1
  have so : Reader_sortTold 16 h = some (stP tp T) := by
    unfold Reader_sortTold
    exact sto_loop R 5 FU 0 (by omega) (fu_big (by omega)) fun j hj => absurd hj (Nat.not_lt_zero j)
  unfold pLn
  by_cases z : stP tp T = -1
  · rw [if_pos z]
    unfold Reader_tellLine
    rw [gd_y H.t16, Option.bind_some, so, Option.bind_some, if_pos z]
    exact CO.no R
  rw [if_neg z]
  obtain ⟨h1, e1, R1, A1⟩ := R.nx
  obtain ⟨h2, e2, R2, A2⟩ := s_tellInt R1 (lo := 2) (hi := 1000000000) (by omega) (by omega)
  have H1 := R1.1
  have H2 := R2.1
  refine CO.tr ((A1.tr A2).mo fun b j z => Or.inl z) ?_
  unfold Reader_tellLine
  rw [gd_y H.t16, Option.bind_some, so, Option.bind_some, if_neg z, Option.bind_some, e1, Option.bind_some, gd_y H1.t16, Option.bind_some, e2, Option.bind_some]
  dsimp only
  cases c : (tiP tp 2 1000000000 (nxT tp T)).1 with
  | none =>
    rw [mBI_n c, show (none : Option Int).getD (-1) = -1 from rfl, if_pos rfl]
    exact CO.no R2
  | some n =>
    have nv := tiP_v (tp := tp) (T := nxT tp T) (lo := 2) (hi := 1000000000) (v := n) (T' := (tiP tp 2 1000000000 (nxT tp T)).2) (Prod.ext c rfl)
    rw [mBI_v c]
    generalize (tiP tp 2 1000000000 (nxT tp T)).2 = T1 at *
    obtain ⟨h3, e3, F3, L3, c6⟩ := s_begin (n := n) (s := stP tp T) H2.b17
    have R3 := R2.fr F3 fun b j z => ⟨mutB (by unfold LK SK at z; unfold MutB; omega), by unfold LK SK at z; omega⟩
    have D : DD h3 tp ((n, stP tp T, 0, 0), [], []) T1 := ⟨R3, L3, c6⟩
    have H3 := R3.1
    rw [Option.getD_some, if_neg (show ¬ n = -1 by omega), gd_y H2.t16, Option.bind_some, H2.p16_2, gd_y H2.t17, Option.bind_some, e3, Option.bind_some]
    refine CO.tr (F3.mo fun b j z => Or.inr z) ?_
    have sc := stP_c (tp := tp) (T := T)
    generalize stP tp T = s at *
    rcases (show s = 0 ∨ s = 1 ∨ s = 2 ∨ s = 3 ∨ s = 4 by omega) with rfl | rfl | rfl | rfl | rfl
    · rw [if_neg (show ¬ (0 : Int) = 1 by omega), if_neg (show ¬ (0 : Int) = 2 by omega), if_neg (show ¬ (0 : Int) = 3 by omega), if_neg (show ¬ (0 : Int) = 4 by omega), if_neg (show ¬ (0 : Int) = 1 by omega), p69_0, gd_y H3.t16, Option.bind_some]
      refine tl_end D ?_ ?_
      · intro h1; exact gB (show (0 : Int) ≤ 0 ∧ (0 : Int) ≤ 1 by decide) rfl
      · intro h1; exact gB (show (0 : Int) ≤ 1 ∧ (1 : Int) ≤ 1 by decide) rfl
    · rw [if_pos rfl, if_pos rfl, gd_y H3.t16, Option.bind_some]
      unfold Reader_tellPratt
      rw [gd_y H3.t16, Option.bind_some, Option.bind_assoc]
      refine tl_word D 5 (by omega) rfl ?_ ?_
      · intro h1; rfl
      intro h4 D4
      dsimp only
      rw [if_neg (by decide), gd_y D4.1.1.t16, Option.bind_some, Option.bind_assoc]
      refine tl_int D4 (by omega) (by omega) ?_ ?_
      · intro h1; rfl
      intro b h5 b0 b1 D5
      dsimp only
      rw [if_neg (show ¬ b = -1 by omega), gd_y D5.1.1.t16, Option.bind_some, Option.bind_assoc, p69_1, if_pos (show 0 < b by omega)]
      refine tl_word D5 6 (by omega) rfl ?_ ?_
      · intro h1; rfl
      intro h6 D6
      dsimp only
      rw [if_neg (by decide)]
      simp only [Option.bind_assoc]
      refine tl_down D6 ?_ ?_
      · intro h1; rfl
      intro rs h7 D7
      dsimp only
      rw [if_neg (by decide), Option.bind_some]
      dsimp only
      rw [if_neg (by decide), gd_y D7.1.1.t16, Option.bind_some]
      refine tl_end D7 ?_ ?_
      · intro h1; rfl
      · intro h1; rfl
    · rw [if_neg (show ¬ (2 : Int) = 1 by omega), if_pos rfl, if_neg (show ¬ (2 : Int) = 1 by omega), gd_y H3.t16, Option.bind_some, p69_2]
      refine tl_word D 6 (by omega) rfl ?_ ?_
      · intro h1; rfl
      intro h6 D6
      dsimp only
      rw [if_neg (by decide)]
      refine tl_down D6 ?_ ?_
      · intro h1; rfl
      intro rs h7 D7
      dsimp only
      rw [if_neg (by decide), gd_y D7.1.1.t16, Option.bind_some]
      refine tl_end D7 ?_ ?_
      · intro h1; rfl
      · intro h1; rfl
    · rw [if_neg (show ¬ (3 : Int) = 1 by omega), if_neg (show ¬ (3 : Int) = 2 by omega), if_pos rfl, if_neg (show ¬ (3 : Int) = 1 by omega), gd_y H3.t16, Option.bind_some, p69_3]
      refine tl_pq D ?_ ?_
      · intro h1; rfl
      intro p q h5 T5 D5
      dsimp only
      rw [if_neg (by decide), gd_y D5.1.1.t16, Option.bind_some]
      refine tl_word D5 6 (by omega) rfl ?_ ?_
      · intro h1; rfl
      intro h6 D6
      dsimp only
      rw [if_neg (by decide)]
      refine tl_up D6 ?_ ?_
      · intro h1; rfl
      intro rs h7 D7
      dsimp only
      rw [if_neg (by decide), gd_y D7.1.1.t16, Option.bind_some]
      refine tl_end D7 ?_ ?_
      · intro h1; rfl
      · intro h1; rfl
    · rw [if_neg (show ¬ (4 : Int) = 1 by omega), if_neg (show ¬ (4 : Int) = 2 by omega), if_neg (show ¬ (4 : Int) = 3 by omega), if_pos rfl, if_neg (show ¬ (4 : Int) = 1 by omega), gd_y H3.t16, Option.bind_some, p69_4]
      refine tl_pq D ?_ ?_
      · intro h1; rfl
      intro p q h5 T5 D5
      dsimp only
      rw [if_neg (by decide), gd_y D5.1.1.t16, Option.bind_some]
      refine tl_word D5 8 (by omega) rfl ?_ ?_
      · intro h1; rfl
      intro h6 D6
      dsimp only
      rw [if_neg (by decide)]
      refine tl_down D6 ?_ ?_
      · intro h1; rfl
      intro rs h7 D7
      dsimp only
      rw [if_neg (by decide), gd_y D7.1.1.t16, Option.bind_some]
      refine tl_word D7 9 (by omega) rfl ?_ ?_
      · intro h1; rfl
      intro h8 D8
      dsimp only
      rw [if_neg (by decide)]
      refine tl_up D8 ?_ ?_
      · intro h1; rfl
      intro rs2 h9 D9
      dsimp only
      rw [if_neg (by decide), gd_y D9.1.1.t16, Option.bind_some]
      refine tl_end D9 ?_ ?_
      · intro h1; rfl
      · intro h1; rfl
/-! ### what holds of a line that was read -/
theorem rwP_ok {tp : List Int} {m : Int} {P : RW → Prop} (hP : ∀ q e b, 2 ≤ q → q ≤ 1000000000 → 1 ≤ e → e ≤ 30 → (m = -1 → 2 ≤ b ∧ b ≤ 999) → (m ≠ -1 → b = m) → P (q, e, b)) : ∀ (n : Nat) (l : List RW) (T : T3) (rs : List RW) (T' : T3), rwP tp m n l T = (some rs, T') → (∀ r ∈ l, P r) → ∀ r ∈ rs, P r := by
  intro n
  induction n with
  | zero =>
    intro l T rs T' e hl
    unfold rwP at e
    split at e
    · injection e with e1 e2; cases e1
    · injection e with e1 e2; injection e1 with e1; subst e1; exact hl
  | succ n ih =>
    intro l T rs T' e hl
    unfold rwP at e
    by_cases k2 : T.1 = 2
    · rw [if_pos k2] at e
      rcases c1 : tiP tp 2 1000000000 T with ⟨_ | q, T1⟩
      · rw [c1] at e; injection e with e1 e2; cases e1
      rw [c1] at e
      have v1 := tiP_v c1
      dsimp only at e
      rcases c2 : tiP tp 1 30 T1 with ⟨_ | x, T2⟩
      · rw [c2] at e; injection e with e1 e2; cases e1
      rw [c2] at e
      have v2 := tiP_v c2
      dsimp only at e
      have app : ∀ b, P (q, x, b) → ∀ r ∈ l ++ [(q, x, b)], P r := fun b hb r hr => by
        rcases List.mem_append.mp hr with z | z
        · exact hl r z
        · rw [List.mem_singleton.mp z]; exact hb
      by_cases m1 : m = -1
      · rw [if_pos m1] at e
        rcases c3 : tiP tp 2 999 T2 with ⟨_ | b, T3'⟩
        · rw [c3] at e; injection e with e1 e2; cases e1
        rw [c3] at e
        have v3 := tiP_v c3
        exact ih _ _ _ _ e (app b (hP q x b v1.1 v1.2.1 v2.1 v2.2.1 (fun _ => ⟨v3.1, v3.2.1⟩) fun z => absurd m1 z))
      · rw [if_neg m1] at e
        exact ih _ _ _ _ e (app m (hP q x m v1.1 v1.2.1 v2.1 v2.2.1 (fun z => absurd z m1) fun _ => rfl))
    · rw [if_neg k2] at e
      injection e with e1 e2; injection e1 with e1; subst e1; exact hl
theorem mBW_s {α : Type} {p : Bool × T3} {f : T3 → Option α × T3} {x : α} {T' : T3} (e : mBW p f = (some x, T')) : p.1 = true ∧ f p.2 = (some x, T') := by
  unfold mBW at e
  split at e
  · exact ⟨by assumption, e⟩
  · injection e with e1 e2; cases e1
theorem mBI_s {α β : Type} {p : Option β × T3} {f : β → T3 → Option α × T3} {x : α} {T' : T3} (e : mBI p f = (some x, T')) : ∃ v, p = (some v, p.2) ∧ f v p.2 = (some x, T') := by
  unfold mBI at e
  split at e
  · injection e with e1 e2; cases e1
  · rename_i v c
    exact ⟨v, Prod.ext c rfl, e⟩
theorem p165_s {tp : List Int} {l l' : LN} {T T' : T3} (e : p165 tp l T = (some l', T')) : l' = l ∧ T.1 = 3 ∧ T' = nxT tp T := by
  have := mBW_s e
  obtain ⟨e1, e2⟩ := this
  unfold teP at e1 e2
  split at e1
  · rename_i c
    rw [if_pos c] at e2
    injection e2 with e3 e4
    injection e3 with e3
    exact ⟨e3.symm, c.1, e4.symm⟩
  · cases e1
theorem twP_s {tp : List Int} {k : Nat} {T : T3} (e : (twP tp k T).1 = true) : T.1 = 1 ∧ sl tp T.2.1 T.2.2 = wdR k ∧ (twP tp k T).2 = nxT tp T := by
  unfold twP at e ⊢
  split at e
  · rename_i c
    rw [if_pos c]
    exact ⟨c.1, c.2, rfl⟩
  · cases e
theorem rows_dn {tp : List Int} {m : Int} (hm : m = -1 ∨ (2 ≤ m ∧ m ≤ 999)) {T : T3} {rs : List RW} {T' : T3} (e : rwP tp m 9 [] T = (some rs, T')) : ∀ r ∈ rs, okR r ∧ okB r.2.2 := rwP_ok (fun q e b a1 a2 a3 a4 a5 a6 => ⟨⟨a1, a2, a3, a4⟩, by
  show 2 ≤ b ∧ b ≤ 999
  by_cases z : m = -1
  · exact a5 z
  · have := a6 z; omega⟩) 9 [] T rs T' e fun r hr => absurd hr List.not_mem_nil
theorem rows_up {tp : List Int} {T : T3} {rs : List RW} {T' : T3} (e : rwP tp 0 9 [] T = (some rs, T')) : ∀ r ∈ rs, okR r ∧ r.2.2 = 0 := rwP_ok (fun q e b a1 a2 a3 a4 _ a6 => ⟨⟨a1, a2, a3, a4⟩, a6 (by decide)⟩) 9 [] T rs T' e fun r hr => absurd hr List.not_mem_nil
theorem tiP_s {tp : List Int} {lo hi v : Int} {T : T3} {T' : T3} (e : tiP tp lo hi T = (some v, T')) : lo ≤ v ∧ v ≤ hi := ⟨(tiP_v e).1, (tiP_v e).2.1⟩
theorem okL_mk {n s p q : Int} {d u : List RW} (n1 : 2 ≤ n) (n2 : n ≤ 1000000000) (hs : 0 ≤ s ∧ s ≤ 4) (hd : ∀ r ∈ d, okR r ∧ okB r.2.2) (hu : ∀ r ∈ u, okR r ∧ r.2.2 = 0) (d0 : s = 0 ∨ s = 3 → d = []) (u0 : s ≤ 2 → u = []) (p3 : 3 ≤ s → (1 ≤ p ∧ p ≤ 99) ∧ (1 ≤ q ∧ q ≤ 99)) (p0 : s ≤ 2 → p = 0 ∧ q = 0) : okL ((n, s, p, q), d, u) := ⟨⟨n1, n2⟩, hs.1, hs.2, hd, hu, d0, u0, p3, p0⟩
theorem pLn_ok {tp : List Int} {T T' : T3} {l : LN} (e : pLn tp T = (some l, T')) : okL l := by
  unfold pLn at e
  by_cases z : stP tp T = -1
  · rw [if_pos z] at e; injection e with e1 e2; cases e1
  rw [if_neg z] at e
  obtain ⟨n, en, e⟩ := mBI_s e
  obtain ⟨n1, n2⟩ := tiP_s en
  generalize (tiP tp 2 1000000000 (nxT tp T)).2 = T1 at *
  have sc := stP_c (tp := tp) (T := T)
  generalize stP tp T = s at *
  have no : ∀ {P : RW → Prop}, ∀ r ∈ ([] : List RW), P r := fun r hr => absurd hr List.not_mem_nil
  rcases (show s = 0 ∨ s = 1 ∨ s = 2 ∨ s = 3 ∨ s = 4 by omega) with rfl | rfl | rfl | rfl | rfl
  · rw [if_neg (by omega), p69_0] at e
    rw [(p165_s e).1]
    exact okL_mk n1 n2 (by omega) no no (fun _ => rfl) (fun _ => rfl) (fun z => by omega) fun _ => ⟨rfl, rfl⟩
  · rw [if_pos rfl] at e
    obtain ⟨-, e⟩ := mBW_s e
    obtain ⟨b, eb, e⟩ := mBI_s e
    have bv := tiP_s eb
    rw [p69_1, if_pos (by omega)] at e
    obtain ⟨-, e⟩ := mBW_s e
    obtain ⟨rs, er, e⟩ := mBI_s e
    rw [(p165_s e).1]
    exact okL_mk n1 n2 (by omega) (rows_dn (Or.inr bv) er) no (fun z => by omega) (fun _ => rfl) (fun z => by omega) fun _ => ⟨rfl, rfl⟩
  · rw [if_neg (by omega), p69_2] at e
    obtain ⟨-, e⟩ := mBW_s e
    obtain ⟨rs, er, e⟩ := mBI_s e
    rw [(p165_s e).1]
    exact okL_mk n1 n2 (by omega) (rows_dn (Or.inl rfl) er) no (fun z => by omega) (fun _ => rfl) (fun z => by omega) fun _ => ⟨rfl, rfl⟩
  · rw [if_neg (by omega), p69_3] at e
    obtain ⟨-, e⟩ := mBW_s e
    obtain ⟨p, ep, e⟩ := mBI_s e
    obtain ⟨q, eq, e⟩ := mBI_s e
    have pv := tiP_s ep
    have qv := tiP_s eq
    obtain ⟨-, e⟩ := mBW_s e
    obtain ⟨rs, er, e⟩ := mBI_s e
    rw [(p165_s e).1]
    exact okL_mk n1 n2 (by omega) no (rows_up er) (fun _ => rfl) (fun z => by omega) (fun _ => ⟨pv, qv⟩) fun z => by omega
  · rw [if_neg (by omega), p69_4] at e
    obtain ⟨-, e⟩ := mBW_s e
    obtain ⟨p, ep, e⟩ := mBI_s e
    obtain ⟨q, eq, e⟩ := mBI_s e
    have pv := tiP_s ep
    have qv := tiP_s eq
    obtain ⟨-, e⟩ := mBW_s e
    obtain ⟨rs, er, e⟩ := mBI_s e
    obtain ⟨-, e⟩ := mBW_s e
    obtain ⟨rs2, er2, e⟩ := mBI_s e
    rw [(p165_s e).1]
    exact okL_mk n1 n2 (by omega) (rows_dn (Or.inl rfl) er) (rows_up er2) (fun z => by omega) (fun z => by omega) (fun _ => ⟨pv, qv⟩) fun z => by omega
