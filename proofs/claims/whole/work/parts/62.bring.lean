/-! lines brought -/
def av (ls : List LN) (q : Int) : Prop := 0 ≤ ahS ls (rtS ls) ls.length q
theorem ahF_pos {ls : List LN} {R : Nat → Bool} {q : Int} : ∀ {k j i : Nat}, j ≤ i → i < j + k → R i = true → (gl ls i).1.1 = q → 0 ≤ ahF ls R q k j
  | 0, j, i, h1, h2, _, _ => by omega
  | k + 1, j, i, h1, h2, h3, h4 => by
    unfold ahF
    by_cases c : R j = true ∧ (gl ls j).1.1 = q
    · rw [if_pos c]; omega
    · rw [if_neg c]
      have : j ≠ i := fun z => by subst z; exact c ⟨h3, h4⟩
      exact ahF_pos (by omega) (by omega) h3 h4
theorem av_iff {ls : List LN} {q : Int} : av ls q ↔ ∃ i, i < ls.length ∧ rtS ls i = true ∧ (gl ls i).1.1 = q := by
  constructor
  · intro h
    rcases ahS_c ls (rtS ls) q ls.length with z | ⟨i, a, b, c, -⟩
    · unfold av at h; omega
    · exact ⟨i, a, b, c⟩
  · rintro ⟨i, a, b, c⟩
    exact ahF_pos (Nat.zero_le _) (by omega) b c
theorem gl_apps {ls suf : List LN} {i : Nat} (hi : i < ls.length) : gl ls i = gl (ls ++ suf) i := by
  unfold gl
  rw [List.getD_eq_getElem?_getD, List.getD_eq_getElem?_getD, List.getElem?_append_left hi]
theorem av_ext {ls suf : List LN} {q : Int} (h : av ls q) : av (ls ++ suf) q := by
  obtain ⟨i, a, b, c⟩ := av_iff.mp h
  refine av_iff.mpr ⟨i, by rw [List.length_append]; omega, ?_, by rw [← gl_apps a]; exact c⟩
  rw [← rt_g ls.length (fun j hj => gl_apps hj) i a]
  exact b
theorem av_new {ls : List LN} {l : LN} (h : faT (ls ++ [l]) ls.length = 0) : av (ls ++ [l]) l.1.1 := av_iff.mpr ⟨ls.length, by rw [len_app]; omega, rt_1.mpr h, by rw [gl_new]⟩
def sortQ (q : Int) : Int := if q < 100 then 0 else 1
noncomputable def goB (rec : List LN → Int → Int → Int × List LN) : List Int → List LN → Int × List LN
  | [], ls => (0, ls)
  | q :: qs, ls => if 0 ≤ ahS ls (rtS ls) ls.length q then goB rec qs ls else if (rec ls q (sortQ q)).1 < 0 then rec ls q (sortQ q) else goB rec qs (rec ls q (sortQ q)).2
/-- the class: bases first, then what it rests on; the reference: bases last -/
noncomputable def brC : Nat → List LN → Int → Int → Int × List LN
  | 0, ls, _, _ => (-3, ls)
  | d + 1, ls, n, s => match fdS n s with
    | none => (-2, ls)
    | some l => if (goB (brC d) (qsS n s) ls).1 < 0 then goB (brC d) (qsS n s) ls else if 60 ≤ (goB (brC d) (qsS n s) ls).2.length then (-3, (goB (brC d) (qsS n s) ls).2) else (((goB (brC d) (qsS n s) ls).2.length : Int), (goB (brC d) (qsS n s) ls).2 ++ [l])
noncomputable def brR : Nat → List LN → Int → Int → Int × List LN
  | 0, ls, _, _ => (-3, ls)
  | d + 1, ls, n, s => if (goB (brR d) (qsS n s) ls).1 < 0 then goB (brR d) (qsS n s) ls else if 60 ≤ (goB (brR d) (qsS n s) ls).2.length then (-3, (goB (brR d) (qsS n s) ls).2) else match fdS n s with
    | none => (-2, (goB (brR d) (qsS n s) ls).2)
    | some l => (((goB (brR d) (qsS n s) ls).2.length : Int), (goB (brR d) (qsS n s) ls).2 ++ [l])
/-- what a line may rest on, within k halvings -/
def CQ (k : Nat) (q : Int) : Prop := isP q ∧ okN q ∧ q ≤ 2 ^ k
theorem sq_ok (q : Int) : 0 ≤ sortQ q ∧ sortQ q ≤ 4 := by unfold sortQ; split <;> omega
theorem p2_1 (k : Nat) : (1 : Int) ≤ 2 ^ k := by
  have : (0 : Int) < 2 ^ k := Int.pow_pos (by omega)
  omega
theorem qs_CQ {n s : Int} {k : Nat} (ip : isP n) (hn : okN n) (hs : 0 ≤ s ∧ s ≤ 4) (two : s = 0 ∨ n ≠ 2) (hk : n ≤ 2 ^ (k + 1)) : ∀ q ∈ qsS n s, CQ k q := by
  intro q hq
  by_cases s0 : s = 0
  · unfold qsS at hq
    rw [if_pos s0] at hq
    exact absurd hq List.not_mem_nil
  · have nb := isP_nb hn ip (two.resolve_left s0)
    obtain ⟨a, b⟩ := qs_ok nb ⟨by omega, hs.2⟩ hq
    have := hn.2
    refine ⟨a, ⟨a.1, by omega⟩, ?_⟩
    rw [Int.pow_succ] at hk
    omega
theorem qs_0 {n s : Int} {k : Nat} (hn : okN n) (hs : 0 ≤ s ∧ s ≤ 4) (two : s = 0 ∨ nbOK n) (hk : n ≤ 2 ^ 0) : False := by
  have := hn.1
  rw [Int.pow_zero] at hk
  omega
theorem fd_P {n s : Int} {l : LN} (h : fdS n s = some l) : isP n ∧ (s = 0 ∨ n ≠ 2) := by
  unfold fdS at h
  by_cases p : prS n = 1
  · rw [if_pos p] at h
    refine ⟨prS_isP p, ?_⟩
    by_cases s0 : s = 0
    · exact Or.inl s0
    · rw [if_neg s0] at h
      by_cases two : n = 2
      · rw [if_pos two] at h; cases h
      · exact Or.inr two
  · rw [if_neg p] at h; cases h
def recOK (k : Nat) (rec : List LN → Int → Int → Int × List LN) : Prop := ∀ ls q, CQ k q → ∃ suf, (rec ls q (sortQ q)).2 = ls ++ suf ∧ (0 ≤ (rec ls q (sortQ q)).1 → av (rec ls q (sortQ q)).2 q)
theorem goB_ok {k : Nat} {rec : List LN → Int → Int → Int × List LN} (hr : recOK k rec) : ∀ (qs : List Int) (ls : List LN), (∀ q ∈ qs, CQ k q) → ∃ suf, (goB rec qs ls).2 = ls ++ suf ∧ (0 ≤ (goB rec qs ls).1 → ∀ q ∈ qs, av (goB rec qs ls).2 q)
  | [], ls, _ => ⟨[], by rw [List.append_nil]; rfl, fun _ q hq => absurd hq List.not_mem_nil⟩
  | q :: qs, ls, h => by
    unfold goB
    by_cases a : 0 ≤ ahS ls (rtS ls) ls.length q
    · rw [if_pos a]
      obtain ⟨suf, e, g⟩ := goB_ok hr qs ls fun x hx => h x (List.mem_cons_of_mem _ hx)
      refine ⟨suf, e, fun z x hx => ?_⟩
      rcases List.mem_cons.mp hx with rfl | hx
      · rw [e]; exact av_ext a
      · exact g z x hx
    · rw [if_neg a]
      obtain ⟨s1, e1, g1⟩ := hr ls q (h q List.mem_cons_self)
      by_cases c : (rec ls q (sortQ q)).1 < 0
      · rw [if_pos c]
        exact ⟨s1, e1, fun z => by omega⟩
      · rw [if_neg c]
        obtain ⟨s2, e2, g2⟩ := goB_ok hr qs (rec ls q (sortQ q)).2 fun x hx => h x (List.mem_cons_of_mem _ hx)
        refine ⟨s1 ++ s2, by rw [e2, e1, List.append_assoc], fun z x hx => ?_⟩
        rcases List.mem_cons.mp hx with rfl | hx
        · rw [e2]; exact av_ext (g1 (by omega))
        · exact g2 z x hx
theorem CQ.nb {k : Nat} {q : Int} (h : CQ k q) : (sortQ q = 0 ∨ q ≠ 2) := by
  unfold sortQ
  by_cases z : q < 100
  · rw [if_pos z]; exact Or.inl rfl
  · exact Or.inr (by omega)
theorem brC_ok : ∀ (k : Nat) (ls : List LN) (n s : Int), okN n → (0 ≤ s ∧ s ≤ 4) → n ≤ 2 ^ k → ∃ suf, (brC (k + 1) ls n s).2 = ls ++ suf ∧ (0 ≤ (brC (k + 1) ls n s).1 → av (brC (k + 1) ls n s).2 n)
  | 0, ls, n, s, hn, hs, hk => by have := hn.1; rw [Int.pow_zero] at hk; omega
  | k + 1, ls, n, s, hn, hs, hk => by
    unfold brC
    cases fd : fdS n s with
    | none => exact ⟨[], by rw [List.append_nil], fun z => by have z' : (0 : Int) ≤ -2 := z; omega⟩
    | some l =>
      have ok := fd_ok hn hs fd
      have P := fd_P fd
      have cq := qs_CQ P.1 hn hs P.2 hk
      have rk : recOK k (brC (k + 1)) := fun ls q c => brC_ok k ls q (sortQ q) c.2.1 (sq_ok q) c.2.2
      obtain ⟨suf, e, g⟩ := goB_ok rk (qsS n s) ls cq
      show ∃ suf, (if (goB (brC (k + 1)) (qsS n s) ls).1 < 0 then goB (brC (k + 1)) (qsS n s) ls else if 60 ≤ (goB (brC (k + 1)) (qsS n s) ls).2.length then (-3, (goB (brC (k + 1)) (qsS n s) ls).2) else (((goB (brC (k + 1)) (qsS n s) ls).2.length : Int), (goB (brC (k + 1)) (qsS n s) ls).2 ++ [l])).2 = ls ++ suf ∧ (0 ≤ (if (goB (brC (k + 1)) (qsS n s) ls).1 < 0 then goB (brC (k + 1)) (qsS n s) ls else if 60 ≤ (goB (brC (k + 1)) (qsS n s) ls).2.length then (-3, (goB (brC (k + 1)) (qsS n s) ls).2) else (((goB (brC (k + 1)) (qsS n s) ls).2.length : Int), (goB (brC (k + 1)) (qsS n s) ls).2 ++ [l])).1 → av (if (goB (brC (k + 1)) (qsS n s) ls).1 < 0 then goB (brC (k + 1)) (qsS n s) ls else if 60 ≤ (goB (brC (k + 1)) (qsS n s) ls).2.length then (-3, (goB (brC (k + 1)) (qsS n s) ls).2) else (((goB (brC (k + 1)) (qsS n s) ls).2.length : Int), (goB (brC (k + 1)) (qsS n s) ls).2 ++ [l])).2 n)
      generalize hG : goB (brC (k + 1)) (qsS n s) ls = G at e g ⊢
      by_cases c : G.1 < 0
      · rw [if_pos c]; exact ⟨suf, e, fun z => by omega⟩
      · rw [if_neg c]
        by_cases f : 60 ≤ G.2.length
        · rw [if_pos f]; exact ⟨suf, e, fun z => by have z' : (0 : Int) ≤ -3 := z; omega⟩
        · rw [if_neg f]
          refine ⟨suf ++ [l], by show G.2 ++ [l] = _; rw [e, List.append_assoc], fun _ => ?_⟩
          have := av_new (fd_right ok (g (by omega)))
          rw [ok.2.1] at this
          exact this
theorem brR_ok : ∀ (k : Nat) (ls : List LN) (n s : Int), okN n → isP n → (s = 0 ∨ n ≠ 2) → (0 ≤ s ∧ s ≤ 4) → n ≤ 2 ^ k → ∃ suf, (brR (k + 1) ls n s).2 = ls ++ suf ∧ (0 ≤ (brR (k + 1) ls n s).1 → av (brR (k + 1) ls n s).2 n)
  | 0, ls, n, s, hn, ip, two, hs, hk => by have := hn.1; rw [Int.pow_zero] at hk; omega
  | k + 1, ls, n, s, hn, ip, two, hs, hk => by
    have cq := qs_CQ ip hn hs two hk
    have rk : recOK k (brR (k + 1)) := fun ls q c => brR_ok k ls q (sortQ q) c.2.1 c.1 c.nb (sq_ok q) c.2.2
    obtain ⟨suf, e, g⟩ := goB_ok rk (qsS n s) ls cq
    have un : brR (k + 1 + 1) ls n s = if (goB (brR (k + 1)) (qsS n s) ls).1 < 0 then goB (brR (k + 1)) (qsS n s) ls else if 60 ≤ (goB (brR (k + 1)) (qsS n s) ls).2.length then (-3, (goB (brR (k + 1)) (qsS n s) ls).2) else match fdS n s with
      | none => (-2, (goB (brR (k + 1)) (qsS n s) ls).2)
      | some l => (((goB (brR (k + 1)) (qsS n s) ls).2.length : Int), (goB (brR (k + 1)) (qsS n s) ls).2 ++ [l]) := by
      conv => lhs; unfold brR
    rw [un]
    generalize hG : goB (brR (k + 1)) (qsS n s) ls = G at e g ⊢
    by_cases c : G.1 < 0
    · rw [if_pos c]; exact ⟨suf, e, fun z => by omega⟩
    · rw [if_neg c]
      by_cases f : 60 ≤ G.2.length
      · rw [if_pos f]; exact ⟨suf, e, fun z => by have z' : (0 : Int) ≤ -3 := z; omega⟩
      · rw [if_neg f]
        cases fd : fdS n s with
        | none => exact ⟨suf, e, fun z => by have z' : (0 : Int) ≤ -2 := z; omega⟩
        | some l =>
          have ok := fd_ok hn hs fd
          refine ⟨suf ++ [l], by show G.2 ++ [l] = _; rw [e, List.append_assoc], fun _ => ?_⟩
          have := av_new (fd_right ok (g (by omega)))
          rw [ok.2.1] at this
          exact this
theorem brC_u (d : Nat) (ls : List LN) (n s : Int) : brC (d + 1) ls n s = match fdS n s with
    | none => (-2, ls)
    | some l => if (goB (brC d) (qsS n s) ls).1 < 0 then goB (brC d) (qsS n s) ls else if 60 ≤ (goB (brC d) (qsS n s) ls).2.length then (-3, (goB (brC d) (qsS n s) ls).2) else (((goB (brC d) (qsS n s) ls).2.length : Int), (goB (brC d) (qsS n s) ls).2 ++ [l]) := by
  conv => lhs; unfold brC
theorem brR_u (d : Nat) (ls : List LN) (n s : Int) : brR (d + 1) ls n s = if (goB (brR d) (qsS n s) ls).1 < 0 then goB (brR d) (qsS n s) ls else if 60 ≤ (goB (brR d) (qsS n s) ls).2.length then (-3, (goB (brR d) (qsS n s) ls).2) else match fdS n s with
    | none => (-2, (goB (brR d) (qsS n s) ls).2)
    | some l => (((goB (brR d) (qsS n s) ls).2.length : Int), (goB (brR d) (qsS n s) ls).2 ++ [l]) := by
  conv => lhs; unfold brR
/-! ### both alike -/
/-- alike, or refused both -/
def alk (c r : Int × List LN) : Prop := (0 ≤ c.1 ∧ c = r) ∨ (c.1 < 0 ∧ r.1 < 0)
theorem goB_alk {C R : List LN → Int → Int → Int × List LN} (h : ∀ ls q s, alk (C ls q s) (R ls q s)) : ∀ (qs : List Int) (ls : List LN), alk (goB C qs ls) (goB R qs ls)
  | [], ls => Or.inl ⟨Int.le_refl 0, rfl⟩
  | q :: qs, ls => by
    unfold goB
    by_cases a : 0 ≤ ahS ls (rtS ls) ls.length q
    · rw [if_pos a, if_pos a]; exact goB_alk h qs ls
    · rw [if_neg a, if_neg a]
      rcases h ls q (sortQ q) with ⟨x, y⟩ | ⟨x, y⟩
      · rw [← y, if_neg (by omega), if_neg (by omega)]; exact goB_alk h qs _
      · rw [if_pos x, if_pos y]; exact Or.inr ⟨x, y⟩
theorem br_alk : ∀ (d : Nat) (ls : List LN) (n s : Int), alk (brC d ls n s) (brR d ls n s)
  | 0, ls, n, s => Or.inr ⟨by show (-3 : Int) < 0; omega, by show (-3 : Int) < 0; omega⟩
  | d + 1, ls, n, s => by
    rw [brC_u, brR_u]
    cases fd : fdS n s with
    | none =>
      refine Or.inr ⟨by show (-2 : Int) < 0; omega, ?_⟩
      by_cases c : (goB (brR d) (qsS n s) ls).1 < 0
      · rw [if_pos c]; exact c
      · rw [if_neg c]
        by_cases f : 60 ≤ (goB (brR d) (qsS n s) ls).2.length
        · rw [if_pos f]; show (-3 : Int) < 0; omega
        · rw [if_neg f]; show (-2 : Int) < 0; omega
    | some l =>
      have g := goB_alk (fun ls q s => br_alk d ls q s) (qsS n s) ls
      rcases g with ⟨x, y⟩ | ⟨x, y⟩
      · rw [← y]
        show alk (if (goB (brC d) (qsS n s) ls).1 < 0 then goB (brC d) (qsS n s) ls else if 60 ≤ (goB (brC d) (qsS n s) ls).2.length then (-3, (goB (brC d) (qsS n s) ls).2) else (((goB (brC d) (qsS n s) ls).2.length : Int), (goB (brC d) (qsS n s) ls).2 ++ [l])) (if (goB (brC d) (qsS n s) ls).1 < 0 then goB (brC d) (qsS n s) ls else if 60 ≤ (goB (brC d) (qsS n s) ls).2.length then (-3, (goB (brC d) (qsS n s) ls).2) else (((goB (brC d) (qsS n s) ls).2.length : Int), (goB (brC d) (qsS n s) ls).2 ++ [l]))
        rw [if_neg (by omega)]
        by_cases f : 60 ≤ (goB (brC d) (qsS n s) ls).2.length
        · rw [if_pos f]; exact Or.inr ⟨by show (-3 : Int) < 0; omega, by show (-3 : Int) < 0; omega⟩
        · rw [if_neg f]; exact Or.inl ⟨by show (0 : Int) ≤ ((goB (brC d) (qsS n s) ls).2.length : Int); omega, rfl⟩
      · refine Or.inr ⟨?_, ?_⟩
        · show (if (goB (brC d) (qsS n s) ls).1 < 0 then goB (brC d) (qsS n s) ls else _).1 < 0
          rw [if_pos x]; exact x
        · rw [if_pos y]; exact y
/-- each prime of a hundred and more that a line may rest on has a base: to be shown by numbers (the class needs it for the code of a refusal) -/
def PRok : Prop := ∀ q n : Int, isP q → 100 ≤ q → q ≤ 500000001 → isP n → okN n → (q ∣ n - 1 ∨ q ∣ n + 1) → fdS q 1 ≠ none
theorem fd_small {q : Int} (ip : isP q) (h : q < 100) : fdS q 0 ≠ none := by
  unfold fdS
  rw [if_pos (prS_t ip), if_pos rfl, if_pos h]
  exact fun z => by cases z
theorem goB_eq {k : Nat} {T : Int → Prop} {C R : List LN → Int → Int → Int × List LN} (h : ∀ ls q, CQ k q → T q → C ls q (sortQ q) = R ls q (sortQ q)) : ∀ (qs : List Int) (ls : List LN), (∀ q ∈ qs, CQ k q ∧ T q) → goB C qs ls = goB R qs ls
  | [], ls, _ => rfl
  | q :: qs, ls, hq => by
    unfold goB
    rw [h ls q (hq q List.mem_cons_self).1 (hq q List.mem_cons_self).2, goB_eq h qs ls fun x hx => hq x (List.mem_cons_of_mem _ hx), goB_eq h qs _ fun x hx => hq x (List.mem_cons_of_mem _ hx)]
theorem qs_dv {n s : Int} (nb : nbOK n) (hs : 1 ≤ s ∧ s ≤ 4) {q : Int} (h : q ∈ qsS n s) : q ∣ n - 1 ∨ q ∣ n + 1 := by
  obtain ⟨D, U, ly, mD, mU, -⟩ := ly_form (n := n) hs
  unfold qsS at h
  rw [if_neg (by omega), ly] at h
  obtain ⟨r, hr, rfl⟩ := List.mem_map.mp h
  rcases List.mem_append.mp hr with hr | hr
  · obtain ⟨x, hx, rfl⟩ := List.mem_map.mp hr
    have := nb_lo1 nb (mD x hx)
    exact Or.inl this.2.2.2.1
  · obtain ⟨x, hx, rfl⟩ := List.mem_map.mp hr
    have := nb_hi1 nb (mU x hx)
    exact Or.inr this.2.2.2.1
theorem qs_half {n s : Int} (ip : isP n) (hn : okN n) (hs : 0 ≤ s ∧ s ≤ 4) (two : s = 0 ∨ n ≠ 2) : ∀ q ∈ qsS n s, q ≤ 500000001 ∧ (q ∣ n - 1 ∨ q ∣ n + 1) := by
  intro q hq
  by_cases s0 : s = 0
  · unfold qsS at hq
    rw [if_pos s0] at hq
    exact absurd hq List.not_mem_nil
  · have nb := isP_nb hn ip (two.resolve_left s0)
    obtain ⟨a, b⟩ := qs_ok nb ⟨by omega, hs.2⟩ hq
    have := hn.2
    exact ⟨by omega, qs_dv nb ⟨by omega, hs.2⟩ hq⟩
theorem br_eq (hP : PRok) : ∀ (k : Nat) (ls : List LN) (n s : Int), okN n → (0 ≤ s ∧ s ≤ 4) → n ≤ 2 ^ k → fdS n s ≠ none → brC (k + 1) ls n s = brR (k + 1) ls n s
  | 0, ls, n, s, hn, hs, hk, _ => by have := hn.1; rw [Int.pow_zero] at hk; omega
  | k + 1, ls, n, s, hn, hs, hk, hf => by
    rw [brC_u, brR_u]
    cases fd : fdS n s with
    | none => exact absurd fd hf
    | some l =>
      have P := fd_P fd
      have cq := qs_CQ P.1 hn hs P.2 hk
      have hq := qs_half P.1 hn hs P.2
      have g : goB (brC (k + 1)) (qsS n s) ls = goB (brR (k + 1)) (qsS n s) ls := goB_eq (k := k) (T := fun q => q ≤ 500000001 ∧ (q ∣ n - 1 ∨ q ∣ n + 1)) (fun ls q c c2 => br_eq hP k ls q (sortQ q) c.2.1 (sq_ok q) c.2.2 (by
        unfold sortQ
        by_cases z : q < 100
        · rw [if_pos z]; exact fd_small c.1 z
        · rw [if_neg z]; exact hP q n c.1 (by omega) c2.1 P.1 hn c2.2)) (qsS n s) ls fun q hx => ⟨cq q hx, hq q hx⟩
      rw [g]
