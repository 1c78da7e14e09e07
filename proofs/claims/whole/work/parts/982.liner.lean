/-! the reference reads rows, a line -/
def RKm (K : Nat) (b j : Int) : Prop := GKr b j ∨ MK K b j
theorem RKm.mut {K : Nat} {b j : Int} (z : RKm K b j) : Mut b j := by
  rcases z with z | z
  · exact z.mut
  · exact z.mut
section LINER
variable {tp : List Int} {K : Nat}
theorem RQt.mk {h h' : AH} {T : T3} {w : Int} (R : RQt h tp T w) (F : Fr (MK K) h h') : RQt h' tp T w := R.fr F fun b j z => ⟨z.mut, by unfold MK at z; omega, by unfold MK at z; omega⟩
theorem LM.gk {h h' : AH} {l : LN} (L : LM h K l) (F : Fr GKr h h') : LM h' K l := L.fr F fun b j y z => by unfold MK at y; unfold GKr at z; omega
theorem RQt.dead {h : AH} {T : T3} {w : Nat} (R : RQt h tp T (w : Int)) : hCe h 27 30 ≠ -1 := by rw [R.2.2.2.2.2.2.2.1]; omega
/-- how the reading of rows can end -/
def RE (tp : List Int) (K : Nat) (o : Option AH) (h : AH) (r : Option (List RW) × T3) (mk : List RW → LN) : Prop := ∃ h', o = some h' ∧ Fr (RKm K) h h' ∧ (∀ rs, r.1 = some rs → RQt h' tp r.2 (-1) ∧ LM h' K (mk rs)) ∧ (r.1 = none → RQt h' tp r.2 (r.2.2.1 : Int) ∨ (RQt h' tp r.2 (-1) ∧ r.2.1 = 2 ∧ ∃ d, LM h' K (mk d)))
theorem RE.tr {o : Option AH} {h h1 : AH} {r : Option (List RW) × T3} {mk : List RW → LN} (F : Fr (RKm K) h h1) (c : RE tp K o h1 r mk) : RE tp K o h r mk := by
  obtain ⟨h', e, F', a, b⟩ := c
  exact ⟨h', e, F.tr F', a, b⟩
theorem RE.dead {h : AH} {T : T3} {mk : List RW → LN} (R : RQt h tp T (T.2.1 : Int)) : RE tp K (some h) h (none, T) mk := ⟨h, rfl, Fr.rf, fun rs z => (by cases z), fun _ => Or.inl R⟩
theorem d_31 {h : AH} (H : Sh h) (w : hCe h 27 30 ≠ -1) {Ki v2 : Int} (f : Nat) : R_readsDowns_31 (fun a0 a1 a2 h0 => R_readsDowns_0 (f + 1) a0 a1 a2 h0) 27 Ki v2 h = some h := by
  have d65 : ∀ a b c : Int, R_readsDowns_65 (fun a0 a1 a2 h0 => R_readsDowns_0 (f + 1) a0 a1 a2 h0) 27 Ki v2 a b c h = some h := fun a b c => by
    unfold R_readsDowns_65
    refine gB H.t27 ?_
    exact ifF w (d_downs H w f)
  unfold R_readsDowns_31
  refine gB H.t27 ?_
  refine cB (d_int H w) ?_
  refine gB H.t27 ?_
  refine cB (d_int H w) ?_
  by_cases q : 0 < v2
  · exact ifT q (d65 _ _ _)
  · refine ifF q ?_
    refine gB H.t27 ?_
    exact cB (d_int H w) (d65 _ _ _)
theorem rdn (hK : K ≤ 115) {v2 m : Int} (hm : m = if 0 < v2 then v2 else -1) {hd : Int × Int × Int × Int} {u : List RW} : ∀ (n f : Nat) (h : AH) (T : T3) (d : List RW), d.length + n = 9 → n < f → RQt h tp T (-1) → LM h K (hd, d, u) → RE tp K (R_readsDowns_0 (f + 1) 27 K v2 h) h (rwP tp m n d T) fun rs => (hd, rs, u) := by
  intro n
  induction n with
  | zero =>
    intro f h T d hn hf R L
    obtain ⟨f, rfl, -⟩ := fu_pos hf
    have H := R.1
    have pre : ∀ {r}, (if rtk tp T = 2 then ((R_fails 27 h).bind fun h6 => R_readsDowns_31 (fun a0 a1 a2 h0 => R_readsDowns_0 (f + 1) a0 a1 a2 h0) 27 K v2 h6) else some h) = r → R_readsDowns_0 (f + 1 + 1) 27 K v2 h = r := by
      rintro r rfl
      conv => lhs; unfold R_readsDowns_0
      refine gB H.t27 ?_
      rw [R.2.2.2.2.2.2.2.1]
      refine ifT rfl ?_
      refine gB H.t27 ?_
      rw [R.2.2.1]
      by_cases q : rtk tp T = 2
      · rw [if_pos q, if_pos q]
        refine gB H.t27 ?_
        rw [H.p27_12]
        refine gB ⟨H.t37, by omega, by rw [H.l37]; omega⟩ ?_
        have l1 : hCe h 37 K = (d.length : Int) := L.2.1.1
        rw [l1]
        refine ifT (by omega) ?_
        exact gB H.t27 rfl
      · rw [if_neg q, if_neg q]
    rw [pre rfl]
    unfold rwP
    by_cases q : rtk tp T = 2
    · rw [if_pos q, if_pos (rtk_2.mp q).1]
      obtain ⟨h1, e1, R1, F1⟩ := s_fails R
      rw [e1, Option.bind_some, d_31 R1.1 R1.dead]
      exact RE.tr (F1.mo fun b j z => Or.inl z) (RE.dead R1)
    · rw [if_neg q]
      by_cases k2 : T.1 = 2
      · rw [if_pos k2]
        exact ⟨h, rfl, Fr.rf, fun rs z => (by cases z), fun _ => Or.inr ⟨R, k2, d, L⟩⟩
      · rw [if_neg k2]
        exact ⟨h, rfl, Fr.rf, fun rs z => (by injection z with z; rw [← z]; exact ⟨R, L⟩), fun z => (by cases z)⟩
  | succ n ih =>
    intro f h T d hn hf R L
    obtain ⟨f, rfl, hf⟩ := fu_pos hf
    have H := R.1
    have pre : ∀ {r}, (if rtk tp T = 2 then R_readsDowns_31 (fun a0 a1 a2 h0 => R_readsDowns_0 (f + 1) a0 a1 a2 h0) 27 K v2 h else some h) = r → R_readsDowns_0 (f + 1 + 1) 27 K v2 h = r := by
      rintro r rfl
      conv => lhs; unfold R_readsDowns_0
      refine gB H.t27 ?_
      rw [R.2.2.2.2.2.2.2.1]
      refine ifT rfl ?_
      refine gB H.t27 ?_
      rw [R.2.2.1]
      by_cases q : rtk tp T = 2
      · rw [if_pos q, if_pos q]
        refine gB H.t27 ?_
        rw [H.p27_12]
        refine gB ⟨H.t37, by omega, by rw [H.l37]; omega⟩ ?_
        have l1 : hCe h 37 K = (d.length : Int) := L.2.1.1
        rw [l1]
        exact ifF (by omega) rfl
      · rw [if_neg q, if_neg q]
    rw [pre rfl]
    unfold rwP
    by_cases k2 : T.1 = 2
    · rw [if_pos k2]
      by_cases q : rtk tp T = 2
      · rw [if_pos q]
        obtain ⟨h1, e1, R1, F1⟩ := s_needsInt R (lo := 2) (hi := 1000000000) (by omega) (by omega)
        have L1 := L.gk F1
        refine RE.tr (F1.mo fun b j z => Or.inl z) ?_
        have d65 : ∀ {h2 : AH}, Sh h2 → hCe h2 27 30 ≠ -1 → ∀ a b c : Int, R_readsDowns_65 (fun a0 a1 a2 h0 => R_readsDowns_0 (f + 1) a0 a1 a2 h0) 27 K v2 a b c h2 = some h2 := fun {h2} H2 w a b c => by
          unfold R_readsDowns_65
          refine gB H2.t27 ?_
          exact ifF w (d_downs H2 w f)
        have nx : ∀ {h2 : AH} {T2 : T3} {q e b : Int}, RQt h2 tp T2 (-1) → LM h2 K (hd, d, u) → RE tp K (R_readsDowns_65 (fun a0 a1 a2 h0 => R_readsDowns_0 (f + 1) a0 a1 a2 h0) 27 K v2 q e b h2) h2 (rwP tp m n (d ++ [(q, e, b)]) T2) fun rs => (hd, rs, u) := by
          intro h2 T2 q e b R2 L2
          obtain ⟨h3, e3, F3, L3⟩ := s_addsDown R2.1 hK L2 (by show d.length < 9; omega) (q := q) (e := e) (a := b)
          have := ih f h3 T2 (d ++ [(q, e, b)]) (by rw [List.length_append]; show d.length + 1 + n = 9; omega) (by omega) (R2.mk F3) L3
          refine RE.tr (F3.mo fun b j z => Or.inr z) ?_
          have e4 : R_readsDowns_65 (fun a0 a1 a2 h0 => R_readsDowns_0 (f + 1) a0 a1 a2 h0) 27 K v2 q e b h2 = R_readsDowns_0 (f + 1) 27 K v2 h3 := by
            unfold R_readsDowns_65
            refine gB R2.1.t27 ?_
            rw [R2.2.2.2.2.2.2.2.1]
            refine ifT rfl ?_
            refine gB R2.1.t27 ?_
            exact cB e3 rfl
          rw [e4]
          exact this
        have e31 : ∀ {r}, ((R_needsInt 27 1 30 h1).bind fun u2 => if 0 < v2 then R_readsDowns_65 (fun a0 a1 a2 h0 => R_readsDowns_0 (f + 1) a0 a1 a2 h0) 27 K v2 ((tiP tp 2 1000000000 T).1.getD 2) u2.1 v2 u2.2 else (gd (hTy u2.2 27 = 10) 0).bind fun _ => (R_needsInt 27 2 999 u2.2).bind fun u3 => R_readsDowns_65 (fun a0 a1 a2 h0 => R_readsDowns_0 (f + 1) a0 a1 a2 h0) 27 K v2 ((tiP tp 2 1000000000 T).1.getD 2) u2.1 u3.1 u3.2) = r → R_readsDowns_31 (fun a0 a1 a2 h0 => R_readsDowns_0 (f + 1) a0 a1 a2 h0) 27 K v2 h = r := by
          rintro r rfl
          unfold R_readsDowns_31
          refine gB H.t27 ?_
          refine cB e1 ?_
          exact gB R1.1.t27 rfl
        rw [e31 rfl]
        rcases c1 : tiP tp 2 1000000000 T with ⟨_ | q, T1⟩
        · rw [c1] at R1
          have := (tiP_n c1).1
          subst this
          have w : hCe h1 27 30 ≠ -1 := RQt.dead (w := T1.2.1) R1
          rw [d_int R1.1 w, Option.bind_some]
          dsimp only
          have fin : RE tp K (some h1) h1 (none, T1) fun rs => (hd, rs, u) := RE.dead R1
          by_cases v : 0 < v2
          · rw [if_pos v, d65 R1.1 w]; exact fin
          · rw [if_neg v, gd_y R1.1.t27, Option.bind_some, d_int R1.1 w, Option.bind_some, d65 R1.1 w]; exact fin
        · rw [c1] at R1
          have R1 : RQt h1 tp T1 (-1) := R1
          dsimp only
          obtain ⟨h2, e2, R2, F2⟩ := s_needsInt R1 (lo := 1) (hi := 30) (by omega) (by omega)
          have L2 := L1.gk F2
          refine RE.tr (F2.mo fun b j z => Or.inl z) ?_
          rw [e2, Option.bind_some]
          dsimp only
          rcases c2 : tiP tp 1 30 T1 with ⟨_ | e, T2⟩
          · rw [c2] at R2
            have := (tiP_n c2).1
            subst this
            have w : hCe h2 27 30 ≠ -1 := RQt.dead (w := T2.2.1) R2
            dsimp only
            have fin : RE tp K (some h2) h2 (none, T2) fun rs => (hd, rs, u) := RE.dead R2
            by_cases v : 0 < v2
            · rw [if_pos v, d65 R2.1 w]; exact fin
            · rw [if_neg v, gd_y R2.1.t27, Option.bind_some, d_int R2.1 w, Option.bind_some, d65 R2.1 w]; exact fin
          · rw [c2] at R2
            have R2 : RQt h2 tp T2 (-1) := R2
            dsimp only
            by_cases v : 0 < v2
            · rw [if_pos v] at hm ⊢
              rw [if_neg (show ¬ m = -1 by omega), hm]
              have := nx (q := q) (e := e) (b := v2) R2 L2
              rw [hm] at this
              exact this
            · rw [if_neg v] at hm ⊢
              rw [if_pos hm, gd_y R2.1.t27, Option.bind_some]
              obtain ⟨h3, e3, R3, F3⟩ := s_needsInt R2 (lo := 2) (hi := 999) (by omega) (by omega)
              have L3 := L2.gk F3
              refine RE.tr (F3.mo fun b j z => Or.inl z) ?_
              rw [e3, Option.bind_some]
              dsimp only
              rcases c3 : tiP tp 2 999 T2 with ⟨_ | b, T3'⟩
              · rw [c3] at R3
                have := (tiP_n c3).1
                subst this
                have w : hCe h3 27 30 ≠ -1 := RQt.dead (w := T3'.2.1) R3
                dsimp only
                rw [d65 R3.1 w]
                exact RE.dead R3
              · rw [c3] at R3
                have R3 : RQt h3 tp T3' (-1) := R3
                exact nx (q := q) (e := e) (b := b) R3 L3
      · rw [if_neg q]
        have no : tiP tp 2 1000000000 T = (none, T) := by
          unfold tiP
          rw [if_neg]
          intro z
          exact q (rtk_2.mpr ⟨z.1, z.2.1⟩)
        rw [no]
        exact ⟨h, rfl, Fr.rf, fun rs z => (by cases z), fun _ => Or.inr ⟨R, k2, d, L⟩⟩
    · rw [if_neg k2, if_neg (fun z => k2 (rtk_2.mp z).1)]
      exact ⟨h, rfl, Fr.rf, fun rs z => (by injection z with z; rw [← z]; exact ⟨R, L⟩), fun z => (by cases z)⟩
theorem d_u31 {h : AH} (H : Sh h) (w : hCe h 27 30 ≠ -1) {Ki : Int} (f : Nat) : R_readsUps_31 (fun a0 a1 h0 => R_readsUps_0 (f + 1) a0 a1 h0) 27 Ki h = some h := by
  unfold R_readsUps_31
  refine gB H.t27 ?_
  refine cB (d_int H w) ?_
  refine gB H.t27 ?_
  refine cB (d_int H w) ?_
  refine gB H.t27 ?_
  exact ifF w (d_ups H w f)
theorem rup (hK : K ≤ 115) {hd : Int × Int × Int × Int} {dn : List RW} : ∀ (n f : Nat) (h : AH) (T : T3) (d : List RW), d.length + n = 9 → n < f → RQt h tp T (-1) → LM h K (hd, dn, d) → RE tp K (R_readsUps_0 (f + 1) 27 K h) h (rwP tp 0 n d T) fun rs => (hd, dn, rs) := by
  intro n
  induction n with
  | zero =>
    intro f h T d hn hf R L
    obtain ⟨f, rfl, -⟩ := fu_pos hf
    have H := R.1
    have pre : ∀ {r}, (if rtk tp T = 2 then ((R_fails 27 h).bind fun h6 => R_readsUps_31 (fun a0 a1 h0 => R_readsUps_0 (f + 1) a0 a1 h0) 27 K h6) else some h) = r → R_readsUps_0 (f + 1 + 1) 27 K h = r := by
      rintro r rfl
      conv => lhs; unfold R_readsUps_0
      refine gB H.t27 ?_
      rw [R.2.2.2.2.2.2.2.1]
      refine ifT rfl ?_
      refine gB H.t27 ?_
      rw [R.2.2.1]
      by_cases q : rtk tp T = 2
      · rw [if_pos q, if_pos q]
        refine gB H.t27 ?_
        rw [H.p27_13]
        refine gB ⟨H.t38, by omega, by rw [H.l38]; omega⟩ ?_
        have l1 : hCe h 38 K = (d.length : Int) := L.2.2.1
        rw [l1]
        refine ifT (by omega) ?_
        exact gB H.t27 rfl
      · rw [if_neg q, if_neg q]
    rw [pre rfl]
    unfold rwP
    by_cases q : rtk tp T = 2
    · rw [if_pos q, if_pos (rtk_2.mp q).1]
      obtain ⟨h1, e1, R1, F1⟩ := s_fails R
      rw [e1, Option.bind_some, d_u31 R1.1 R1.dead]
      exact RE.tr (F1.mo fun b j z => Or.inl z) (RE.dead R1)
    · rw [if_neg q]
      by_cases k2 : T.1 = 2
      · rw [if_pos k2]
        exact ⟨h, rfl, Fr.rf, fun rs z => (by cases z), fun _ => Or.inr ⟨R, k2, d, L⟩⟩
      · rw [if_neg k2]
        exact ⟨h, rfl, Fr.rf, fun rs z => (by injection z with z; rw [← z]; exact ⟨R, L⟩), fun z => (by cases z)⟩
  | succ n ih =>
    intro f h T d hn hf R L
    obtain ⟨f, rfl, hf⟩ := fu_pos hf
    have H := R.1
    have pre : ∀ {r}, (if rtk tp T = 2 then R_readsUps_31 (fun a0 a1 h0 => R_readsUps_0 (f + 1) a0 a1 h0) 27 K h else some h) = r → R_readsUps_0 (f + 1 + 1) 27 K h = r := by
      rintro r rfl
      conv => lhs; unfold R_readsUps_0
      refine gB H.t27 ?_
      rw [R.2.2.2.2.2.2.2.1]
      refine ifT rfl ?_
      refine gB H.t27 ?_
      rw [R.2.2.1]
      by_cases q : rtk tp T = 2
      · rw [if_pos q, if_pos q]
        refine gB H.t27 ?_
        rw [H.p27_13]
        refine gB ⟨H.t38, by omega, by rw [H.l38]; omega⟩ ?_
        have l1 : hCe h 38 K = (d.length : Int) := L.2.2.1
        rw [l1]
        exact ifF (by omega) rfl
      · rw [if_neg q, if_neg q]
    rw [pre rfl]
    unfold rwP
    by_cases k2 : T.1 = 2
    · rw [if_pos k2]
      by_cases q : rtk tp T = 2
      · rw [if_pos q]
        obtain ⟨h1, e1, R1, F1⟩ := s_needsInt R (lo := 2) (hi := 1000000000) (by omega) (by omega)
        have L1 := L.gk F1
        refine RE.tr (F1.mo fun b j z => Or.inl z) ?_
        have e31 : ∀ {r}, ((R_needsInt 27 1 30 h1).bind fun u2 => (gd (hTy u2.2 27 = 10) (hCe u2.2 27 30)).bind fun u3 => if u3 = (-1 : Int) then (gd (hTy u2.2 27 = 10) 0).bind fun _ => (R_addsUp 27 K ((tiP tp 2 1000000000 T).1.getD 2) u2.1 u2.2).bind fun h5 => R_readsUps_0 (f + 1) 27 K h5 else R_readsUps_0 (f + 1) 27 K u2.2) = r → R_readsUps_31 (fun a0 a1 h0 => R_readsUps_0 (f + 1) a0 a1 h0) 27 K h = r := by
          rintro r rfl
          unfold R_readsUps_31
          refine gB H.t27 ?_
          refine cB e1 ?_
          exact gB R1.1.t27 rfl
        rw [e31 rfl]
        rcases c1 : tiP tp 2 1000000000 T with ⟨_ | q, T1⟩
        · rw [c1] at R1
          have := (tiP_n c1).1
          subst this
          have w : hCe h1 27 30 ≠ -1 := RQt.dead (w := T1.2.1) R1
          rw [d_int R1.1 w, Option.bind_some]
          dsimp only
          rw [gd_y R1.1.t27, Option.bind_some, if_neg w, d_ups R1.1 w]
          exact RE.dead R1
        · rw [c1] at R1
          have R1 : RQt h1 tp T1 (-1) := R1
          dsimp only
          obtain ⟨h2, e2, R2, F2⟩ := s_needsInt R1 (lo := 1) (hi := 30) (by omega) (by omega)
          have L2 := L1.gk F2
          refine RE.tr (F2.mo fun b j z => Or.inl z) ?_
          rw [e2, Option.bind_some]
          dsimp only
          rcases c2 : tiP tp 1 30 T1 with ⟨_ | e, T2⟩
          · rw [c2] at R2
            have := (tiP_n c2).1
            subst this
            have w : hCe h2 27 30 ≠ -1 := RQt.dead (w := T2.2.1) R2
            dsimp only
            rw [gd_y R2.1.t27, Option.bind_some, if_neg w, d_ups R2.1 w]
            exact RE.dead R2
          · rw [c2] at R2
            have R2 : RQt h2 tp T2 (-1) := R2
            dsimp only
            obtain ⟨h3, e3, F3, L3⟩ := s_addsUp R2.1 hK L2 (by show d.length < 9; omega) (q := q) (e := e) (a := 0)
            have := ih f h3 T2 (d ++ [(q, e, 0)]) (by rw [List.length_append]; show d.length + 1 + n = 9; omega) (by omega) (R2.mk F3) L3
            rw [gd_y R2.1.t27, Option.bind_some, if_pos R2.2.2.2.2.2.2.2.1, gd_y R2.1.t27, Option.bind_some, Option.getD_some, Option.getD_some, e3, Option.bind_some]
            exact RE.tr (F3.mo fun b j z => Or.inr z) this
      · rw [if_neg q]
        have no : tiP tp 2 1000000000 T = (none, T) := by
          unfold tiP
          rw [if_neg]
          intro z
          exact q (rtk_2.mpr ⟨z.1, z.2.1⟩)
        rw [no]
        exact ⟨h, rfl, Fr.rf, fun rs z => (by cases z), fun _ => Or.inr ⟨R, k2, d, L⟩⟩
    · rw [if_neg k2, if_neg (fun z => k2 (rtk_2.mp z).1)]
      exact ⟨h, rfl, Fr.rf, fun rs z => (by injection z with z; rw [← z]; exact ⟨R, L⟩), fun z => (by cases z)⟩
/-! a line -/
def RO (tp : List Int) (K : Nat) (o : Option AH) (h : AH) (r : Option LN × T3) : Prop := ∃ h', o = some h' ∧ Fr (RKm K) h h' ∧ (∀ l, r.1 = some l → RQt h' tp r.2 (-1) ∧ LM h' K l) ∧ (r.1 = none → RQt h' tp r.2 (r.2.2.1 : Int))
theorem RO.tr {o : Option AH} {h h1 : AH} {r : Option LN × T3} (F : Fr (RKm K) h h1) (c : RO tp K o h1 r) : RO tp K o h r := by
  obtain ⟨h', e, F', a, b⟩ := c
  exact ⟨h', e, F.tr F', a, b⟩
theorem RO.dead {h : AH} {T : T3} (R : RQt h tp T (T.2.1 : Int)) : RO tp K (some h) h (none, T) := ⟨h, rfl, Fr.rf, fun rs z => (by cases z), fun _ => R⟩
theorem l_165 {h : AH} {T : T3} {l : LN} (R : RQt h tp T (-1)) (L : LM h K l) : RO tp K (R_readsLine_165 27 h) h (p165 tp l T) := by
  have H := R.1
  have wt := R.2.2.2.2.2.2.2.2
  have pre : ∀ {r}, (if rtk tp T = 3 then R_goesOn 27 h else R_fails 27 h) = r → R_readsLine_165 27 h = r := by
    rintro r rfl
    unfold R_readsLine_165
    refine gB H.t27 ?_
    rw [R.2.2.2.2.2.2.2.1]
    refine ifT rfl ?_
    refine gB H.t27 ?_
    rw [R.2.2.1]
    by_cases q : rtk tp T = 3
    · rw [if_pos q, if_pos q]
      refine gB H.t27 ?_
      cases R_goesOn 27 h <;> rfl
    · rw [if_neg q, if_neg q]
      refine gB H.t27 ?_
      cases R_fails 27 h <;> rfl
  rw [pre rfl]
  unfold p165 teP
  by_cases q : T.1 = 3 ∧ tA tp T.2.1 = 59
  · rw [if_pos q, if_pos ((rtk_3 wt).mpr q)]
    obtain ⟨h', e, R', F⟩ := R.nx fun z => by omega
    rw [e]
    exact ⟨h', rfl, F.mo fun b j z => Or.inl z, fun l' z => (by injection z with z; rw [← z]; exact ⟨R', L.gk F⟩), fun z => (by cases z)⟩
  · rw [if_neg q, if_neg (fun z => q ((rtk_3 wt).mp z))]
    obtain ⟨h', e, R', F⟩ := s_fails R
    rw [e]
    exact RO.tr (F.mo fun b j z => Or.inl z) (RO.dead R')
theorem p165_2 {l : LN} {T : T3} (k2 : T.1 = 2) : p165 tp l T = (none, T) := by
  unfold p165 teP mBW
  rw [if_neg (show ¬ (T.1 = 3 ∧ tA tp T.2.1 = 59) from fun z => by have := z.1; omega)]
  rfl
theorem RE.go {o : Option AH} {h : AH} {r : Option (List RW) × T3} {mk : List RW → LN} (c : RE tp K o h r mk) {F : AH → Option AH} {f : List RW → T3 → Option LN × T3} (F1 : ∀ h1 rs, RQt h1 tp r.2 (-1) → LM h1 K (mk rs) → RO tp K (F h1) h1 (f rs r.2)) (F2 : ∀ h1, Sh h1 → hCe h1 27 30 ≠ -1 → F h1 = some h1) (F3 : ∀ rs, r.2.1 = 2 → f rs r.2 = (none, r.2)) : RO tp K (o.bind F) h (mBI r f) := by
  obtain ⟨h', e, Fr', a, b⟩ := c
  rw [e, Option.bind_some]
  refine RO.tr Fr' ?_
  cases z : r.1 with
  | some rs =>
    rw [mBI_v z]
    exact F1 h' rs (a rs z).1 (a rs z).2
  | none =>
    rw [mBI_n z]
    rcases b z with R | ⟨R, k2, d, L⟩
    · rw [F2 h' R.1 R.dead]
      exact RO.dead R
    · have := F1 h' d R L
      rw [F3 d k2] at this
      exact this
theorem RO.word {h : AH} {T : T3} {l : LN} (R : RQt h tp T (-1)) (L : LM h K l) (k : Nat) (hk : k < 10) {k' : Int} (ek : k' = (k : Int)) {F : AH → Option AH} {f : T3 → Option LN × T3} (F1 : ∀ h1, RQt h1 tp (twP tp k T).2 (-1) → LM h1 K l → RO tp K (F h1) h1 (f (twP tp k T).2)) (F2 : ∀ h1, Sh h1 → hCe h1 27 30 ≠ -1 → F h1 = some h1) : RO tp K ((R_needsWord 27 k' h).bind F) h (mBW (twP tp k T) f) := by
  subst ek
  obtain ⟨h1, e1, R1, A1⟩ := s_needsWord R hk
  rw [e1, Option.bind_some]
  refine RO.tr (A1.mo fun b j z => Or.inl z) ?_
  unfold mBW
  cases c : (twP tp k T).1 with
  | true =>
    rw [if_pos rfl]
    rw [c, if_pos rfl] at R1
    exact F1 h1 R1 (L.gk A1)
  | false =>
    rw [if_neg (by decide)]
    rw [c, if_neg (by decide)] at R1
    rw [F2 h1 R1.1 R1.dead]
    have : (twP tp k T).2 = T := by
      unfold twP at c ⊢
      split at c
      · cases c
      · rename_i q; rw [if_neg q]
    rw [this] at R1 ⊢
    exact RO.dead R1
end LINER
