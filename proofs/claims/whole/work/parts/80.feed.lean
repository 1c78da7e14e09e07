/-! find, proof, feed -/
theorem q_find (hM : MRok) (hP : PRok) (n s : Int) : sim (fun h => X_find 0 n s h) (fun h => R_find 27 n s h) := mk_sim fun ls tp ok => by
  refine ⟨(fiC ls n s).1, (fiC ls n s).2, tp, xC.bp fun h hw dw U => ?_, fun h m => ?_⟩
  · obtain ⟨h', hw', dw', e, U', G⟩ := s_find hM U n s
    exact ⟨h', hw', dw', e, U', G⟩
  · obtain ⟨h', e, H', M', F⟩ := s_Rfind m.1 m.2.1 n s
    rw [fi_eq hP]
    exact ⟨h', e, ⟨H', M', (F.2 _ _ (by unfold RKK; omega)).trans m.2.2.1, m.2.2.2.1, m.2.2.2.2.1, fun i hi => (F.2 _ _ (by unfold RKK; omega)).trans (m.2.2.2.2.2 i hi)⟩, F.mo fun b j z => ⟨z.mut, by unfold RKK at z; omega⟩⟩
/-- both do it; the answers may differ -/
def simW (X R : AH → Option (Int × AH)) : Prop := ∀ h ls tp, XS h ls tp → MS h ls tp → ∃ r r' h1 h2 ls' tp', X h = some (r, h1) ∧ R h1 = some (r', h2) ∧ Sh h1 ∧ XS h2 ls' tp' ∧ MS h2 ls' tp'
theorem q_findW (hM : MRok) (n s : Int) : simW (fun h => X_find 0 n s h) (fun h => R_find 27 n s h) := by
  intro h ls tp x m
  obtain ⟨⟨hw, dw, U⟩, t⟩ := x
  obtain ⟨h1, hw', dw', e, U', G⟩ := s_find hM U n s
  have m1 := m.gr (G.mo fun b j => BP.cz) U'.1.1
  obtain ⟨h2, e2, H', M', F⟩ := s_Rfind m1.1 m1.2.1 n s
  refine ⟨_, _, h1, h2, (fiC ls n s).2, tp, e, e2, U'.1.1, XS.frS ⟨⟨hw', dw', U'⟩, t.bp G U.1.1⟩ F fun b j z => ⟨z.mut, by unfold RKK at z; omega⟩, ?_⟩
  rw [(fi_state ls n s).1]
  exact ⟨H', M', (F.2 _ _ (by unfold RKK; omega)).trans m1.2.2.1, m1.2.2.2.1, m1.2.2.2.2.1, fun i hi => (F.2 _ _ (by unfold RKK; omega)).trans (m1.2.2.2.2.2 i hi)⟩
/-! ### proof -/
theorem q_proof (n : Int) : sim (fun h => lft (X_proof 0 n h) h) (fun h => R_proof 27 n h) := mk_sim fun ls tp ok => by
  have l60 := ok.1
  by_cases q : 2 ≤ n ∧ n ≤ 1000000000
  · refine ⟨if ahS ls (rtS ls) ls.length n = -1 then -2 else ahS ls (rtS ls) ls.length n, ls, tp, xC.keep fun h hw dw U t => lft_s ?_, rC.lay fun h h' m e m' L => ?_⟩
    · obtain ⟨C, S, m, B⟩ := U
      have H := C.1
      unfold X_proof
      refine num_if ?_
      rw [if_pos q]
      refine gB H.t0 ?_
      rw [H.p0_0]
      refine gB H.t1 ?_
      refine cB (s_leastFor C (C.m63 (k := 0) B.2.1) B.1) ?_
      rw [ahS_g (ls' := ls) (R' := rtS ls) fun i hi => ⟨B.2.2 i hi, rfl⟩]
      rcases ah_rng ls (rtS ls) ls.length n with z | z
      · refine ifT (by omega) ?_; rw [if_pos z]
      · refine ifF (by omega) ?_; rw [if_neg (by omega)]
    · show R_proof 27 n h = _
      unfold R_proof
      refine rnum_if ?_
      rw [if_pos q]
      refine gB m.1.t27 ?_
      refine cB e ?_
      refine gB m'.1.t27 ?_
      refine gB m'.1.t27 ?_
      rw [m'.2.1.1]
      refine cB (s_lineFor m'.1 (by omega) fun j hj => m'.2.1.num hj) ?_
      rw [ahS_g (ls' := ls) (R' := rtS ls) fun i hi => ⟨L.rr i hi, rfl⟩]
      by_cases z : ahS ls (rtS ls) ls.length n = -1
      · rw [if_pos z, if_pos z]
      · rw [if_neg z, if_neg z]
  · refine ⟨-1, ls, tp, xC.keep fun h hw dw U t => lft_s ?_, rC.keep fun h m => ?_⟩
    · unfold X_proof
      refine num_if ?_
      rw [if_neg q]
    · show R_proof 27 n h = _
      unfold R_proof
      refine rnum_if ?_
      rw [if_neg q]
/-! ### bytes -/
theorem lo255 : ∀ i : Nat, i < 32 → 8 ≤ i → (255#32 : BitVec 32).getLsbD i = false := by decide
theorem sb_and (x : BitVec 32) {s : Nat} (hs : s ≤ 24) : x.sshiftRight s &&& 255#32 = x >>> s &&& 255#32 := by
  refine BitVec.eq_of_getLsbD_eq fun i hi => ?_
  rw [BitVec.getLsbD_and, BitVec.getLsbD_and]
  by_cases q : i < 8
  · rw [BitVec.getLsbD_sshiftRight, BitVec.getLsbD_ushiftRight, if_pos (by omega), decide_eq_false (by omega)]
    rfl
  · rw [lo255 i hi (by omega), Bool.and_false, Bool.and_false]
def byS (v : Int) (s : Nat) : Int := ((Int32.ofInt v).toBitVec >>> s &&& 255#32).toInt
theorem byS_bd (v : Int) (s : Nat) : 0 ≤ byS v s ∧ byS v s ≤ 255 := by
  have h : ((Int32.ofInt v).toBitVec >>> s &&& 255#32).toNat ≤ 255 := by
    rw [BitVec.toNat_and]
    exact Nat.and_le_right
  unfold byS
  rw [BitVec.toInt_eq_toNat_of_lt (by omega)]
  omega
theorem sh_amtU : ∀ b : Nat, b < 32 → ((Int32.ofInt (b : Int)).toUInt32 &&& Int32.toUInt32 31).toBitVec % 32 = BitVec.ofNat 32 b := by decide +kernel
theorem by_s {v : Int} {s : Nat} (hs : s ≤ 24) : andI (shrI v s) 255 = byS v s := by
  unfold andI shrI byS
  rw [Int32.ofInt_toInt]
  show (Int32.ofInt v >>> (Int32.ofInt (s : Int) &&& 31) &&& Int32.ofInt 255).toBitVec.toInt = _
  rw [Int32.toBitVec_and, Int32.toBitVec_shiftRight, sh_amtI s (by omega), BitVec.sshiftRight_eq', BitVec.toNat_ofNat, Nat.mod_eq_of_lt (by omega), show (Int32.ofInt 255).toBitVec = 255#32 from rfl, sb_and _ hs]
theorem by_u {v : Int} {s : Nat} (hs : s ≤ 24) : andI (ushrI v s) 255 = byS v s := by
  unfold andI ushrI byS
  rw [Int32.ofInt_toInt]
  show (((Int32.ofInt v).toUInt32 >>> ((Int32.ofInt (s : Int)).toUInt32 &&& Int32.toUInt32 31)).toInt32 &&& Int32.ofInt 255).toBitVec.toInt = _
  rw [Int32.toBitVec_and, UInt32.toBitVec_toInt32, UInt32.toBitVec_shiftRight, sh_amtU s (by omega), BitVec.ushiftRight_eq', BitVec.toNat_ofNat, Nat.mod_eq_of_lt (by omega)]
  rfl
/-! ### feed -/
theorem TP.push {h : AH} {o f a : Int} {tp : List Int} (t : TP h o f a tp) (ne : a ≠ o) (l : tp.length < 400) {x : Int} (hx : 0 ≤ x ∧ x ≤ 255) : TP (hSet (hSet h a (tp.length : Int) x) o f ((tp.length : Int) + 1)) o f a (tp ++ [x]) := by
  have len : (tp ++ [x]).length = tp.length + 1 := by rw [List.length_append]; rfl
  refine ⟨by rw [cS, len]; rfl, by omega, fun y hy => ?_, fun i hi => ?_⟩
  · rcases List.mem_append.mp hy with y1 | y1
    · exact t.2.2.1 y y1
    · rw [List.mem_singleton.mp y1]; exact hx
  · rw [len] at hi
    rw [cN (Or.inl ne)]
    by_cases q : i = tp.length
    · subst q
      rw [cS, List.getD_eq_getElem?_getD, List.getElem?_append_right (Nat.le_refl _), Nat.sub_self]; rfl
    · rw [cN (by omega), t.2.2.2 i (by omega), List.getD_eq_getElem?_getD, List.getD_eq_getElem?_getD, List.getElem?_append_left (by omega)]
def TK (b j : Int) : Prop := b = 15 ∨ (b = 14 ∧ j = 1)
theorem TK.q {b j : Int} (z : TK b j) : Mut b j ∧ 14 ≤ b ∧ b ≤ 51 := ⟨mutB (by unfold TK at z; unfold MutB; omega), by unfold TK at z; omega⟩
def fbL (v : Int) : List Int := [byS v 24, byS v 16, byS v 8, byS v 0]
theorem ta_step {h : AH} (H : Sh h) {tp : List Int} (t : TP h 14 1 15 tp) (l : tp.length < 400) {v : Int} {s : Nat} (hs : s ≤ 24) (f : Nat) : ∃ h', Tape_append_3 (f + 1) 14 v s h = Tape_append_3 f 14 v ((s : Int) - 8) h' ∧ Fr TK h h' ∧ TP h' 14 1 15 (tp ++ [byS v s]) := by
  have b := byS_bd v s
  have F : Fr TK h (hSet (hSet h 15 (tp.length : Int) (byS v s)) 14 1 ((tp.length : Int) + 1)) := (Fr.set (Or.inl rfl)).setT (Or.inr ⟨rfl, rfl⟩)
  refine ⟨_, ?_, F, t.push (by omega) l b⟩
  conv => lhs; unfold Tape_append_3
  refine ifF (by omega) ?_
  refine gB H.t14 ?_
  rw [t.1]
  refine ifT (by omega) ?_
  refine gB H.t14 ?_
  refine gB H.t14 ?_
  rw [H.p14_0, by_u hs, Int.emod_eq_of_lt (by omega) (by omega)]
  refine gB ⟨⟨H.t15, by omega, by rw [H.l15]; omega⟩, by omega⟩ ?_
  refine gB (by rw [tS]; exact H.t14) ?_
  rw [cN (by omega), t.1, w32_e (z := (tp.length : Int) + 1) (by omega), w32_e (by omega)]
  exact gB (by rw [tS]; exact H.t14) rfl
theorem s_tapeAppend {h : AH} (H : Sh h) {tp : List Int} (t : TP h 14 1 15 tp) (l : tp.length + 4 ≤ 400) (v : Int) : ∃ h', Tape_append 14 v h = some h' ∧ Fr TK h h' ∧ TP h' 14 1 15 (tp ++ fbL v) := by
  obtain ⟨f, hf⟩ : ∃ f, FU = f + 1 + 1 + 1 + 1 + 1 := ⟨_, rfl⟩
  have len : ∀ (l : List Int) (x : Int), (l ++ [x]).length = l.length + 1 := fun l x => by rw [List.length_append]; rfl
  obtain ⟨h1, e1, F1, t1⟩ := ta_step H t (by omega) (v := v) (s := 24) (by omega) (f + 1 + 1 + 1 + 1)
  have H1 := H.fr F1 fun b j z => z.q.1
  obtain ⟨h2, e2, F2, t2⟩ := ta_step H1 t1 (by rw [len]; omega) (v := v) (s := 16) (by omega) (f + 1 + 1 + 1)
  have H2 := H1.fr F2 fun b j z => z.q.1
  obtain ⟨h3, e3, F3, t3⟩ := ta_step H2 t2 (by rw [len, len]; omega) (v := v) (s := 8) (by omega) (f + 1 + 1)
  have H3 := H2.fr F3 fun b j z => z.q.1
  obtain ⟨h4, e4, F4, t4⟩ := ta_step H3 t3 (by rw [len, len, len]; omega) (v := v) (s := 0) (by omega) (f + 1)
  refine ⟨h4, ?_, F1.tr (F2.tr (F3.tr F4)), ?_⟩
  · unfold Tape_append
    rw [hf]
    refine e1.trans (e2.trans (e3.trans (e4.trans ?_)))
    unfold Tape_append_3
    exact ifT (by omega) rfl
  · unfold fbL
    simp only [List.append_assoc, List.cons_append, List.nil_append] at t4
    exact t4
/-- the byte that is told j-th -/
def btS (a b c d e : Int) (j : Nat) : Int := byS (if j < 4 then a else if j < 8 then b else if j < 12 then c else if j < 16 then d else e) (24 - 8 * (j % 4))
theorem rfd_loop {a b c d e : Int} {ls : List LN} : ∀ (n f j : Nat) (h : AH) (tp : List Int), j + n = 20 → n < f → tp.length + n ≤ 400 → MS h ls tp → ∃ h', R_feed_18 f 27 a b c d e j h = some (((tp.length + n : Nat) : Int), h') ∧ MS h' ls (tp ++ (List.range' j n).map (btS a b c d e)) ∧ Fr MZ h h' := by
  intro n
  induction n with
  | zero =>
    intro f j h tp hj hf hl m
    obtain ⟨f, rfl, -⟩ := fu_pos hf
    refine ⟨h, ?_, by simp; exact m, Fr.rf⟩
    unfold R_feed_18
    refine ifF (by omega) ?_
    refine gB m.1.t27 ?_
    rw [m.2.2.1]
    rfl
  | succ n ih =>
    intro f j h tp hj hf hl m
    obtain ⟨f, rfl, hf⟩ := fu_pos hf
    have H := m.1
    have bd := byS_bd (if j < 4 then a else if j < 8 then b else if j < 12 then c else if j < 16 then d else e) (24 - 8 * (j % 4))
    have F1 : Fr (fun b j => b = 48 ∨ (b = 27 ∧ j = 24)) h (hSet (hSet h 48 (tp.length : Int) (btS a b c d e j)) 27 24 ((tp.length : Int) + 1)) := (Fr.set (Or.inl rfl)).setT (Or.inr ⟨rfl, rfl⟩)
    have q1 : ∀ b j : Int, b = 48 ∨ (b = 27 ∧ j = 24) → MZ b j := fun b j z => ⟨mutM (by unfold MutM; omega), by omega⟩
    have m1 : MS (hSet (hSet h 48 (tp.length : Int) (btS a b c d e j)) 27 24 ((tp.length : Int) + 1)) ls (tp ++ [btS a b c d e j]) := ⟨H.fr F1 fun b j z => (q1 b j z).1, m.2.1.fr F1 (by omega) (fun b j x y => by omega), m.2.2.push (by omega) (by omega) bd⟩
    obtain ⟨h', e', m', F'⟩ := ih f (j + 1) _ (tp ++ [btS a b c d e j]) (by omega) (by omega) (by rw [List.length_append]; show tp.length + 1 + n ≤ 400; omega) m1
    refine ⟨h', ?_, ?_, (F1.mo q1).tr F'⟩
    · have len : ((tp ++ [btS a b c d e j]).length + n : Nat) = tp.length + (n + 1) := by rw [List.length_append]; show tp.length + 1 + n = _; omega
      rw [len] at e'
      rw [← e']
      have c71 : ∀ s0 : Int, byS s0 (24 - 8 * (j % 4)) = btS a b c d e j → R_feed_71 (fun a0 a1 a2 a3 a4 a5 a6 h0 => R_feed_18 f a0 a1 a2 a3 a4 a5 a6 h0) 27 a b c d e j s0 h = R_feed_18 f 27 a b c d e ((j + 1 : Nat) : Int) (hSet (hSet h 48 (tp.length : Int) (btS a b c d e j)) 27 24 ((tp.length : Int) + 1)) := fun s0 es => by
        unfold R_feed_71
        refine gB H.t27 ?_
        refine gB H.t27 ?_
        rw [H.p27_23, m.2.2.1, tm_e (by omega)]
        refine gB (by omega) ?_
        rw [w32_e (z := 8 * ((j : Int) % 4)) (by omega), w32_e (z := 24 - 8 * ((j : Int) % 4)) (by omega), show 24 - 8 * ((j : Int) % 4) = ((24 - 8 * (j % 4) : Nat) : Int) by omega, by_s (by omega), es]
        refine gB ⟨H.t48, by omega, by rw [H.l48]; omega⟩ ?_
        refine gB (by rw [tS]; exact H.t27) ?_
        rw [cN (by omega), m.2.2.1, w32_e (z := (tp.length : Int) + 1) (by omega), w32_e (z := (j : Int) + 1) (by omega)]
        exact gB (by rw [tS]; exact H.t27) rfl
      conv => lhs; unfold R_feed_18
      refine ifT (by omega) ?_
      by_cases z1 : j < 4
      · exact ifT (by omega) (c71 a (by unfold btS; rw [if_pos z1]))
      refine ifF (by omega) ?_
      by_cases z2 : j < 8
      · exact ifT (by omega) (c71 b (by unfold btS; rw [if_neg z1, if_pos z2]))
      refine ifF (by omega) ?_
      by_cases z3 : j < 12
      · exact ifT (by omega) (c71 c (by unfold btS; rw [if_neg z1, if_neg z2, if_pos z3]))
      refine ifF (by omega) ?_
      by_cases z4 : j < 16
      · exact ifT (by omega) (c71 d (by unfold btS; rw [if_neg z1, if_neg z2, if_neg z3, if_pos z4]))
      · exact ifF (by omega) (c71 e (by unfold btS; rw [if_neg z1, if_neg z2, if_neg z3, if_neg z4]))
    · rw [List.append_assoc] at m'
      exact m'
theorem bt_eq (a b c d e : Int) : (List.range' 0 20).map (btS a b c d e) = fbL a ++ (fbL b ++ (fbL c ++ (fbL d ++ fbL e))) := rfl
theorem q_feed (a b c d e : Int) : sim (fun h => X_feed 0 a b c d e h) (fun h => R_feed 27 a b c d e h) := mk_sim fun ls tp ok => by
  have l4 := ok.2.2.1
  by_cases q : tp.length + 20 ≤ 400
  · refine ⟨((tp.length + 20 : Nat) : Int), ls, tp ++ (fbL a ++ (fbL b ++ (fbL c ++ (fbL d ++ fbL e)))), fun h x => ?_, fun h m => ?_⟩
    · obtain ⟨⟨hw, dw, U⟩, t⟩ := x
      have H := U.1.1
      have len : ∀ (l : List Int) (x : Int), (l ++ fbL x).length = l.length + 4 := fun l x => by rw [List.length_append]; rfl
      obtain ⟨h1, e1, F1, t1⟩ := s_tapeAppend H t (by omega) a
      have H1 := H.fr F1 fun b j z => z.q.1
      obtain ⟨h2, e2, F2, t2⟩ := s_tapeAppend H1 t1 (by rw [len]; omega) b
      have H2 := H1.fr F2 fun b j z => z.q.1
      obtain ⟨h3, e3, F3, t3⟩ := s_tapeAppend H2 t2 (by rw [len, len]; omega) c
      have H3 := H2.fr F3 fun b j z => z.q.1
      obtain ⟨h4, e4, F4, t4⟩ := s_tapeAppend H3 t3 (by rw [len, len, len]; omega) d
      have H4 := H3.fr F4 fun b j z => z.q.1
      obtain ⟨h5, e5, F5, t5⟩ := s_tapeAppend H4 t4 (by rw [len, len, len, len]; omega) e
      have H5 := H4.fr F5 fun b j z => z.q.1
      have F := F1.tr (F2.tr (F3.tr (F4.tr F5)))
      have n5 := t5.1
      rw [len, len, len, len, len] at n5
      simp only [List.append_assoc] at t5
      refine ⟨h5, ?_, ⟨⟨hw, dw, U.frS F fun b j z => z.q⟩, t5⟩, F.gr.mo fun b j z => by unfold TK at z; unfold CZ; omega⟩
      show X_feed 0 a b c d e h = _
      unfold X_feed
      refine gB H.t0 ?_
      rw [H.p0_2]
      refine gB H.t14 ?_
      have hr : Tape_hasRoomFor 14 20 h = some 1 := by
        unfold Tape_hasRoomFor
        refine gB H.t14 ?_
        rw [t.1, w32_e (by omega)]
        exact ifF (by omega) rfl
      refine cB hr ?_
      refine ifF one_ne ?_
      refine gB H.t0 ?_
      refine gB H.t14 ?_
      refine cB e1 ?_
      refine gB H1.t0 ?_
      rw [H1.p0_2]
      refine gB H1.t14 ?_
      refine cB e2 ?_
      refine gB H2.t0 ?_
      rw [H2.p0_2]
      refine gB H2.t14 ?_
      refine cB e3 ?_
      refine gB H3.t0 ?_
      rw [H3.p0_2]
      refine gB H3.t14 ?_
      refine cB e4 ?_
      refine gB H4.t0 ?_
      rw [H4.p0_2]
      refine gB H4.t14 ?_
      refine cB e5 ?_
      refine gB H5.t0 ?_
      rw [H5.p0_2]
      refine gB H5.t14 ?_
      rw [n5]
    · obtain ⟨h', e', m', F'⟩ := rfd_loop (a := a) (b := b) (c := c) (d := d) (e := e) 20 FU 0 h tp (by omega) (fu_big (by omega)) q m
      rw [bt_eq] at m'
      refine ⟨h', ?_, m', F'⟩
      show R_feed 27 a b c d e h = _
      unfold R_feed
      refine gB m.1.t27 ?_
      rw [m.2.2.1, w32_e (by omega)]
      exact ifF (by omega) e'
  · refine ⟨-1, ls, tp, xC.keep fun h hw dw U t => ?_, rC.keep fun h m => ?_⟩
    · have H := U.1.1
      show X_feed 0 a b c d e h = _
      unfold X_feed
      refine gB H.t0 ?_
      rw [H.p0_2]
      refine gB H.t14 ?_
      have hr : Tape_hasRoomFor 14 20 h = some 0 := by
        unfold Tape_hasRoomFor
        refine gB H.t14 ?_
        rw [t.1, w32_e (by omega)]
        exact ifT (by omega) rfl
      exact cB hr (ifT rfl rfl)
    · show R_feed 27 a b c d e h = _
      unfold R_feed
      refine gB m.1.t27 ?_
      rw [m.2.2.1, w32_e (by omega)]
      exact ifT (by omega) rfl
