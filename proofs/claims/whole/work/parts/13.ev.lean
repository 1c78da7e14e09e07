/-! steps of the abstract machine, block by block; shallow functions -/
def FU : Nat := 4294967296
def gd {α : Type} (g : Prop) [Decidable g] (x : α) : Option α := if g then some x else none
theorem bgd {α β : Type} {g : Prop} [Decidable g] {x : α} {f : α → Option β} {r : β} (h : (gd g x).bind f = some r) : ∃ v, g ∧ v = x ∧ f v = some r := by
  unfold gd at h
  split at h
  · rename_i hg; exact ⟨x, hg, rfl, h⟩
  · cases h
theorem bca {α β : Type} {o : Option α} {f : α → Option β} {r : β} (h : o.bind f = some r) : ∃ v, o = some v ∧ f v = some r := by
  cases o with
  | none => cases h
  | some v => exact ⟨v, rfl, h⟩
theorem bite {α : Type} {c : Prop} [Decidable c] {a b : Option α} {r : α} (h : (if c then a else b) = some r) : (c → a = some r) ∧ (¬ c → b = some r) := ⟨fun q => by rwa [if_pos q] at h, fun q => by rwa [if_neg q] at h⟩
def chkB (m : Nat) : Nat → List AI → Option Nat
  | pc, [] => some pc
  | pc, i :: r => match fetch m pc with
    | some (j, len) => if j = i then chkB m (pc + len) r else none
    | none => none
def runB (sc : AS) : List AI → List AV → List AV → AH → Option (List AV × List AV × AH × List Prop)
  | [], L, S, h => some (L, S, h, [])
  | i :: r, L, S, h => match nc sc i L S h with
    | some (L', S', h', none) => runB sc r L' S' h'
    | some (L', S', h', some g) => match runB sc r L' S' h' with
      | some (L2, S2, h2, G) => some (L2, S2, h2, g :: G)
      | none => none
    | none => none
def allG : List Prop → Prop
  | [] => True
  | [p] => p
  | p :: r => p ∧ allG r
theorem allG_c {p : Prop} {r : List Prop} (h : allG (p :: r)) : p ∧ allG r := by
  cases r with
  | nil => exact ⟨h, trivial⟩
  | cons a r => exact h
theorem Ev.nc1 {sc : AS} {d m pc len : Nat} {i : AI} {L S L' S' : List AV} {h h' hz : AH} {G : Option Prop} {r : Option AV} (hf : fetch m pc = some (i, len)) (hn : nc sc i L S h = some (L', S', h', G)) (hG : okG G) (k : Ev sc d m (pc + len) L' S' h' r hz) : Ev sc d m pc L S h r hz := by
  obtain ⟨k, hk⟩ := k
  exact ⟨k + 1, Or.inr ⟨i, len, hf, Or.inl ⟨L', S', h', G, hn, hG, hk⟩⟩⟩
theorem Ev.blk {sc : AS} {d m : Nat} : ∀ {is : List AI} {pc pc2 : Nat} {L S L2 S2 : List AV} {h h2 hz : AH} {G : List Prop} {r : Option AV} (_ : chkB m pc is = some pc2) (_ : runB sc is L S h = some (L2, S2, h2, G)) (_ : allG G) (_ : Ev sc d m pc2 L2 S2 h2 r hz), Ev sc d m pc L S h r hz
  | [], pc, pc2, L, S, L2, S2, h, h2, hz, G, r, hc, hr, _, k => by
    cases hc; cases hr; exact k
  | i :: is, pc, pc2, L, S, L2, S2, h, h2, hz, G, r, hc, hr, hG, k => by
    unfold chkB at hc
    split at hc
    · rename_i j len hf
      split at hc
      · rename_i e
        subst e
        unfold runB at hr
        split at hr
        · rename_i L' S' h' hn
          exact Ev.nc1 hf hn trivial (Ev.blk hc hr hG k)
        · rename_i L' S' h' g hn
          split at hr
          · rename_i L3 S3 h3 G3 hr3
            cases hr
            have := allG_c hG
            exact Ev.nc1 hf hn this.1 (Ev.blk hc hr3 this.2 k)
          · cases hr
        · cases hr
      · cases hc
    · cases hc
def wkR : List AV → List AV → Prop
  | [], [] => True
  | a :: l, b :: l' => (b = a ∨ b.1 = 9) ∧ wkR l l'
  | _, _ => False
theorem wkL_of : ∀ {l l' : List AV}, wkR l l' → wkL l l'
  | [], [], _ => ⟨rfl, fun _ => Or.inl rfl⟩
  | a :: l, b :: l', h => by
    have h2 := wkL_of h.2
    refine ⟨by simp [h2.1], fun k => ?_⟩
    cases k with
    | zero => exact h.1
    | succ k => exact h2.2 k
  | [], _ :: _, h => h.elim
  | _ :: _, [], h => h.elim
theorem Ev.wk {sc : AS} {d m pc : Nat} {L S L2 : List AV} {h hz : AH} {r : Option AV} (hw : wkL L L2) (k : Ev sc d m pc L2 S h r hz) : Ev sc d m pc L S h r hz := by
  obtain ⟨k, hk⟩ := k
  exact ⟨k + 1, Or.inl ⟨L2, hw, hk⟩⟩
theorem Ev.jp {sc : AS} {d m pc pc2 len : Nat} {i : AI} {L S S2 : List AV} {h hz : AH} {r : Option AV} (hf : fetch m pc = some (i, len)) (hj : jmp i pc len S = some (pc2, S2)) (k : Ev sc d m pc2 L S2 h r hz) : Ev sc d m pc L S h r hz := by
  obtain ⟨k, hk⟩ := k
  exact ⟨k + 1, Or.inr ⟨i, len, hf, Or.inr (Or.inl ⟨pc2, S2, hj, hk⟩)⟩⟩
theorem Ev.br {sc : AS} {d m pc a b len : Nat} {i : AI} {L S S2 : List AV} {h hz : AH} {r : Option AV} {P P' : Prop} [Decidable P] (hf : fetch m pc = some (i, len)) (hj : jmp i pc len S = some (if P then a else b, S2)) (hP : P ↔ P') (k1 : P' → Ev sc d m a L S2 h r hz) (k2 : ¬ P' → Ev sc d m b L S2 h r hz) : Ev sc d m pc L S h r hz := by
  by_cases q : P
  · rw [if_pos q] at hj
    exact Ev.jp hf hj (k1 (hP.mp q))
  · rw [if_neg q] at hj
    exact Ev.jp hf hj (k2 (fun z => q (hP.mpr z)))
theorem Ev.call {sc : AS} {d m pc y : Nat} {i : AI} {L S args S2 : List AV} {h h1 hz : AH} {r r1 : Option AV} (hf : fetch m pc = some (i, 3)) (hS : S = args.reverse ++ S2) (hl : args.length = mNp y) (h4 : S2.length ≤ 4) (hc : callG i y h args) (hx : Runs sc d y args h r1 h1) (k : Ev sc d m (pc + 3) L (r1.toList ++ S2) h1 r hz) : Ev sc d m pc L S h r hz := by
  obtain ⟨k, hk⟩ := k
  exact ⟨k + 1, Or.inr ⟨i, 3, hf, Or.inr (Or.inr (Or.inr ⟨y, args, S2, r1, h1, hS, hl, h4, hc, hx, hk⟩))⟩⟩
theorem Ev.ret {sc : AS} {d m pc len : Nat} {i : AI} {L S : List AV} {h : AH} {r : Option AV} (hf : fetch m pc = some (i, len)) (hr : fin i S = some r) (hg : finG (mRt m) r) : Ev sc d m pc L S h r h := ⟨1, Or.inr ⟨i, len, hf, Or.inr (Or.inr (Or.inl ⟨hr, hg, rfl⟩))⟩⟩
theorem finOf {m : Nat} {t : Option FieldType} {r : Option AV} (h : mRt m = t) (hg : finG t r) : finG (mRt m) r := by rw [h]; exact hg
theorem jsw {d lo hi : Int} {offs : Array Int} {pc len : Nat} {x : Int} {S : List AV} (h : x < lo ∨ hi < x) : jmp (.tableswitch d lo hi offs) pc len ((0, x) :: S) = some (((pc : Int) + d).toNat, S) := by
  simp only [jmp]
  rw [if_pos h]
theorem cmpL_eq {a b : Int} : cmpL a b = 0 ↔ a = b := by
  unfold cmpL
  split <;> (try split) <;> omega
theorem cmpL_lt {a b : Int} : cmpL a b < 0 ↔ a < b := by
  unfold cmpL
  split <;> (try split) <;> omega
theorem cmpL_gt {a b : Int} : 0 < cmpL a b ↔ b < a := by
  unfold cmpL
  split <;> (try split) <;> omega
theorem bz0 : (0 : Int) ≤ 0 ∧ (0 : Int) ≤ 1 := ⟨by decide, by decide⟩
theorem bz1 : (0 : Int) ≤ 1 ∧ (1 : Int) ≤ 1 := ⟨by decide, by decide⟩
