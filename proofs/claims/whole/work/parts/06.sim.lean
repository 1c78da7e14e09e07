/-! THE MACHINE FOLLOWS THE ABSTRACT ONE: what goes on behind itself -/
def lenS : List Nat := aStr.map List.length
def bytS : List (List Int32) := aStr.map (fun l => l.map Int32.ofNat)
def HeapOK (Z : EZ) (h : AH) (H : Heap) : Prop := WFh h ∧ va_P (zD Z) aCl (cW Z h) H
def EnvOK (Z : EZ) (sc : AS) (s : State) (H : Heap) : Prop :=
  va_Z "PrimeProofs$Arithmetic" "WITNESSES" "[I" (.ref (zW Z)) (zF Z) s H ∧
  va_T .int (zW Z) 4 (fun j => .int (Int32.ofInt (witA (j : Int)))) (zF Z) s H ∧
  va_Z "java/lang/String" "COMPACT_STRINGS" "Z" (.int 1) (zF Z) s H ∧
  va_Z "jdk/internal/util/Preconditions" "SIOOBE_FORMATTER" "Ljava/util/function/BiFunction;" (zO Z) (zF Z) s H ∧
  vk_S 10 lenS bytS (zK Z) (zV Z) (zF Z) s H ∧
  (∀ (c : Nat) (l : List (Nat × Nat × Int × Nat)), aLK[c]? = some l → ∀ e ∈ l, e.2.1 = 3 → vk_R (cpN c) e.1 ((aStrT[e.2.2.1.toNat]?).getD "") (zK Z e.2.2.1.toNat) s) ∧
  (∀ (c : Nat) (l : List (Nat × Nat × Nat × Nat × Nat × Nat × Nat × Nat)), aLM[c]? = some l → ∀ e ∈ l, e.2.2.1 = 5 → ∀ M, aMt[e.2.1]? = some M → va_Nw (.methodLinkNest (cpN c) e.1 M.2.1 "PrimeProofs") s) ∧
  va_AO "PrimeProofs$Line" s ∧
  (∃ xs : Nat → Int32, va_X (zS Z) sc.1.toNat xs s H ∧ ∀ j : Int, 0 ≤ j → j < sc.1 → sc.2 j = (xs j.toNat).toInt) ∧
  (zS Z < zB Z ∧ 0 ≤ sc.1 ∧ in32 sc.1) ∧
  va_K (zD Z) aCl (aTs Z) s ∧ (zO Z = .null ∨ ∃ a, zO Z = .ref a) ∧ zB Z ≤ H.size
theorem EnvOK.move {Z : EZ} {sc : AS} {s U : State} {H H1 : Heap} (h : EnvOK Z sc s H) (hW : s.WarmedH U.vm) (hs : H.size ≤ H1.size) (hq : ∀ a : Nat, a < H.size → ¬ zF Z a → H1[a]? = H[a]?) : EnvOK Z sc U H1 := by
  obtain ⟨h1, h2, h3, h4, h5, h6, h7, h8, ⟨xs, h9, h10⟩, h11, h12, h13, h14⟩ := h
  have ha := hW.alike
  refine ⟨(h1.moved ha).kept hq, (h2.moved ha).kept hq, (h3.moved ha).kept hq, (h4.moved ha).kept hq, (h5.moved ha).kept hq, fun c l hc e he ht => (h6 c l hc e he ht).warm hW, fun c l hc e he ht M hM => (h7 c l hc e he ht M hM).warmM hW, h8.moved ha, ⟨xs, (h9.moved ha).kept ?_, h10⟩, h11, h12.moved ha, h13, by omega⟩
  exact hq _ (by omega) (by unfold zF; omega)
theorem cW_D (Z : EZ) (h : AH) : va_D (zF Z) (cW Z h) := by
  have key : ∀ (k : Nat) (q : Nat × va_E), (cW Z h)[k]? = some q → q.1 = zB Z + k := by
    intro k q hk
    unfold cW at hk
    rw [List.getElem?_map] at hk
    obtain ⟨j, hj, e⟩ := Option.map_eq_some_iff.mp hk
    have hl := (List.getElem?_eq_some_iff.mp hj).1
    rw [List.getElem?_range (by simpa using hl)] at hj
    cases hj
    rw [← e]
  refine ⟨fun i j p q hi hj hpq => ?_, fun k q hk => ?_⟩
  · have h1 := key i p hi
    have h2 := key j q hj
    omega
  · rw [key k q hk]; unfold zF; omega
section SIM
variable {p : Program} {l : Launch} {e : Env} {R : Room} {s : State} {m : MethodId} {args : Array Value} {below : List Frame} {meth : Method} {c : Code} {Q : State → Prop} {Z : EZ} {sc : AS} {n0 w0 : Int} {M : aM} {L0 : List AV}
def Wst (p : Program) (l : Launch) (e : Env) (R : Room) (s : State) (m : MethodId) (args : Array Value) (below : List Frame) (meth : Method) (c : Code) (Q : State → Prop) (Z : EZ) (n0 w0 : Int) (pc : Nat) (L S : List AV) (h : AH) : Prop :=
  ∀ (H : Heap) (locs : List Loc) (ls : Array Slot), LocOK Z L ls → (∀ v ∈ S, WFv v) → HeapOK Z h H → va_S (zF Z) s.heap H locs → W p l e R s m args below meth c H locs (hNx h - n0).toNat (hWd h - w0).toNat Q (F0 m pc ls (S.map (cV Z)))
def Cx (p : Program) (R : Room) (s : State) (m : MethodId) (args : Array Value) (meth : Method) (c : Code) (Z : EZ) (sc : AS) (M : aM) : Prop :=
  p.tables.exec = Jvm.exec ∧ c.code = M.1 ∧ c.maxLocals = M.2.2.1 ∧ s.vm.findClass M.2.1.cls = some m.cls ∧ (∀ w ∈ wG, w.before args s = true) ∧ meth.name = M.2.1.name ∧ EnvOK Z sc s s.heap ∧ cpN M.2.2.2.2.2.2 = M.2.1.cls ∧ 1 ≤ R.frames ∧ 64 ≤ R.locals
theorem wf_i {x : Int} (h : in32 x) : WFv (0, x) := ⟨fun _ => h, fun q => by simp at q, fun q => by simp at q, fun q => by simp at q, fun q => by simp at q⟩
theorem wf_l {x : Int} (h : in64 x) : WFv (1, x) := ⟨fun q => by simp at q, fun _ => h, fun q => by simp at q, fun q => by simp at q, fun q => by simp at q⟩
theorem wf_r {x : Int} : WFv (2, x) := ⟨fun q => by simp at q, fun q => by simp at q, fun q => by simp at q, fun q => by simp at q, fun q => by simp at q⟩
theorem wf_6 {x : Int} : WFv (6, x) := ⟨fun q => by simp at q, fun q => by simp at q, fun q => by simp at q, fun q => by simp at q, fun q => by simp at q⟩
theorem wf_s {x : Int} (h : 0 ≤ x ∧ x < 10) : WFv (3, x) := ⟨fun q => by simp at q, fun q => by simp at q, fun _ => h, fun q => by simp at q, fun q => by simp at q⟩
theorem wf_4 {x : Int} (h : x = 0 ∨ x = 1) : WFv (4, x) := ⟨fun q => by simp at q, fun q => by simp at q, fun q => by simp at q, fun _ => h, fun q => by simp at q⟩
theorem wf_5 {x : Int} (h : 0 ≤ x ∧ x < 10) : WFv (5, x) := ⟨fun q => by simp at q, fun q => by simp at q, fun q => by simp at q, fun q => by simp at q, fun _ => h⟩
theorem wf_ti {x : Int} (h : WFv (0, x)) : in32 x := h.1 rfl
theorem wf_tl {x : Int} (h : WFv (1, x)) : in64 x := h.2.1 rfl
theorem wf_c {v : AV} {S : List AV} (h1 : WFv v) (h2 : ∀ w ∈ S, WFv w) : ∀ w ∈ v :: S, WFv w := List.forall_mem_cons.mpr ⟨h1, h2⟩
theorem sim_bI {f : Int → Int → Int} (hf : ∀ a b, in32 a → in32 b → in32 (f a b)) {pc len : Nat}
    (row : ∀ (H : Heap) (locs : List Loc) (cells slots : Nat) (ls : Array Slot) (rest : List Value) (a b : Int), in32 a → in32 b → W p l e R s m args below meth c H locs cells slots Q (F0 m (pc + len) ls (.int (Int32.ofInt (f a b)) :: rest)) → W p l e R s m args below meth c H locs cells slots Q (F0 m pc ls (.int (Int32.ofInt b) :: .int (Int32.ofInt a) :: rest)))
    {L S L' S' : List AV} {h h' : AH} {G : Option Prop} (hn : bI f L S h = some (L', S', h', G)) (kk : Wst p l e R s m args below meth c Q Z n0 w0 (pc + len) L' S' h') : Wst p l e R s m args below meth c Q Z n0 w0 pc L S h := by
  unfold bI at hn
  split at hn
  · rename_i b a r
    cases hn
    intro H locs ls hL hS hH hva
    have ha := wf_ti (hS (0, a) (by simp))
    have hb := wf_ti (hS (0, b) (by simp))
    exact row _ _ _ _ _ _ _ _ ha hb (kk H locs ls hL (wf_c (wf_i (hf a b ha hb)) fun w hw => hS w (by simp [hw])) hH hva)
  · cases hn
theorem sim_bIg {f : Int → Int → Int} (hf : ∀ a b, in32 a → in32 b → in32 (f a b)) {pc len : Nat}
    (row : ∀ (H : Heap) (locs : List Loc) (cells slots : Nat) (ls : Array Slot) (rest : List Value) (a b : Int), in32 a → in32 b → ¬ Int32.ofInt b = 0 → W p l e R s m args below meth c H locs cells slots Q (F0 m (pc + len) ls (.int (Int32.ofInt (f a b)) :: rest)) → W p l e R s m args below meth c H locs cells slots Q (F0 m pc ls (.int (Int32.ofInt b) :: .int (Int32.ofInt a) :: rest)))
    {L S L' S' : List AV} {h h' : AH} {G : Option Prop} (hn : bIg f L S h = some (L', S', h', G)) (hG : okG G) (kk : Wst p l e R s m args below meth c Q Z n0 w0 (pc + len) L' S' h') : Wst p l e R s m args below meth c Q Z n0 w0 pc L S h := by
  unfold bIg at hn
  split at hn
  · rename_i b a r
    cases hn
    intro H locs ls hL hS hH hva
    have ha := wf_ti (hS (0, a) (by simp))
    have hb := wf_ti (hS (0, b) (by simp))
    have hne : ¬ Int32.ofInt b = 0 := fun q => hG ((n32_eq hb (by unfold in32; omega)).mp (q.trans rfl))
    exact row _ _ _ _ _ _ _ _ ha hb hne (kk H locs ls hL (wf_c (wf_i (hf a b ha hb)) fun w hw => hS w (by simp [hw])) hH hva)
  · cases hn
theorem sim_bL {f : Int → Int → Int} (hf : ∀ a b, in64 a → in64 b → in64 (f a b)) {pc len : Nat}
    (row : ∀ (H : Heap) (locs : List Loc) (cells slots : Nat) (ls : Array Slot) (rest : List Value) (a b : Int), in64 a → in64 b → W p l e R s m args below meth c H locs cells slots Q (F0 m (pc + len) ls (.long (Int64.ofInt (f a b)) :: rest)) → W p l e R s m args below meth c H locs cells slots Q (F0 m pc ls (.long (Int64.ofInt b) :: .long (Int64.ofInt a) :: rest)))
    {L S L' S' : List AV} {h h' : AH} {G : Option Prop} (hn : bL f L S h = some (L', S', h', G)) (kk : Wst p l e R s m args below meth c Q Z n0 w0 (pc + len) L' S' h') : Wst p l e R s m args below meth c Q Z n0 w0 pc L S h := by
  unfold bL at hn
  split at hn
  · rename_i b a r
    cases hn
    intro H locs ls hL hS hH hva
    have ha := wf_tl (hS (1, a) (by simp))
    have hb := wf_tl (hS (1, b) (by simp))
    exact row _ _ _ _ _ _ _ _ ha hb (kk H locs ls hL (wf_c (wf_l (hf a b ha hb)) fun w hw => hS w (by simp [hw])) hH hva)
  · cases hn
theorem sim_bLg {f : Int → Int → Int} (hf : ∀ a b, in64 a → in64 b → in64 (f a b)) {pc len : Nat}
    (row : ∀ (H : Heap) (locs : List Loc) (cells slots : Nat) (ls : Array Slot) (rest : List Value) (a b : Int), in64 a → in64 b → ¬ Int64.ofInt b = 0 → W p l e R s m args below meth c H locs cells slots Q (F0 m (pc + len) ls (.long (Int64.ofInt (f a b)) :: rest)) → W p l e R s m args below meth c H locs cells slots Q (F0 m pc ls (.long (Int64.ofInt b) :: .long (Int64.ofInt a) :: rest)))
    {L S L' S' : List AV} {h h' : AH} {G : Option Prop} (hn : bLg f L S h = some (L', S', h', G)) (hG : okG G) (kk : Wst p l e R s m args below meth c Q Z n0 w0 (pc + len) L' S' h') : Wst p l e R s m args below meth c Q Z n0 w0 pc L S h := by
  unfold bLg at hn
  split at hn
  · rename_i b a r
    cases hn
    intro H locs ls hL hS hH hva
    have ha := wf_tl (hS (1, a) (by simp))
    have hb := wf_tl (hS (1, b) (by simp))
    have hne : ¬ Int64.ofInt b = 0 := fun q => hG ((n64_eq hb (by unfold in64; omega)).mp (q.trans rfl))
    exact row _ _ _ _ _ _ _ _ ha hb hne (kk H locs ls hL (wf_c (wf_l (hf a b ha hb)) fun w hw => hS w (by simp [hw])) hH hva)
  · cases hn
theorem sim_bLI {f : Int → Int → Int} (hf : ∀ a b, in64 (f a b)) {pc len : Nat}
    (row : ∀ (H : Heap) (locs : List Loc) (cells slots : Nat) (ls : Array Slot) (rest : List Value) (a b : Int), W p l e R s m args below meth c H locs cells slots Q (F0 m (pc + len) ls (.long (Int64.ofInt (f a b)) :: rest)) → W p l e R s m args below meth c H locs cells slots Q (F0 m pc ls (.int (Int32.ofInt b) :: .long (Int64.ofInt a) :: rest)))
    {L S L' S' : List AV} {h h' : AH} {G : Option Prop} (hn : bLI f L S h = some (L', S', h', G)) (kk : Wst p l e R s m args below meth c Q Z n0 w0 (pc + len) L' S' h') : Wst p l e R s m args below meth c Q Z n0 w0 pc L S h := by
  unfold bLI at hn
  split at hn
  · rename_i b a r
    cases hn
    intro H locs ls hL hS hH hva
    exact row _ _ _ _ _ _ _ _ (kk H locs ls hL (wf_c (wf_l (hf a b)) fun w hw => hS w (by simp [hw])) hH hva)
  · cases hn
theorem n64_i (x : Int64) : Int64.ofInt x.toInt = x := Int64.ofInt_toInt x
theorem n32_i (x : Int32) : Int32.ofInt x.toInt = x := Int32.ofInt_toInt x
theorem sim_arith {i0 : AI} {pc len : Nat} (C : Cx p R s m args meth c Z sc M) (hd : decode M.1 pc = .ok (i0, len)) (hlen : lenI i0 = len) {i : AI} (hr : resI M i0 = some i)
    (hi : i0 ∈ ([.iadd, .isub, .imul, .idiv, .irem, .iand, .ishr, .iushr, .ladd, .lsub, .lmul, .ldiv, .lrem, .land, .lor, .lxor, .lshl, .lshr, .lushr] : List AI))
    {L S L' S' : List AV} {h h' : AH} {G : Option Prop} (hn : nc sc i L S h = some (L', S', h', G)) (hG : okG G) (kk : Wst p l e R s m args below meth c Q Z n0 w0 (pc + len) L' S' h') : Wst p l e R s m args below meth c Q Z n0 w0 pc L S h := by
  obtain ⟨hx, hb, -⟩ := C
  subst hlen
  simp only [List.mem_cons, List.not_mem_nil, or_false] at hi
  rcases hi with rfl | rfl | rfl | rfl | rfl | rfl | rfl | rfl | rfl | rfl | rfl | rfl | rfl | rfl | rfl | rfl | rfl | rfl | rfl <;> cases hr
  · exact sim_bI (fun a b _ _ => w32_in _) (fun H locs cells slots ls rest a b ha hb' k => lv_iadd hx hb hd (by rw [n32_add]; exact k)) hn kk
  · exact sim_bI (fun a b _ _ => w32_in _) (fun H locs cells slots ls rest a b ha hb' k => lv_isub hx hb hd (by rw [n32_sub]; exact k)) hn kk
  · exact sim_bI (fun a b _ _ => w32_in _) (fun H locs cells slots ls rest a b ha hb' k => lv_imul hx hb hd (by rw [n32_mul]; exact k)) hn kk
  · exact sim_bIg (fun a b _ _ => w32_in _) (fun H locs cells slots ls rest a b ha hb' hne k => lv_idiv hx hb hd hne (by rw [n32_div ha hb']; exact k)) hn hG kk
  · exact sim_bIg (fun a b ha _ => tmod_in (by omega) (by omega) ha) (fun H locs cells slots ls rest a b ha hb' hne k => lv_irem hx hb hd hne (by rw [n32_rem ha hb']; exact k)) hn hG kk
  · exact sim_bI (f := andI) (fun a b _ _ => i32_in _) (fun H locs cells slots ls rest a b ha hb' k => lv_iand hx hb hd (by rw [andI, n32_i] at k; exact k)) hn kk
  · exact sim_bI (f := shrI) (fun a b _ _ => i32_in _) (fun H locs cells slots ls rest a b ha hb' k => lv_ishr hx hb hd (by rw [shrI, n32_i] at k; exact k)) hn kk
  · exact sim_bI (f := ushrI) (fun a b _ _ => i32_in _) (fun H locs cells slots ls rest a b ha hb' k => lv_iushr hx hb hd rfl (by rw [ushrI, n32_i] at k; exact k)) hn kk
  · exact sim_bL (fun a b _ _ => w64_in _) (fun H locs cells slots ls rest a b ha hb' k => lv_ladd hx hb hd (by rw [n64_add]; exact k)) hn kk
  · exact sim_bL (fun a b _ _ => w64_in _) (fun H locs cells slots ls rest a b ha hb' k => lv_lsub hx hb hd (by rw [n64_sub]; exact k)) hn kk
  · exact sim_bL (fun a b _ _ => w64_in _) (fun H locs cells slots ls rest a b ha hb' k => lv_lmul hx hb hd (by rw [n64_mul]; exact k)) hn kk
  · exact sim_bLg (fun a b _ _ => w64_in _) (fun H locs cells slots ls rest a b ha hb' hne k => lv_ldiv hx hb hd hne (by rw [n64_div ha hb']; exact k)) hn hG kk
  · exact sim_bLg (fun a b ha _ => tmod_in (by omega) (by omega) ha) (fun H locs cells slots ls rest a b ha hb' hne k => lv_lrem hx hb hd hne (by rw [n64_rem ha hb']; exact k)) hn hG kk
  · exact sim_bL (f := andL) (fun a b _ _ => i64_in _) (fun H locs cells slots ls rest a b ha hb' k => lv_land hx hb hd (by rw [andL, n64_i] at k; exact k)) hn kk
  · exact sim_bL (f := orL) (fun a b _ _ => i64_in _) (fun H locs cells slots ls rest a b ha hb' k => lv_lor hx hb hd (by rw [orL, n64_i] at k; exact k)) hn kk
  · exact sim_bL (f := xorL) (fun a b _ _ => i64_in _) (fun H locs cells slots ls rest a b ha hb' k => lv_lxor hx hb hd (by rw [xorL, n64_i] at k; exact k)) hn kk
  · exact sim_bLI (f := shlL) (fun a b => i64_in _) (fun H locs cells slots ls rest a b k => lv_lshl hx hb hd rfl (by rw [shlL, n64_i] at k; exact k)) hn kk
  · exact sim_bLI (f := shrL) (fun a b => i64_in _) (fun H locs cells slots ls rest a b k => lv_lshr hx hb hd rfl (by rw [shrL, n64_i] at k; exact k)) hn kk
  · exact sim_bLI (f := ushrL) (fun a b => i64_in _) (fun H locs cells slots ls rest a b k => lv_lushr hx hb hd rfl (by rw [ushrL, n64_i] at k; exact k)) hn kk
theorem sim_push {pc len : Nat} {v : AV} (hv : WFv v)
    (row : ∀ (H : Heap) (locs : List Loc) (cells slots : Nat) (ls : Array Slot) (rest : List Value), LocOK Z L0 ls → va_S (zF Z) s.heap H locs → W p l e R s m args below meth c H locs cells slots Q (F0 m (pc + len) ls (cV Z v :: rest)) → W p l e R s m args below meth c H locs cells slots Q (F0 m pc ls rest))
    {S : List AV} {h : AH} (kk : Wst p l e R s m args below meth c Q Z n0 w0 (pc + len) L0 (v :: S) h) : Wst p l e R s m args below meth c Q Z n0 w0 pc L0 S h := fun H locs ls hL hS hH hva => row _ _ _ _ _ _ hL hva (kk H locs ls hL (wf_c hv hS) hH hva)
theorem n32_lit {n : Int} {v : Int32} (h : v = Int32.ofInt n) : cV Z (0, n) = .int v := by rw [h]; rfl
theorem sim_const {i0 : AI} {pc len : Nat} (C : Cx p R s m args meth c Z sc M) (hd : decode M.1 pc = .ok (i0, len)) (hlen : lenI i0 = len) {i : AI} (hr : resI M i0 = some i)
    (hi : (∃ n, i0 = .iconst n) ∨ (∃ n, i0 = .bipush n) ∨ (∃ n, i0 = .sipush n) ∨ (∃ n, i0 = .lconst n) ∨ i0 = .aconst_null)
    {L S L' S' : List AV} {h h' : AH} {G : Option Prop} (hn : nc sc i L S h = some (L', S', h', G)) (kk : Wst p l e R s m args below meth c Q Z n0 w0 (pc + len) L' S' h') : Wst p l e R s m args below meth c Q Z n0 w0 pc L S h := by
  obtain ⟨hx, hb, -⟩ := C
  subst hlen
  rcases hi with ⟨n, rfl⟩ | ⟨n, rfl⟩ | ⟨n, rfl⟩ | ⟨n, rfl⟩ | rfl
  · simp only [resI] at hr
    split at hr
    · rename_i hq
      cases hr
      cases hn
      exact sim_push (wf_i (by unfold in32; omega)) (fun H locs cells slots ls rest _ _ k => lv_iconst hx hb hd rfl k) kk
    · cases hr
  · simp only [resI] at hr
    split at hr
    · rename_i hq
      cases hr
      cases hn
      refine sim_push (wf_i (by unfold in32; omega)) (fun H locs cells slots ls rest _ _ k => lv_bipush hx hb hd (v := Int32.ofInt n) ?_ k) kk
      rw [← Int32.toInt_inj, n32_toInt (by unfold in32; omega), Int8.toInt_toInt32, Int8.toInt_ofInt_of_le (by omega) (by omega)]
    · cases hr
  · simp only [resI] at hr
    split at hr
    · rename_i hq
      cases hr
      cases hn
      refine sim_push (wf_i (by unfold in32; omega)) (fun H locs cells slots ls rest _ _ k => lv_sipush hx hb hd (v := Int32.ofInt n) ?_ k) kk
      rw [← Int32.toInt_inj, n32_toInt (by unfold in32; omega), Int16.toInt_toInt32, Int16.toInt_ofInt_of_le (by omega) (by omega)]
    · cases hr
  · cases hr
    cases hn
    have hn2 : (n : Nat) < 2 := n.isLt
    refine sim_push (wf_l (by unfold in64; omega)) (fun H locs cells slots ls rest _ _ k => lv_lconst hx hb hd (v := Int64.ofInt (((n : Nat) : Int))) ?_ k) kk
    exact (Int64.ofInt_eq_ofNat).symm
  · cases hr
    cases hn
    exact sim_push wf_r (fun H locs cells slots ls rest _ _ k => lv_null hx hb hd k) kk
theorem lnkK {c0 x : Nat} {v : Nat × Int × Nat} (hk : lkC aLK c0 x = some v) : chkK c0 (x, v) = true := lkC_at chkK_all hk
theorem lk_src {α : Type} {T : List (List (Nat × α))} {c0 x : Nat} {v : α} (hk : lkC T c0 x = some v) : ∃ l, T[c0]? = some l ∧ (x, v) ∈ l := by
  unfold lkC at hk
  split at hk
  · rename_i l hl
    exact ⟨l, hl, lkp_mem hk⟩
  · cases hk
theorem sim_ldc {i0 : AI} {pc len : Nat} (C : Cx p R s m args meth c Z sc M) (hd : decode M.1 pc = .ok (i0, len)) (hlen : lenI i0 = len) {i : AI} (hr : resI M i0 = some i)
    (hi : (∃ n, i0 = .ldc n) ∨ (∃ n, i0 = .ldc_w n) ∨ (∃ n, i0 = .ldc2_w n))
    {L S L' S' : List AV} {h h' : AH} {G : Option Prop} (hn : nc sc i L S h = some (L', S', h', G)) (kk : Wst p l e R s m args below meth c Q Z n0 w0 (pc + len) L' S' h') : Wst p l e R s m args below meth c Q Z n0 w0 pc L S h := by
  obtain ⟨hx, hb, -, hown, hts, -, hE, hcp, -⟩ := C
  subst hlen
  rcases hi with ⟨n, rfl⟩ | ⟨n, rfl⟩ | ⟨n, rfl⟩
  · simp only [resI] at hr
    split at hr
    · rename_i v pl hk
      cases hr
      cases hn
      have h1 := lnkK hk
      simp only [chkK, Bool.and_eq_true, decide_eq_true_eq, hcp] at h1
      exact sim_push (wf_i h1.2) (fun H locs cells slots ls rest _ _ k => lv_ldc hx hb hown (hts _ (inG_mem h1.1)) hd k) kk
    · rename_i v pl hk
      cases hr
      cases hn
      have h1 := lnkK hk
      simp only [chkK, Bool.and_eq_true, decide_eq_true_eq] at h1
      obtain ⟨lt, hl, he⟩ := lk_src hk
      have h2 := hE.2.2.2.2.2.1 _ lt hl _ he rfl
      rw [hcp] at h2
      refine sim_push (wf_s (by omega)) (fun H locs cells slots ls rest _ _ k => va_ldcS hx hb hown h2 hd ?_) kk
      simp only [cV, Int.toNat_natCast] at k
      exact k
    · cases hr
  · simp only [resI] at hr
    split at hr
    · rename_i v pl hk
      cases hr
      cases hn
      have h1 := lnkK hk
      simp only [chkK, Bool.and_eq_true, decide_eq_true_eq, hcp] at h1
      exact sim_push (wf_i h1.2) (fun H locs cells slots ls rest _ _ k => lv_ldcw hx hb hown (hts _ (inG_mem h1.1)) hd k) kk
    · cases hr
  · simp only [resI] at hr
    split at hr
    · rename_i v pl hk
      cases hr
      cases hn
      have h1 := lnkK hk
      simp only [chkK, Bool.and_eq_true, decide_eq_true_eq, hcp] at h1
      exact sim_push (wf_l h1.2) (fun H locs cells slots ls rest _ _ k => lv_ldc2 hx hb hown (hts _ (inG_mem h1.1)) hd k) kk
    · cases hr
theorem cR_some {B : Nat} {x : Int} (h : 0 ≤ x) : cR B x = some (B + x.toNat) := by unfold cR; rw [if_neg (by omega)]
theorem cR_none {B : Nat} {x : Int} (h : x < 0) : cR B x = none := by unfold cR; rw [if_pos h]
theorem cV2_some {x : Int} (h : 0 ≤ x) : cV Z (2, x) = .ref (zB Z + x.toNat) := by show va_rf _ = _; rw [cR_some h]; rfl
theorem cV2_none {x : Int} (h : x < 0) : cV Z (2, x) = .null := by show va_rf _ = _; rw [cR_none h]; rfl
/-- a reference of any kind: null or an address -/
theorem cV_ref (hO : zO Z = .null ∨ ∃ a, zO Z = .ref a) {t : Nat} {x : Int} (ht : t = 2 ∨ t = 3 ∨ t = 4 ∨ t = 5 ∨ t = 6) : cV Z (t, x) = .null ∨ ∃ a, cV Z (t, x) = .ref a := by
  rcases ht with rfl | rfl | rfl | rfl | rfl
  · rcases Int.lt_or_le x 0 with h | h
    · exact Or.inl (cV2_none h)
    · exact Or.inr ⟨_, cV2_some h⟩
  · exact Or.inr ⟨_, rfl⟩
  · exact Or.inr ⟨_, rfl⟩
  · exact Or.inr ⟨_, rfl⟩
  · exact hO
theorem zO_cat (hO : zO Z = .null ∨ ∃ a, zO Z = .ref a) : (zO Z).category = 1 := by
  rcases hO with h | ⟨a, h⟩ <;> rw [h] <;> rfl
theorem LocOK.get {L : List AV} {ls : Array Slot} (h : LocOK Z L ls) {k : Nat} {v : AV} (hv : nth L k = v) (ht : v.1 ≤ 6) : ls[k]? = some (.val (cV Z v)) := by
  subst hv
  exact h.2.2.1 k ht
theorem LocOK.wf {L : List AV} {ls : Array Slot} (h : LocOK Z L ls) {k : Nat} {v : AV} (hv : nth L k = v) : WFv v := by
  subst hv
  exact h.2.2.2 k
theorem sim_ldI {k pc len : Nat}
    (row : ∀ (H : Heap) (locs : List Loc) (cells slots : Nat) (ls : Array Slot) (rest : List Value) (x : Int32), ls[k]? = some (.val (.int x)) → W p l e R s m args below meth c H locs cells slots Q (F0 m (pc + len) ls (.int x :: rest)) → W p l e R s m args below meth c H locs cells slots Q (F0 m pc ls rest))
    {L S L' S' : List AV} {h h' : AH} {G : Option Prop} (hn : ldI L S h k = some (L', S', h', G)) (kk : Wst p l e R s m args below meth c Q Z n0 w0 (pc + len) L' S' h') : Wst p l e R s m args below meth c Q Z n0 w0 pc L S h := by
  unfold ldI at hn
  split at hn
  · rename_i x hx
    cases hn
    intro H locs ls hL hS hH hva
    exact row _ _ _ _ _ _ _ (hL.get hx (Nat.le_of_ble_eq_true rfl)) (kk H locs ls hL (wf_c (hL.wf hx) hS) hH hva)
  · cases hn
theorem sim_ldL {k pc len : Nat}
    (row : ∀ (H : Heap) (locs : List Loc) (cells slots : Nat) (ls : Array Slot) (rest : List Value) (x : Int64), ls[k]? = some (.val (.long x)) → W p l e R s m args below meth c H locs cells slots Q (F0 m (pc + len) ls (.long x :: rest)) → W p l e R s m args below meth c H locs cells slots Q (F0 m pc ls rest))
    {L S L' S' : List AV} {h h' : AH} {G : Option Prop} (hn : ldL L S h k = some (L', S', h', G)) (kk : Wst p l e R s m args below meth c Q Z n0 w0 (pc + len) L' S' h') : Wst p l e R s m args below meth c Q Z n0 w0 pc L S h := by
  unfold ldL at hn
  split at hn
  · rename_i x hx
    cases hn
    intro H locs ls hL hS hH hva
    exact row _ _ _ _ _ _ _ (hL.get hx (Nat.le_of_ble_eq_true rfl)) (kk H locs ls hL (wf_c (hL.wf hx) hS) hH hva)
  · cases hn
theorem sim_ldA (hO : zO Z = .null ∨ ∃ a, zO Z = .ref a) {k pc len : Nat}
    (row : ∀ (H : Heap) (locs : List Loc) (cells slots : Nat) (ls : Array Slot) (rest : List Value) (x : Nat), ls[k]? = some (.val (.ref x)) → W p l e R s m args below meth c H locs cells slots Q (F0 m (pc + len) ls (.ref x :: rest)) → W p l e R s m args below meth c H locs cells slots Q (F0 m pc ls rest))
    (rowN : ∀ (H : Heap) (locs : List Loc) (cells slots : Nat) (ls : Array Slot) (rest : List Value), ls[k]? = some (.val .null) → W p l e R s m args below meth c H locs cells slots Q (F0 m (pc + len) ls (.null :: rest)) → W p l e R s m args below meth c H locs cells slots Q (F0 m pc ls rest))
    {L S L' S' : List AV} {h h' : AH} {G : Option Prop} (hn : ldA L S h k = some (L', S', h', G)) (kk : Wst p l e R s m args below meth c Q Z n0 w0 (pc + len) L' S' h') : Wst p l e R s m args below meth c Q Z n0 w0 pc L S h := by
  have key : ∃ t x, nth L k = (t, x) ∧ (t = 2 ∨ t = 3 ∨ t = 4 ∨ t = 5 ∨ t = 6) ∧ L' = L ∧ S' = (t, x) :: S ∧ h' = h := by
    unfold ldA at hn
    split at hn
    · rename_i x hx; cases hn; exact ⟨2, x, hx, by omega, rfl, rfl, rfl⟩
    · rename_i x hx; cases hn; exact ⟨3, x, hx, by omega, rfl, rfl, rfl⟩
    · rename_i x hx; cases hn; exact ⟨4, x, hx, by omega, rfl, rfl, rfl⟩
    · rename_i x hx; cases hn; exact ⟨5, x, hx, by omega, rfl, rfl, rfl⟩
    · rename_i x hx; cases hn; exact ⟨6, x, hx, by omega, rfl, rfl, rfl⟩
    · cases hn
  obtain ⟨t, x, hx, ht, rfl, rfl, rfl⟩ := key
  intro H locs ls hL hS hH hva
  have h1 := hL.get hx (by show t ≤ 6; omega)
  have h2 := kk H locs ls hL (wf_c (hL.wf hx) hS) hH hva
  simp only [List.map_cons] at h2
  rcases cV_ref hO ht (x := x) with q | ⟨a, q⟩
  · rw [q] at h1 h2
    exact rowN _ _ _ _ _ _ h1 h2
  · rw [q] at h1 h2
    exact row _ _ _ _ _ _ _ h1 h2
theorem sim_load {i0 : AI} {pc len : Nat} (C : Cx p R s m args meth c Z sc M) (hd : decode M.1 pc = .ok (i0, len)) (hlen : lenI i0 = len) {i : AI} (hr : resI M i0 = some i)
    (hi : (∃ n, i0 = .iload_n n) ∨ (∃ n, i0 = .iload n) ∨ (∃ n, i0 = .lload_n n) ∨ (∃ n, i0 = .lload n) ∨ (∃ n, i0 = .aload_n n) ∨ (∃ n, i0 = .aload n))
    {L S L' S' : List AV} {h h' : AH} {G : Option Prop} (hn : nc sc i L S h = some (L', S', h', G)) (kk : Wst p l e R s m args below meth c Q Z n0 w0 (pc + len) L' S' h') : Wst p l e R s m args below meth c Q Z n0 w0 pc L S h := by
  obtain ⟨hx, hb, -, -, -, -, hE, -⟩ := C
  have hO := hE.2.2.2.2.2.2.2.2.2.2.2.1
  subst hlen
  rcases hi with ⟨n, rfl⟩ | ⟨n, rfl⟩ | ⟨n, rfl⟩ | ⟨n, rfl⟩ | ⟨n, rfl⟩ | ⟨n, rfl⟩ <;> cases hr
  · exact sim_ldI (fun H locs cells slots ls rest x hl k => lv_iload_n hx hb hd rfl hl k) hn kk
  · exact sim_ldI (fun H locs cells slots ls rest x hl k => lv_iload hx hb hd hl k) hn kk
  · exact sim_ldL (fun H locs cells slots ls rest x hl k => lv_lload_n hx hb hd rfl hl k) hn kk
  · exact sim_ldL (fun H locs cells slots ls rest x hl k => lv_lload hx hb hd hl k) hn kk
  · exact sim_ldA hO (fun H locs cells slots ls rest x hl k => lv_aload_n hx hb hd rfl hl k) (fun H locs cells slots ls rest hl k => lv_aload_nN hx hb hd rfl hl k) hn kk
  · exact sim_ldA hO (fun H locs cells slots ls rest x hl k => lv_aload hx hb hd hl k) (fun H locs cells slots ls rest hl k => lv_aloadN hx hb hd hl k) hn kk
theorem st1_in {L : List AV} {k : Nat} {v : AV} (h : k < L.length) : (st1 L k v).length = L.length := st1_len L k v
theorem sim_sI (hO : zO Z = .null ∨ ∃ a, zO Z = .ref a) {k pc len : Nat}
    (row : ∀ (H : Heap) (locs : List Loc) (cells slots : Nat) (ls : Array Slot) (rest : List Value) (x : Int32) (nL : Nat) (lv : List (Nat × Value)), lv_has ls nL lv → k < nL → (∀ ls', lv_has ls' nL ((k, Value.int x) :: lv.filter (fun q => !(q.1 == k) && !(q.1 + 1 == k && q.2.category == 2))) → W p l e R s m args below meth c H locs cells slots Q (F0 m (pc + len) ls' rest)) → W p l e R s m args below meth c H locs cells slots Q (F0 m pc ls (.int x :: rest)))
    {L S L' S' : List AV} {h h' : AH} {G : Option Prop} (hn : sI L S h k = some (L', S', h', G)) (kk : Wst p l e R s m args below meth c Q Z n0 w0 (pc + len) L' S' h') : Wst p l e R s m args below meth c Q Z n0 w0 pc L S h := by
  unfold sI at hn
  split at hn
  · rename_i x r hk
    have hk : k < L.length := by simpa using hk
    cases hn
    intro H locs ls hL hS hH hva
    have hw := hS (0, x) (by simp)
    exact row _ _ _ _ _ _ _ _ _ hL.has hk fun ls' h' => kk H locs ls' (hL.sto1 (zO_cat hO) hw hk h') (fun w hw => hS w (by simp [hw])) hH hva
  · cases hn
theorem sim_sL (hO : zO Z = .null ∨ ∃ a, zO Z = .ref a) {k pc len : Nat}
    (row : ∀ (H : Heap) (locs : List Loc) (cells slots : Nat) (ls : Array Slot) (rest : List Value) (x : Int64) (nL : Nat) (lv : List (Nat × Value)), lv_has ls nL lv → k + 1 < nL → (∀ ls', lv_has ls' nL ((k, Value.long x) :: lv.filter (fun q => !(q.1 == k) && (!(q.1 == k + 1) && !(q.1 + 1 == k && q.2.category == 2)))) → W p l e R s m args below meth c H locs cells slots Q (F0 m (pc + len) ls' rest)) → W p l e R s m args below meth c H locs cells slots Q (F0 m pc ls (.long x :: rest)))
    {L S L' S' : List AV} {h h' : AH} {G : Option Prop} (hn : sL L S h k = some (L', S', h', G)) (kk : Wst p l e R s m args below meth c Q Z n0 w0 (pc + len) L' S' h') : Wst p l e R s m args below meth c Q Z n0 w0 pc L S h := by
  unfold sL at hn
  split at hn
  · rename_i x r hk
    have hk : k + 1 < L.length := by simpa using hk
    cases hn
    intro H locs ls hL hS hH hva
    have hw := hS (1, x) (by simp)
    exact row _ _ _ _ _ _ _ _ _ hL.has hk fun ls' h' => kk H locs ls' (hL.sto2 (zO_cat hO) hw hk h') (fun w hw => hS w (by simp [hw])) hH hva
  · cases hn
theorem sim_sA (hO : zO Z = .null ∨ ∃ a, zO Z = .ref a) {k pc len : Nat}
    (row : ∀ (H : Heap) (locs : List Loc) (cells slots : Nat) (ls : Array Slot) (rest : List Value) (x : Nat) (nL : Nat) (lv : List (Nat × Value)), lv_has ls nL lv → k < nL → (∀ ls', lv_has ls' nL ((k, Value.ref x) :: lv.filter (fun q => !(q.1 == k) && !(q.1 + 1 == k && q.2.category == 2))) → W p l e R s m args below meth c H locs cells slots Q (F0 m (pc + len) ls' rest)) → W p l e R s m args below meth c H locs cells slots Q (F0 m pc ls (.ref x :: rest)))
    (rowN : ∀ (H : Heap) (locs : List Loc) (cells slots : Nat) (ls : Array Slot) (rest : List Value) (nL : Nat) (lv : List (Nat × Value)), lv_has ls nL lv → k < nL → (∀ ls', lv_has ls' nL ((k, Value.null) :: lv.filter (fun q => !(q.1 == k) && !(q.1 + 1 == k && q.2.category == 2))) → W p l e R s m args below meth c H locs cells slots Q (F0 m (pc + len) ls' rest)) → W p l e R s m args below meth c H locs cells slots Q (F0 m pc ls (.null :: rest)))
    {L S L' S' : List AV} {h h' : AH} {G : Option Prop} (hn : sA L S h k = some (L', S', h', G)) (kk : Wst p l e R s m args below meth c Q Z n0 w0 (pc + len) L' S' h') : Wst p l e R s m args below meth c Q Z n0 w0 pc L S h := by
  have key : k < L.length ∧ ∃ t x r, S = (t, x) :: r ∧ (t = 2 ∨ t = 3 ∨ t = 4 ∨ t = 5 ∨ t = 6) ∧ L' = st1 L k (t, x) ∧ S' = r ∧ h' = h := by
    unfold sA at hn
    split at hn
    · rename_i x r hk; cases hn; exact ⟨by simpa using hk, 2, x, _, rfl, by omega, rfl, rfl, rfl⟩
    · rename_i x r hk; cases hn; exact ⟨by simpa using hk, 3, x, _, rfl, by omega, rfl, rfl, rfl⟩
    · rename_i x r hk; cases hn; exact ⟨by simpa using hk, 4, x, _, rfl, by omega, rfl, rfl, rfl⟩
    · rename_i x r hk; cases hn; exact ⟨by simpa using hk, 5, x, _, rfl, by omega, rfl, rfl, rfl⟩
    · rename_i x r hk; cases hn; exact ⟨by simpa using hk, 6, x, _, rfl, by omega, rfl, rfl, rfl⟩
    · cases hn
  obtain ⟨hk, t, x, r, rfl, ht, rfl, rfl, rfl⟩ := key
  intro H locs ls hL hS hH hva
  have hw := hS (t, x) (by simp)
  have h2 := fun ls' h' => kk H locs ls' (hL.sto1 (zO_cat hO) hw hk h') (fun w hw => hS w (by simp [hw])) hH hva
  simp only [List.map_cons]
  rcases cV_ref hO ht (x := x) with q | ⟨a, q⟩
  · rw [q] at h2 ⊢
    exact rowN _ _ _ _ _ _ _ _ hL.has hk h2
  · rw [q] at h2 ⊢
    exact row _ _ _ _ _ _ _ _ _ hL.has hk h2
theorem sim_store {i0 : AI} {pc len : Nat} (C : Cx p R s m args meth c Z sc M) (hd : decode M.1 pc = .ok (i0, len)) (hlen : lenI i0 = len) {i : AI} (hr : resI M i0 = some i)
    {k : Nat} (hi : (∃ n : Fin 4, i0 = .istore_n n ∧ (n : Nat) = k) ∨ i0 = .istore k ∨ (∃ n : Fin 4, i0 = .astore_n n ∧ (n : Nat) = k) ∨ i0 = .astore k)
    {L S L' S' : List AV} {h h' : AH} {G : Option Prop} (hn : nc sc i L S h = some (L', S', h', G)) (kk : Wst p l e R s m args below meth c Q Z n0 w0 (pc + len) L' S' h') : Wst p l e R s m args below meth c Q Z n0 w0 pc L S h := by
  obtain ⟨hx, hb, -, -, -, -, hE, -⟩ := C
  have hO := hE.2.2.2.2.2.2.2.2.2.2.2.1
  subst hlen
  rcases hi with ⟨n, rfl, rfl⟩ | rfl | ⟨n, rfl, rfl⟩ | rfl <;> cases hr
  · exact sim_sI hO (fun H locs cells slots ls rest x nL lv h1 h2 k => lv_istore_n hx hb hd rfl h1 h2 rfl k) hn kk
  · exact sim_sI hO (fun H locs cells slots ls rest x nL lv h1 h2 k => lv_istore hx hb hd h1 h2 rfl k) hn kk
  · exact sim_sA hO (fun H locs cells slots ls rest x nL lv h1 h2 k => lv_astore_n hx hb hd rfl h1 h2 rfl k) (fun H locs cells slots ls rest nL lv h1 h2 k => lv_astore_nN hx hb hd rfl h1 h2 rfl k) hn kk
  · exact sim_sA hO (fun H locs cells slots ls rest x nL lv h1 h2 k => lv_astore hx hb hd h1 h2 rfl k) (fun H locs cells slots ls rest nL lv h1 h2 k => lv_astoreN hx hb hd h1 h2 rfl k) hn kk
theorem sim_lstore {i0 : AI} {pc len : Nat} (C : Cx p R s m args meth c Z sc M) (hd : decode M.1 pc = .ok (i0, len)) (hlen : lenI i0 = len) {i : AI} (hr : resI M i0 = some i)
    {k : Nat} (hi : (∃ n : Fin 4, i0 = .lstore_n n ∧ (n : Nat) = k) ∨ i0 = .lstore k)
    {L S L' S' : List AV} {h h' : AH} {G : Option Prop} (hn : nc sc i L S h = some (L', S', h', G)) (kk : Wst p l e R s m args below meth c Q Z n0 w0 (pc + len) L' S' h') : Wst p l e R s m args below meth c Q Z n0 w0 pc L S h := by
  obtain ⟨hx, hb, -, -, -, -, hE, -⟩ := C
  have hO := hE.2.2.2.2.2.2.2.2.2.2.2.1
  subst hlen
  rcases hi with ⟨n, rfl, rfl⟩ | rfl <;> cases hr
  · exact sim_sL hO (fun H locs cells slots ls rest x nL lv h1 h2 k => lv_lstore_n hx hb hd rfl h1 h2 rfl k) hn kk
  · exact sim_sL hO (fun H locs cells slots ls rest x nL lv h1 h2 k => lv_lstore hx hb hd h1 h2 rfl k) hn kk
theorem W.bound {H : Heap} {locs : List Loc} {cells slots : Nat} {g : JFrame} (k : H.size ≤ s.heap.size + cells → W p l e R s m args below meth c H locs cells slots Q g) : W p l e R s m args below meth c H locs cells slots Q g := fun T hT X => k (by rw [← hT]; exact X.heapSize) T hT X
theorem HeapOK.low {h : AH} {H : Heap} (hH : HeapOK Z h H) (hn : 0 < hNx h) : zB Z + (hNx h).toNat ≤ H.size := by
  have h1 := (hH.2 _ _ (cW_get (Z := Z) (h := h) (a := hNx h - 1) (by omega) (by omega))).lt
  simp only at h1
  omega
end SIM
