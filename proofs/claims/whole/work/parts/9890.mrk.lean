/-! ## numbers for the kernel: bases 2, 3, 5, 7 up to 10^9 + 1 -/
/-- a power's rest, by bytes of the exponent -/
def mp (g e q : Nat) : Nat :=
  Nat.mod (Nat.mul (Nat.pow (Nat.mod (Nat.mul (Nat.pow (Nat.mod (Nat.mul (Nat.pow (Nat.mod (Nat.pow g (Nat.shiftRight e 24)) q) 256) (Nat.pow g (Nat.mod (Nat.shiftRight e 16) 256))) q) 256) (Nat.pow g (Nat.mod (Nat.shiftRight e 8) 256))) q) 256) (Nat.pow g (Nat.mod e 256))) q
theorem mp_s (g u v q : Nat) : ((g ^ u % q) ^ 256 * g ^ v) % q = g ^ (256 * u + v) % q := by
  rw [Nat.mul_mod, ← Nat.pow_mod, ← Nat.mul_mod, ← Nat.pow_mul, ← Nat.pow_add, Nat.mul_comm u 256]
theorem mp_e (g e q : Nat) : mp g e q = g ^ e % q := by
  show ((((g ^ (e >>> 24) % q) ^ 256 * g ^ ((e >>> 16) % 256) % q) ^ 256 * g ^ ((e >>> 8) % 256) % q) ^ 256 * g ^ (e % 256)) % q = _
  rw [mp_s, mp_s, mp_s, Nat.shiftRight_eq_div_pow, Nat.shiftRight_eq_div_pow, Nat.shiftRight_eq_div_pow]
  congr 2
  omega
def exL : List Nat := [29341, 46657, 75361, 115921, 162401, 252601, 294409, 314821, 334153, 340561, 399001, 410041, 488881, 512461, 530881, 552721, 658801, 721801, 852841, 1024651, 1152271, 1193221, 1461241, 1569457, 1615681, 1857241, 1909001, 2100901, 2113921, 2433601, 2455921, 2508013, 2704801, 3057601, 3146221, 3581761, 3828001, 4335241, 4767841, 4903921, 5031181, 5049001, 5148001, 5310721, 5444489, 5481451, 5968873, 6049681, 6189121, 6313681, 6733693, 6868261, 7207201, 7519441, 8134561, 8341201, 8355841, 8646121, 8719309, 8927101, 9439201, 9494101, 9613297, 10024561, 10267951, 10402561, 10403641, 10606681, 10837321, 10877581, 11205601, 11972017, 12261061, 12262321, 12490201, 13696033, 14469841, 14676481, 14913991, 15247621, 15829633, 16046641, 17098369, 17236801, 17316001, 17586361, 18162001, 18307381, 19384289, 19683001, 20964961, 22885129, 23382529, 25603201, 26280073, 26921089, 26932081, 27062101, 27402481, 29020321, 29111881, 31405501, 33302401, 33596641, 34196401, 34657141, 35571601, 35703361, 36307981, 36765901, 37280881, 37964809, 38151361, 38624041, 40160737, 40430401, 40622401, 40917241, 42490801, 42702661, 43286881, 43331401, 43584481, 45877861, 45890209, 46094401, 48064021, 48321001, 48628801, 49333201, 50201089, 52204237, 53245921, 53711113, 55462177, 56052361, 58489201, 60957361, 62756641, 64377991, 64774081, 65037817, 65241793, 67653433, 67902031, 67994641, 68154001, 70561921, 75151441, 75681541, 75765313, 76595761, 77826001, 78091201, 78120001, 79398901, 79411201, 79624621, 80282161, 80918281, 80927821, 81638401, 81926461, 81954133, 82929001, 83099521, 83966401, 84311569, 84350561, 87318001, 90698401, 92625121, 96895441, 99036001, 99830641, 100427041, 101649241, 102090781, 104404861, 104569501, 105309289, 105869401, 106041937, 107714881, 109393201, 109577161, 111291181, 114329881, 114910489, 115039081, 116151661, 116682721, 118901521, 119327041, 120981601, 121247281, 122785741, 124630273, 127664461, 128697361, 129255841, 129762001, 130497361, 132511681, 133205761, 133344793, 133800661, 134809921, 134857801, 136625941, 139592101, 139952671, 140241361, 143168581, 144218341, 146843929, 150846961, 151530401, 151813201, 153589801, 153927961, 157731841, 158864833, 159492061, 161035057, 161913961, 163954561, 167979421, 168659569, 169057801, 169570801, 170782921, 171454321, 171679561, 172290241, 172430401, 172947529, 173085121, 176659201, 178451857, 178482151, 178837201, 180115489, 186393481, 186782401, 188516329, 188985961, 189941761, 193708801, 193910977, 194120389, 194675041, 196358977, 200753281, 206955841, 212027401, 213835861, 214852609, 216821881, 217145881, 220531501, 221884001, 226509361, 227752993, 228842209, 230630401, 237597361, 242641153, 246446929, 247095361, 250200721, 252141121, 255160621, 256828321, 257495641, 258634741, 270857521, 271794601, 273769921, 274569601, 275283401, 277241401, 278152381, 279377281, 280067761, 282707461, 288120421, 289860481, 291848401, 292244833, 292776121, 295826581, 299671921, 299736181, 300614161, 303373801, 311388337, 321602401, 326695141, 328573477, 329769721, 338740417, 346808881, 353815801, 354938221, 357380101, 358940737, 360067201, 361307521, 362569201, 364590721, 366532321, 366652201, 368113411, 382304161, 382536001, 390489121, 392099401, 393122521, 393513121, 395044651, 399906001, 403043257, 403317421, 405739681, 413058601, 413138881, 416964241, 418226581, 426821473, 428758201, 434330401, 434932961, 437247841, 438359041, 455106601, 457274161, 458368201, 461854261, 462199681, 468950021, 471441001, 471905281, 473847121, 481239361, 483006889, 483029821, 483786433, 484662529, 490099681, 492559141, 493108481, 496050841, 499310197, 507726901, 510825601, 511338241, 512096761, 516684961, 518117041, 518706721, 527761081, 529782121, 530443201, 532758241, 533860309, 540066241, 542497201, 545363281, 548871961, 549333121, 549538081, 551672221, 552894301, 555465601, 556199281, 556450777, 557160241, 558570961, 558977761, 561777121, 564651361, 568227241, 569332177, 573896881, 576691741, 577240273, 579606301, 580565233, 595405201, 597717121, 600892993, 602426161, 602593441, 609865201, 612816751, 616463809, 618068881, 620169409, 625060801, 625482001, 629692801, 631071001, 642708001, 643767931, 652969351, 656187001, 656723161, 659846021, 683032801, 683379841, 686059921, 696447181, 697906561, 698548201, 702683101, 704934361, 707926801, 710382401, 710541481, 711374401, 713588401, 717164449, 721244161, 727083001, 739444021, 743404663, 752102401, 759472561, 765245881, 771043201, 773131927, 775368901, 775866001, 781347841, 784966297, 790020001, 790623289, 794937601, 804978721, 809702401, 811110301, 814056001, 818742961, 822531841, 824389441, 824405041, 829678141, 832060801, 834244501, 834720601, 836515681, 839275921, 840749761, 843704401, 847491361, 851703301, 852081121, 852729121, 855734401, 863984881, 867800701, 868234081, 876850801, 882796321, 885336481, 888700681, 891706861, 897880321, 902645857, 914348737, 918661501, 922845241, 928482241, 930745621, 931694401, 933184801, 934784929, 935794081, 939947009, 940123801, 941056273, 947993761, 954732853, 955134181, 957044881, 958735681, 958762729, 962442001, 962500561, 963168193, 968553181, 975303121, 977737321, 977892241, 981789337, 985052881, 986088961, 990893569, 993420289, 993905641]
noncomputable def lMem (n : Nat) (l : List Nat) : Bool := List.rec false (fun x _ ih => Bool.rec ih true (Nat.beq n x)) l
theorem lMem_e {n : Nat} : ∀ {l : List Nat}, lMem n l = true → n ∈ l
  | [], h => by cases h
  | x :: l, h => by
    have h' : (Bool.rec (lMem n l) true (Nat.beq n x) : Bool) = true := h
    cases c : Nat.beq n x with
    | true => rw [Nat.eq_of_beq_eq_true c]; exact List.mem_cons_self
    | false => rw [c] at h'; exact List.mem_cons_of_mem _ (lMem_e h')
noncomputable def fpB (g n : Nat) : Bool := Nat.beq (mp g (Nat.sub n 1) n) 1
noncomputable def okn (n : Nat) : Bool := Bool.rec true (Bool.rec true (Bool.rec true (Bool.rec true (Bool.rec true (lMem n exL) (fpB 7 n)) (fpB 5 n)) (fpB 3 n)) (fpB 2 n)) (Nat.beq (Nat.gcd n 210) 1)
/-- powers of 2, 3, 5, 7 that leave 1 -/
def Q4 (p x : Nat) : Prop := (p : Int) ∣ (2 : Int) ^ x - 1 ∧ (p : Int) ∣ (3 : Int) ^ x - 1 ∧ (p : Int) ∣ (5 : Int) ^ x - 1 ∧ (p : Int) ∣ (7 : Int) ^ x - 1
theorem md_i {a x p : Nat} (hp : 2 ≤ p) : a ^ x % p = 1 ↔ (p : Int) ∣ (a : Int) ^ x - 1 := by
  have c : ((a ^ x : Nat) : Int) = (a : Int) ^ x := Int.natCast_pow a x
  rw [← c]
  constructor
  · intro h
    have := Nat.div_add_mod (a ^ x) p
    refine ⟨((a ^ x / p : Nat) : Int), ?_⟩
    rw [h] at this
    have e : ((p * (a ^ x / p) + 1 : Nat) : Int) = ((a ^ x : Nat) : Int) := by rw [this]
    rw [Int.natCast_add, Int.natCast_mul] at e
    omega
  · intro ⟨k, h⟩
    have h1 : ((a ^ x : Nat) : Int) = 1 + (p : Int) * k := by omega
    have h2 : ((a ^ x % p : Nat) : Int) = 1 := by
      rw [Int.natCast_emod, h1, Int.add_mul_emod_self_left]
      exact Int.emod_eq_of_lt (by omega) (by omega)
    exact_mod_cast h2
theorem fpB_e {g n : Nat} (hn : 2 ≤ n) (h : (n : Int) ∣ (g : Int) ^ (n - 1) - 1) : fpB g n = true := by
  have e : mp g (n - 1) n = 1 := by rw [mp_e]; exact (md_i hn).mpr h
  show Nat.beq (mp g (n - 1) n) 1 = true
  rw [e]; rfl
theorem okn_e {n : Nat} (hn : 2 ≤ n) (hg : Nat.gcd n 210 = 1) (hq : Q4 n (n - 1)) (h : okn n = true) : n ∈ exL := by
  unfold okn at h
  have g : Nat.beq (Nat.gcd n 210) 1 = true := by rw [hg]; rfl
  rw [g, fpB_e hn hq.1, fpB_e hn hq.2.1, fpB_e hn hq.2.2.1, fpB_e hn hq.2.2.2] at h
  exact lMem_e h
/-! ### exponents -/
theorem sub_d {m a : Int} {k l : Nat} (hk : k ≤ l) (h1 : m ∣ a ^ k - 1) (h2 : m ∣ a ^ l - 1) : m ∣ a ^ (l % k) - 1 := by
  have e : a ^ l = a ^ (k * (l / k)) * a ^ (l % k) := by rw [← Int.pow_add, Nat.div_add_mod]
  have h3 := one_dv h1 (Nat.dvd_mul_right k (l / k))
  have : a ^ (l % k) - 1 = (a ^ l - 1) - (a ^ (k * (l / k)) - 1) * a ^ (l % k) := by
    rw [e, Int.sub_mul]; omega
  rw [this]
  exact Int.dvd_sub h2 (Int.dvd_mul_of_dvd_left h3)
theorem sub_d' {m a : Int} {k l : Nat} (h1 : m ∣ a ^ k - 1) (h2 : m ∣ a ^ l - 1) : m ∣ a ^ (l % k) - 1 := by
  rcases Nat.lt_or_ge l k with q | q
  · rw [Nat.mod_eq_of_lt q]; exact h2
  · exact sub_d q h1 h2
theorem gcd_d {m a : Int} {k l : Nat} (h1 : m ∣ a ^ k - 1) (h2 : m ∣ a ^ l - 1) : m ∣ a ^ (Nat.gcd k l) - 1 := by
  induction k, l using Nat.gcd.induction with
  | H0 n => rw [Nat.gcd_zero_left]; exact h2
  | H1 k l hk ih => rw [Nat.gcd_rec]; exact ih (sub_d' h1 h2) h1
theorem Q4.gcd {p k l : Nat} (h1 : Q4 p k) (h2 : Q4 p l) : Q4 p (Nat.gcd k l) := ⟨gcd_d h1.1 h2.1, gcd_d h1.2.1 h2.2.1, gcd_d h1.2.2.1 h2.2.2.1, gcd_d h1.2.2.2 h2.2.2.2⟩
theorem Q4.dv {p k l : Nat} (h : Q4 p k) (d : k ∣ l) : Q4 p l := ⟨one_dv h.1 d, one_dv h.2.1 d, one_dv h.2.2.1 d, one_dv h.2.2.2 d⟩
theorem Q4.down {p n x : Nat} (h : Q4 n x) (d : p ∣ n) : Q4 p x := by
  have c := Int.natCast_dvd_natCast.mpr d
  exact ⟨Int.dvd_trans c h.1, Int.dvd_trans c h.2.1, Int.dvd_trans c h.2.2.1, Int.dvd_trans c h.2.2.2⟩
/-- behind a prime factor: what remains of the exponent -/
theorem rest_d {p m a : Nat} (hp : PN p) (ha : ¬ p ∣ a) (hm : 1 ≤ m) (h : (p : Int) ∣ (a : Int) ^ (p * m - 1) - 1) : (p : Int) ∣ (a : Int) ^ (m - 1) - 1 := by
  have f := one_dv (flt hp ha) (Nat.dvd_mul_right (p - 1) m)
  have e : p * m - 1 = (p - 1) * m + (m - 1) := by
    obtain ⟨p, rfl⟩ : ∃ j, p = j + 1 := ⟨p - 1, by have := hp.1; omega⟩
    rw [Nat.add_sub_cancel, Nat.add_mul, Nat.one_mul]
    omega
  rw [e, Int.pow_add] at h
  have : (a : Int) ^ (m - 1) - 1 = ((a : Int) ^ ((p - 1) * m) * (a : Int) ^ (m - 1) - 1) - ((a : Int) ^ ((p - 1) * m) - 1) * (a : Int) ^ (m - 1) := by
    rw [Int.sub_mul]; omega
  rw [this]
  exact Int.dvd_sub h (Int.dvd_mul_of_dvd_left f)
theorem nd_210 {p n a : Nat} (hp : 2 ≤ p) (hd : p ∣ n) (hg : Nat.gcd n 210 = 1) (ha : a ∣ 210) : ¬ p ∣ a := fun z => by
  have : p ∣ Nat.gcd n 210 := Nat.dvd_gcd hd (Nat.dvd_trans z ha)
  rw [hg] at this
  have := Nat.le_of_dvd (by omega) this
  omega
theorem Q4.rest {p m : Nat} (hp : PN p) (hm : 1 ≤ m) (hg : Nat.gcd (p * m) 210 = 1) (h : Q4 (p * m) (p * m - 1)) : Q4 p (m - 1) := by
  have d := h.down (Nat.dvd_mul_right p m)
  have nd : ∀ a, a ∣ 210 → ¬ p ∣ a := fun a ha => nd_210 hp.1 (Nat.dvd_mul_right p m) hg ha
  exact ⟨rest_d (a := 2) hp (nd 2 ⟨105, rfl⟩) hm d.1, rest_d (a := 3) hp (nd 3 ⟨70, rfl⟩) hm d.2.1, rest_d (a := 5) hp (nd 5 ⟨42, rfl⟩) hm d.2.2.1, rest_d (a := 7) hp (nd 7 ⟨30, rfl⟩) hm d.2.2.2⟩
/-! ### prime factors -/
theorem pn_ex : ∀ n : Nat, 2 ≤ n → ∃ p, PN p ∧ p ∣ n := by
  intro n
  induction n using Nat.strongRecOn with
  | _ n ih =>
    intro hn
    by_cases h : PN n
    · exact ⟨n, h, Nat.dvd_refl n⟩
    · have : ∃ d, d ∣ n ∧ d ≠ 1 ∧ d ≠ n := Classical.byContradiction fun q => h ⟨hn, fun d hd => Classical.byContradiction fun r => q ⟨d, hd, fun z => r (Or.inl z), fun z => r (Or.inr z)⟩⟩
      obtain ⟨d, hd, h1, h2⟩ := this
      have l := Nat.le_of_dvd (by omega) hd
      have d0 : d ≠ 0 := fun z => by subst z; have := Nat.eq_zero_of_zero_dvd hd; omega
      obtain ⟨p, hp, hq⟩ := ih d (by omega) (by omega)
      exact ⟨p, hp, Nat.dvd_trans hq hd⟩
theorem PN.isP {n : Nat} (h : PN n) : isP (n : Int) := by
  refine ⟨by have := h.1; omega, fun d h2 hd hm => ?_⟩
  obtain ⟨d, rfl⟩ := Int.eq_ofNat_of_zero_le (show 0 ≤ d by omega)
  have hm' : d ∣ n := Int.natCast_dvd_natCast.mp (Int.dvd_of_emod_eq_zero hm)
  rcases h.2 d hm' with q | q
  · omega
  · subst q
    have : (2 : Int) * d ≤ d * d := Int.mul_le_mul_of_nonneg_right h2 (by omega)
    omega
