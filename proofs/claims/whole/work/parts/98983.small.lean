/-! small ones, and what a base gives -/
noncomputable def z_ws (Q k : Nat) : Nat → Bool := Nat.rec (fun _ => true) (fun _ ih x => Bool.rec false (ih (Nat.add x (nat_lit 2))) (Bool.rec true (z_tQ (Nat.sub x (nat_lit 1)) z_l7) (Nat.beq (Nat.gcd x Q) (nat_lit 1)))) k
def zSm (n : Nat) : Prop := ∀ q, PN q → 101 ≤ q → q < n → q % 2 = 1 → zG q
theorem zSm.z : zSm 101 := fun q _ h1 h2 => by omega
theorem z_ws_e {Q d : Nat} (hQ : Nat.mod (prd d 1) Q = 0) : ∀ k x, x % 2 = 1 → 2 ^ d < x → x + 2 * k ≤ 500000000 → z_ws Q k x = true → zSm x → zSm (x + 2 * k)
  | 0, x, _, _, _, _, p => p
  | k + 1, x, od, hx, hN, h, p => by
    have e : z_ws Q (k + 1) x = if (if Nat.beq (Nat.gcd x Q) (nat_lit 1) = true then z_tQ (Nat.sub x (nat_lit 1)) z_l7 else true) = true then z_ws Q k (Nat.add x (nat_lit 2)) else false := by
      show @Bool.rec (fun _ => Bool) false (z_ws Q k (Nat.add x (nat_lit 2))) (@Bool.rec (fun _ => Bool) true (z_tQ (Nat.sub x (nat_lit 1)) z_l7) (Nat.beq (Nat.gcd x Q) (nat_lit 1))) = _
      rw [z_if, z_if]
    rw [e] at h
    by_cases y : (if Nat.beq (Nat.gcd x Q) (nat_lit 1) = true then z_tQ (Nat.sub x (nat_lit 1)) z_l7 else true) = true
    · rw [if_pos y] at h
      have r := z_ws_e hQ k (x + 2) (by omega) (by omega) (by omega) h fun q hq h1 h2 o => by
        by_cases qx : q < x
        · exact p q hq h1 qx o
        · have qe : q = x := by omega
          subst qe
          have c : Nat.gcd q Q = 1 := hq.co fun dd => by
            have := prd_e hq d 1 (Nat.le_refl 1) (Nat.dvd_trans dd (Nat.dvd_of_mod_eq_zero hQ))
            omega
          rw [if_pos (by rw [c]; rfl)] at y
          have g := zG.of z_l7_ok y (by show (q - 1) % 2 = 0; omega) (by show 1 ≤ q - 1; omega) (by show q - 1 ≤ 520000000; omega)
          have e1 : Nat.sub q (nat_lit 1) + 1 = q := by show q - 1 + 1 = q; omega
          rw [e1] at g
          exact g
      rw [show x + 2 * (k + 1) = x + 2 + 2 * k by omega]
      exact r
    · rw [if_neg y] at h; cases h
theorem zs_0 : zSm 289 := z_ws_e (Q := nat_lit 30030) (d := 4) (by decide +kernel) 94 101 rfl (by decide) (by decide) (by decide +kernel) zSm.z
theorem zs_1 : zSm 689 := z_ws_e (Q := nat_lit 5397346292805549782720214077673687806275517530364350655459511599582614290) (d := 8) (by decide +kernel) 200 289 rfl (by decide) (by decide) (by decide +kernel) zs_0
theorem zs_2 : zSm 1089 := z_ws_e (Q := nat_lit 5397346292805549782720214077673687806275517530364350655459511599582614290) (d := 8) (by decide +kernel) 200 689 rfl (by decide) (by decide) (by decide +kernel) zs_1
theorem zs_3 : zSm 1489 := z_ws_e (Q := nat_lit 5397346292805549782720214077673687806275517530364350655459511599582614290) (d := 8) (by decide +kernel) 200 1089 rfl (by decide) (by decide) (by decide +kernel) zs_2
theorem zs_4 : zSm 1889 := z_ws_e (Q := nat_lit 5397346292805549782720214077673687806275517530364350655459511599582614290) (d := 8) (by decide +kernel) 200 1489 rfl (by decide) (by decide) (by decide +kernel) zs_3
theorem zs_5 : zSm 2289 := z_ws_e (Q := nat_lit 5397346292805549782720214077673687806275517530364350655459511599582614290) (d := 8) (by decide +kernel) 200 1889 rfl (by decide) (by decide) (by decide +kernel) zs_4
theorem zs_6 : zSm 2689 := z_ws_e (Q := nat_lit 5397346292805549782720214077673687806275517530364350655459511599582614290) (d := 8) (by decide +kernel) 200 2289 rfl (by decide) (by decide) (by decide +kernel) zs_5
theorem zs_7 : zSm 3089 := z_ws_e (Q := nat_lit 5397346292805549782720214077673687806275517530364350655459511599582614290) (d := 8) (by decide +kernel) 200 2689 rfl (by decide) (by decide) (by decide +kernel) zs_6
theorem zs_8 : zSm 3489 := z_ws_e (Q := nat_lit 5397346292805549782720214077673687806275517530364350655459511599582614290) (d := 8) (by decide +kernel) 200 3089 rfl (by decide) (by decide) (by decide +kernel) zs_7
theorem zs_9 : zSm 3889 := z_ws_e (Q := nat_lit 5397346292805549782720214077673687806275517530364350655459511599582614290) (d := 8) (by decide +kernel) 200 3489 rfl (by decide) (by decide) (by decide +kernel) zs_8
theorem zs_10 : zSm 4289 := z_ws_e (Q := nat_lit 5397346292805549782720214077673687806275517530364350655459511599582614290) (d := 8) (by decide +kernel) 200 3889 rfl (by decide) (by decide) (by decide +kernel) zs_9
theorem zs_11 : zSm 4689 := z_ws_e (Q := nat_lit 5397346292805549782720214077673687806275517530364350655459511599582614290) (d := 8) (by decide +kernel) 200 4289 rfl (by decide) (by decide) (by decide +kernel) zs_10
theorem zs_12 : zSm 5089 := z_ws_e (Q := nat_lit 5397346292805549782720214077673687806275517530364350655459511599582614290) (d := 8) (by decide +kernel) 200 4689 rfl (by decide) (by decide) (by decide +kernel) zs_11
theorem zs_13 : zSm 5489 := z_ws_e (Q := nat_lit 5397346292805549782720214077673687806275517530364350655459511599582614290) (d := 8) (by decide +kernel) 200 5089 rfl (by decide) (by decide) (by decide +kernel) zs_12
theorem zs_14 : zSm 5889 := z_ws_e (Q := nat_lit 5397346292805549782720214077673687806275517530364350655459511599582614290) (d := 8) (by decide +kernel) 200 5489 rfl (by decide) (by decide) (by decide +kernel) zs_13
theorem zs_15 : zSm 6289 := z_ws_e (Q := nat_lit 5397346292805549782720214077673687806275517530364350655459511599582614290) (d := 8) (by decide +kernel) 200 5889 rfl (by decide) (by decide) (by decide +kernel) zs_14
theorem zs_16 : zSm 6689 := z_ws_e (Q := nat_lit 5397346292805549782720214077673687806275517530364350655459511599582614290) (d := 8) (by decide +kernel) 200 6289 rfl (by decide) (by decide) (by decide +kernel) zs_15
theorem zs_17 : zSm 7089 := z_ws_e (Q := nat_lit 5397346292805549782720214077673687806275517530364350655459511599582614290) (d := 8) (by decide +kernel) 200 6689 rfl (by decide) (by decide) (by decide +kernel) zs_16
theorem zs_18 : zSm 7489 := z_ws_e (Q := nat_lit 5397346292805549782720214077673687806275517530364350655459511599582614290) (d := 8) (by decide +kernel) 200 7089 rfl (by decide) (by decide) (by decide +kernel) zs_17
theorem zs_19 : zSm 7889 := z_ws_e (Q := nat_lit 5397346292805549782720214077673687806275517530364350655459511599582614290) (d := 8) (by decide +kernel) 200 7489 rfl (by decide) (by decide) (by decide +kernel) zs_18
theorem zs_20 : zSm 8289 := z_ws_e (Q := nat_lit 5397346292805549782720214077673687806275517530364350655459511599582614290) (d := 8) (by decide +kernel) 200 7889 rfl (by decide) (by decide) (by decide +kernel) zs_19
theorem zs_21 : zSm 8689 := z_ws_e (Q := nat_lit 5397346292805549782720214077673687806275517530364350655459511599582614290) (d := 8) (by decide +kernel) 200 8289 rfl (by decide) (by decide) (by decide +kernel) zs_20
theorem zs_22 : zSm 9089 := z_ws_e (Q := nat_lit 5397346292805549782720214077673687806275517530364350655459511599582614290) (d := 8) (by decide +kernel) 200 8689 rfl (by decide) (by decide) (by decide +kernel) zs_21
theorem zs_23 : zSm 9489 := z_ws_e (Q := nat_lit 5397346292805549782720214077673687806275517530364350655459511599582614290) (d := 8) (by decide +kernel) 200 9089 rfl (by decide) (by decide) (by decide +kernel) zs_22
theorem zs_24 : zSm 9889 := z_ws_e (Q := nat_lit 5397346292805549782720214077673687806275517530364350655459511599582614290) (d := 8) (by decide +kernel) 200 9489 rfl (by decide) (by decide) (by decide +kernel) zs_23
theorem zs_25 : zSm 10289 := z_ws_e (Q := nat_lit 5397346292805549782720214077673687806275517530364350655459511599582614290) (d := 8) (by decide +kernel) 200 9889 rfl (by decide) (by decide) (by decide +kernel) zs_24
theorem zs_26 : zSm 10689 := z_ws_e (Q := nat_lit 5397346292805549782720214077673687806275517530364350655459511599582614290) (d := 8) (by decide +kernel) 200 10289 rfl (by decide) (by decide) (by decide +kernel) zs_25
theorem zs_27 : zSm 11089 := z_ws_e (Q := nat_lit 5397346292805549782720214077673687806275517530364350655459511599582614290) (d := 8) (by decide +kernel) 200 10689 rfl (by decide) (by decide) (by decide +kernel) zs_26
theorem zs_28 : zSm 11489 := z_ws_e (Q := nat_lit 5397346292805549782720214077673687806275517530364350655459511599582614290) (d := 8) (by decide +kernel) 200 11089 rfl (by decide) (by decide) (by decide +kernel) zs_27
theorem zs_29 : zSm 11889 := z_ws_e (Q := nat_lit 5397346292805549782720214077673687806275517530364350655459511599582614290) (d := 8) (by decide +kernel) 200 11489 rfl (by decide) (by decide) (by decide +kernel) zs_28
theorem zs_30 : zSm 12289 := z_ws_e (Q := nat_lit 5397346292805549782720214077673687806275517530364350655459511599582614290) (d := 8) (by decide +kernel) 200 11889 rfl (by decide) (by decide) (by decide +kernel) zs_29
theorem zs_31 : zSm 12689 := z_ws_e (Q := nat_lit 5397346292805549782720214077673687806275517530364350655459511599582614290) (d := 8) (by decide +kernel) 200 12289 rfl (by decide) (by decide) (by decide +kernel) zs_30
theorem zs_32 : zSm 13089 := z_ws_e (Q := nat_lit 5397346292805549782720214077673687806275517530364350655459511599582614290) (d := 8) (by decide +kernel) 200 12689 rfl (by decide) (by decide) (by decide +kernel) zs_31
theorem zs_33 : zSm 13489 := z_ws_e (Q := nat_lit 5397346292805549782720214077673687806275517530364350655459511599582614290) (d := 8) (by decide +kernel) 200 13089 rfl (by decide) (by decide) (by decide +kernel) zs_32
theorem zs_34 : zSm 13889 := z_ws_e (Q := nat_lit 5397346292805549782720214077673687806275517530364350655459511599582614290) (d := 8) (by decide +kernel) 200 13489 rfl (by decide) (by decide) (by decide +kernel) zs_33
theorem zs_35 : zSm 14289 := z_ws_e (Q := nat_lit 5397346292805549782720214077673687806275517530364350655459511599582614290) (d := 8) (by decide +kernel) 200 13889 rfl (by decide) (by decide) (by decide +kernel) zs_34
theorem zs_36 : zSm 14689 := z_ws_e (Q := nat_lit 5397346292805549782720214077673687806275517530364350655459511599582614290) (d := 8) (by decide +kernel) 200 14289 rfl (by decide) (by decide) (by decide +kernel) zs_35
theorem zs_37 : zSm 15089 := z_ws_e (Q := nat_lit 5397346292805549782720214077673687806275517530364350655459511599582614290) (d := 8) (by decide +kernel) 200 14689 rfl (by decide) (by decide) (by decide +kernel) zs_36
theorem zs_38 : zSm 15489 := z_ws_e (Q := nat_lit 5397346292805549782720214077673687806275517530364350655459511599582614290) (d := 8) (by decide +kernel) 200 15089 rfl (by decide) (by decide) (by decide +kernel) zs_37
theorem zs_39 : zSm 15889 := z_ws_e (Q := nat_lit 5397346292805549782720214077673687806275517530364350655459511599582614290) (d := 8) (by decide +kernel) 200 15489 rfl (by decide) (by decide) (by decide +kernel) zs_38
theorem zs_40 : zSm 16289 := z_ws_e (Q := nat_lit 5397346292805549782720214077673687806275517530364350655459511599582614290) (d := 8) (by decide +kernel) 200 15889 rfl (by decide) (by decide) (by decide +kernel) zs_39
theorem zs_41 : zSm 16689 := z_ws_e (Q := nat_lit 5397346292805549782720214077673687806275517530364350655459511599582614290) (d := 8) (by decide +kernel) 200 16289 rfl (by decide) (by decide) (by decide +kernel) zs_40
theorem zs_42 : zSm 17089 := z_ws_e (Q := nat_lit 5397346292805549782720214077673687806275517530364350655459511599582614290) (d := 8) (by decide +kernel) 200 16689 rfl (by decide) (by decide) (by decide +kernel) zs_41
theorem zs_43 : zSm 17489 := z_ws_e (Q := nat_lit 5397346292805549782720214077673687806275517530364350655459511599582614290) (d := 8) (by decide +kernel) 200 17089 rfl (by decide) (by decide) (by decide +kernel) zs_42
theorem zs_44 : zSm 17889 := z_ws_e (Q := nat_lit 5397346292805549782720214077673687806275517530364350655459511599582614290) (d := 8) (by decide +kernel) 200 17489 rfl (by decide) (by decide) (by decide +kernel) zs_43
theorem zs_45 : zSm 18289 := z_ws_e (Q := nat_lit 5397346292805549782720214077673687806275517530364350655459511599582614290) (d := 8) (by decide +kernel) 200 17889 rfl (by decide) (by decide) (by decide +kernel) zs_44
theorem zs_46 : zSm 18689 := z_ws_e (Q := nat_lit 5397346292805549782720214077673687806275517530364350655459511599582614290) (d := 8) (by decide +kernel) 200 18289 rfl (by decide) (by decide) (by decide +kernel) zs_45
theorem zs_47 : zSm 19089 := z_ws_e (Q := nat_lit 5397346292805549782720214077673687806275517530364350655459511599582614290) (d := 8) (by decide +kernel) 200 18689 rfl (by decide) (by decide) (by decide +kernel) zs_46
theorem zs_48 : zSm 19489 := z_ws_e (Q := nat_lit 5397346292805549782720214077673687806275517530364350655459511599582614290) (d := 8) (by decide +kernel) 200 19089 rfl (by decide) (by decide) (by decide +kernel) zs_47
theorem zs_49 : zSm 19889 := z_ws_e (Q := nat_lit 5397346292805549782720214077673687806275517530364350655459511599582614290) (d := 8) (by decide +kernel) 200 19489 rfl (by decide) (by decide) (by decide +kernel) zs_48
theorem zs_50 : zSm 20289 := z_ws_e (Q := nat_lit 5397346292805549782720214077673687806275517530364350655459511599582614290) (d := 8) (by decide +kernel) 200 19889 rfl (by decide) (by decide) (by decide +kernel) zs_49
theorem zs_51 : zSm 20689 := z_ws_e (Q := nat_lit 5397346292805549782720214077673687806275517530364350655459511599582614290) (d := 8) (by decide +kernel) 200 20289 rfl (by decide) (by decide) (by decide +kernel) zs_50
theorem zs_52 : zSm 21089 := z_ws_e (Q := nat_lit 5397346292805549782720214077673687806275517530364350655459511599582614290) (d := 8) (by decide +kernel) 200 20689 rfl (by decide) (by decide) (by decide +kernel) zs_51
theorem zs_53 : zSm 21489 := z_ws_e (Q := nat_lit 5397346292805549782720214077673687806275517530364350655459511599582614290) (d := 8) (by decide +kernel) 200 21089 rfl (by decide) (by decide) (by decide +kernel) zs_52
theorem zs_54 : zSm 21889 := z_ws_e (Q := nat_lit 5397346292805549782720214077673687806275517530364350655459511599582614290) (d := 8) (by decide +kernel) 200 21489 rfl (by decide) (by decide) (by decide +kernel) zs_53
theorem zs_55 : zSm 22289 := z_ws_e (Q := nat_lit 5397346292805549782720214077673687806275517530364350655459511599582614290) (d := 8) (by decide +kernel) 200 21889 rfl (by decide) (by decide) (by decide +kernel) zs_54
theorem zs_56 : zSm 22689 := z_ws_e (Q := nat_lit 5397346292805549782720214077673687806275517530364350655459511599582614290) (d := 8) (by decide +kernel) 200 22289 rfl (by decide) (by decide) (by decide +kernel) zs_55
theorem zs_57 : zSm 23089 := z_ws_e (Q := nat_lit 5397346292805549782720214077673687806275517530364350655459511599582614290) (d := 8) (by decide +kernel) 200 22689 rfl (by decide) (by decide) (by decide +kernel) zs_56
theorem zs_58 : zSm 23489 := z_ws_e (Q := nat_lit 5397346292805549782720214077673687806275517530364350655459511599582614290) (d := 8) (by decide +kernel) 200 23089 rfl (by decide) (by decide) (by decide +kernel) zs_57
theorem zs_59 : zSm 23889 := z_ws_e (Q := nat_lit 5397346292805549782720214077673687806275517530364350655459511599582614290) (d := 8) (by decide +kernel) 200 23489 rfl (by decide) (by decide) (by decide +kernel) zs_58
theorem zs_60 : zSm 24289 := z_ws_e (Q := nat_lit 5397346292805549782720214077673687806275517530364350655459511599582614290) (d := 8) (by decide +kernel) 200 23889 rfl (by decide) (by decide) (by decide +kernel) zs_59
theorem zs_61 : zSm 24689 := z_ws_e (Q := nat_lit 5397346292805549782720214077673687806275517530364350655459511599582614290) (d := 8) (by decide +kernel) 200 24289 rfl (by decide) (by decide) (by decide +kernel) zs_60
theorem zs_62 : zSm 25089 := z_ws_e (Q := nat_lit 5397346292805549782720214077673687806275517530364350655459511599582614290) (d := 8) (by decide +kernel) 200 24689 rfl (by decide) (by decide) (by decide +kernel) zs_61
theorem zs_63 : zSm 25489 := z_ws_e (Q := nat_lit 5397346292805549782720214077673687806275517530364350655459511599582614290) (d := 8) (by decide +kernel) 200 25089 rfl (by decide) (by decide) (by decide +kernel) zs_62
theorem zs_64 : zSm 25889 := z_ws_e (Q := nat_lit 5397346292805549782720214077673687806275517530364350655459511599582614290) (d := 8) (by decide +kernel) 200 25489 rfl (by decide) (by decide) (by decide +kernel) zs_63
theorem zs_65 : zSm 26289 := z_ws_e (Q := nat_lit 5397346292805549782720214077673687806275517530364350655459511599582614290) (d := 8) (by decide +kernel) 200 25889 rfl (by decide) (by decide) (by decide +kernel) zs_64
theorem zs_66 : zSm 26689 := z_ws_e (Q := nat_lit 5397346292805549782720214077673687806275517530364350655459511599582614290) (d := 8) (by decide +kernel) 200 26289 rfl (by decide) (by decide) (by decide +kernel) zs_65
theorem zs_67 : zSm 27089 := z_ws_e (Q := nat_lit 5397346292805549782720214077673687806275517530364350655459511599582614290) (d := 8) (by decide +kernel) 200 26689 rfl (by decide) (by decide) (by decide +kernel) zs_66
theorem zs_68 : zSm 27489 := z_ws_e (Q := nat_lit 5397346292805549782720214077673687806275517530364350655459511599582614290) (d := 8) (by decide +kernel) 200 27089 rfl (by decide) (by decide) (by decide +kernel) zs_67
theorem zs_69 : zSm 27889 := z_ws_e (Q := nat_lit 5397346292805549782720214077673687806275517530364350655459511599582614290) (d := 8) (by decide +kernel) 200 27489 rfl (by decide) (by decide) (by decide +kernel) zs_68
theorem zs_70 : zSm 28289 := z_ws_e (Q := nat_lit 5397346292805549782720214077673687806275517530364350655459511599582614290) (d := 8) (by decide +kernel) 200 27889 rfl (by decide) (by decide) (by decide +kernel) zs_69
theorem zs_71 : zSm 28689 := z_ws_e (Q := nat_lit 5397346292805549782720214077673687806275517530364350655459511599582614290) (d := 8) (by decide +kernel) 200 28289 rfl (by decide) (by decide) (by decide +kernel) zs_70
theorem zs_72 : zSm 29089 := z_ws_e (Q := nat_lit 5397346292805549782720214077673687806275517530364350655459511599582614290) (d := 8) (by decide +kernel) 200 28689 rfl (by decide) (by decide) (by decide +kernel) zs_71
theorem zs_73 : zSm 29489 := z_ws_e (Q := nat_lit 5397346292805549782720214077673687806275517530364350655459511599582614290) (d := 8) (by decide +kernel) 200 29089 rfl (by decide) (by decide) (by decide +kernel) zs_72
theorem zs_74 : zSm 29889 := z_ws_e (Q := nat_lit 5397346292805549782720214077673687806275517530364350655459511599582614290) (d := 8) (by decide +kernel) 200 29489 rfl (by decide) (by decide) (by decide +kernel) zs_73
theorem zs_75 : zSm 30289 := z_ws_e (Q := nat_lit 5397346292805549782720214077673687806275517530364350655459511599582614290) (d := 8) (by decide +kernel) 200 29889 rfl (by decide) (by decide) (by decide +kernel) zs_74
theorem zs_76 : zSm 30689 := z_ws_e (Q := nat_lit 5397346292805549782720214077673687806275517530364350655459511599582614290) (d := 8) (by decide +kernel) 200 30289 rfl (by decide) (by decide) (by decide +kernel) zs_75
theorem zs_77 : zSm 31089 := z_ws_e (Q := nat_lit 5397346292805549782720214077673687806275517530364350655459511599582614290) (d := 8) (by decide +kernel) 200 30689 rfl (by decide) (by decide) (by decide +kernel) zs_76
theorem zs_78 : zSm 31489 := z_ws_e (Q := nat_lit 5397346292805549782720214077673687806275517530364350655459511599582614290) (d := 8) (by decide +kernel) 200 31089 rfl (by decide) (by decide) (by decide +kernel) zs_77
theorem zs_79 : zSm 31889 := z_ws_e (Q := nat_lit 5397346292805549782720214077673687806275517530364350655459511599582614290) (d := 8) (by decide +kernel) 200 31489 rfl (by decide) (by decide) (by decide +kernel) zs_78
theorem zs_80 : zSm 32289 := z_ws_e (Q := nat_lit 5397346292805549782720214077673687806275517530364350655459511599582614290) (d := 8) (by decide +kernel) 200 31889 rfl (by decide) (by decide) (by decide +kernel) zs_79
theorem zs_81 : zSm 32689 := z_ws_e (Q := nat_lit 5397346292805549782720214077673687806275517530364350655459511599582614290) (d := 8) (by decide +kernel) 200 32289 rfl (by decide) (by decide) (by decide +kernel) zs_80
theorem zs_82 : zSm 33089 := z_ws_e (Q := nat_lit 5397346292805549782720214077673687806275517530364350655459511599582614290) (d := 8) (by decide +kernel) 200 32689 rfl (by decide) (by decide) (by decide +kernel) zs_81
theorem zs_83 : zSm 33489 := z_ws_e (Q := nat_lit 5397346292805549782720214077673687806275517530364350655459511599582614290) (d := 8) (by decide +kernel) 200 33089 rfl (by decide) (by decide) (by decide +kernel) zs_82
theorem zs_84 : zSm 33889 := z_ws_e (Q := nat_lit 5397346292805549782720214077673687806275517530364350655459511599582614290) (d := 8) (by decide +kernel) 200 33489 rfl (by decide) (by decide) (by decide +kernel) zs_83
theorem zs_85 : zSm 34289 := z_ws_e (Q := nat_lit 5397346292805549782720214077673687806275517530364350655459511599582614290) (d := 8) (by decide +kernel) 200 33889 rfl (by decide) (by decide) (by decide +kernel) zs_84
theorem zs_86 : zSm 34689 := z_ws_e (Q := nat_lit 5397346292805549782720214077673687806275517530364350655459511599582614290) (d := 8) (by decide +kernel) 200 34289 rfl (by decide) (by decide) (by decide +kernel) zs_85
theorem zs_87 : zSm 35089 := z_ws_e (Q := nat_lit 5397346292805549782720214077673687806275517530364350655459511599582614290) (d := 8) (by decide +kernel) 200 34689 rfl (by decide) (by decide) (by decide +kernel) zs_86
theorem zs_88 : zSm 35489 := z_ws_e (Q := nat_lit 5397346292805549782720214077673687806275517530364350655459511599582614290) (d := 8) (by decide +kernel) 200 35089 rfl (by decide) (by decide) (by decide +kernel) zs_87
theorem zs_89 : zSm 35889 := z_ws_e (Q := nat_lit 5397346292805549782720214077673687806275517530364350655459511599582614290) (d := 8) (by decide +kernel) 200 35489 rfl (by decide) (by decide) (by decide +kernel) zs_88
theorem zs_90 : zSm 36001 := z_ws_e (Q := nat_lit 5397346292805549782720214077673687806275517530364350655459511599582614290) (d := 8) (by decide +kernel) 56 35889 rfl (by decide) (by decide) (by decide +kernel) zs_89
theorem zSm_all : zSm 36001 := zs_90
theorem fstB_n {c : Int → Bool} : ∀ {k : Nat} {a : Int}, fstB c k a = none → ∀ v, a ≤ v → v < a + k → c v = false
  | 0, a, _, v, h1, h2 => by omega
  | k + 1, a, h, v, h1, h2 => by
    unfold fstB at h
    by_cases q : c a = true
    · rw [if_pos q] at h; cases h
    · rw [if_neg q] at h
      by_cases e : v = a
      · subst e
        cases z : c v
        · rfl
        · exact absurd z q
      · exact fstB_n h v (by omega) (by omega)
theorem z_fd {q : Nat} (hq : PN q) (h3 : 3 ≤ q) (od : q % 2 = 1) (hN : q ≤ 1000000000) (g : zG q) : fdS (q : Int) 1 ≠ none := by
  have ip := hq.isP
  have nb : nbOK (q : Int) := ⟨by omega, by omega, by omega⟩
  obtain ⟨a, a2, a9, r2, r⟩ := g
  have eq1 : ((q : Int) - 1) = ((q - 1 : Nat) : Int) := by omega
  have qe : q - 1 + 1 = q := by omega
  have na : ¬ q ∣ a := fun z => by
    have t : q ∣ a ^ ((q - 1) / 2) := by
      have : (q - 1) / 2 ≠ 0 := by omega
      obtain ⟨s, hs⟩ : ∃ s, (q - 1) / 2 = s + 1 := ⟨(q - 1) / 2 - 1, by omega⟩
      rw [hs, Nat.pow_succ]
      exact Nat.dvd_trans z (Nat.dvd_mul_left a _)
    unfold zR at r2
    rw [qe, Nat.mod_eq_zero_of_dvd t] at r2
    omega
  have d5 : d5 (q : Int) (((facS ((q : Int) - 1)).map (rD 0)).map fun x => (x.1, x.2.1, (a : Int))) = true := by
    unfold d5
    refine List.all_eq_true.mpr fun x hx => ?_
    obtain ⟨y, -, rfl⟩ := List.mem_map.mp hx
    show decide (pwS (a : Int) ((q : Int) - 1) (q : Int) = 1) = true
    rw [eq1, pw_n, (md_i (by omega)).mpr (flt hq na)]
    rfl
  have d6 : d6 (q : Int) (((facS ((q : Int) - 1)).map (rD 0)).map fun x => (x.1, x.2.1, (a : Int))) = true := by
    unfold d6
    refine List.all_eq_true.mpr fun x hx => ?_
    obtain ⟨y, hy, rfl⟩ := List.mem_map.mp hx
    obtain ⟨w, hw, rfl⟩ := List.mem_map.mp hy
    have f := nb_lo1 nb hw
    show decide (gcS ((pwS (a : Int) (((q : Int) - 1) / w.1) (q : Int) - 1) % (q : Int)) (q : Int) = 1) = true
    have wp := f.1.pn
    have wd := f.2.2.2.1
    have w1 := f.1.1
    generalize w.1 = p at *
    obtain ⟨p, rfl⟩ := Int.eq_ofNat_of_zero_le (show 0 ≤ p by omega)
    rw [Int.toNat_natCast] at wp
    rw [eq1] at wd ⊢
    have pd : p ∣ q - 1 := Int.natCast_dvd_natCast.mp wd
    have rp := r p wp pd
    unfold zR at rp
    rw [qe] at rp
    rw [← Int.natCast_ediv, pw_n]
    have lt := Nat.mod_lt (a ^ ((q - 1) / p)) (show q > 0 by omega)
    generalize a ^ ((q - 1) / p) % q = v at *
    rw [show ((v : Int) - 1) = ((v - 1 : Nat) : Int) by omega, ← Int.natCast_emod, Nat.mod_eq_of_lt (show v - 1 < q by omega)]
    unfold gcS
    rw [Int.toNat_natCast, Int.toNat_natCast, Nat.gcd_comm, hq.co fun z => by
      have := Nat.le_of_dvd (by omega) z
      omega]
    rfl
  unfold fdS
  rw [if_pos (prS_t ip), if_neg (by omega), if_neg (by omega)]
  unfold seS
  rw [if_pos rfl, show lyS (q : Int) 1 0 = ((facS ((q : Int) - 1)).map (rD 0), []) by unfold lyS; rw [if_pos rfl]]
  show (match fbS (q : Int) ((facS ((q : Int) - 1)).map (rD 0)) with
    | some a => some (((q : Int), (1 : Int), (0 : Int), (0 : Int)), ((facS ((q : Int) - 1)).map (rD 0)).map (fun r => (r.1, r.2.1, a)), [])
    | none => none) ≠ none
  cases hf : fbS (q : Int) ((facS ((q : Int) - 1)).map (rD 0)) with
  | some b => exact fun z => by cases z
  | none =>
    have t := fstB_n hf (a : Int) (by omega) (by omega)
    have : dfS (q : Int) (((facS ((q : Int) - 1)).map (rD 0)).map fun x => (x.1, x.2.1, (a : Int))) = 0 := by
      unfold dfS
      rw [if_pos d5, if_pos d6]
    rw [this] at t
    cases t
theorem z_FA {q k : Nat} (h : PN (k * q + 1) ∨ PN (k * q - 1)) (e : k = 2) : zFA q := by subst e; exact h
theorem z_FB {q k : Nat} (h : PN (k * q + 1) ∨ PN (k * q - 1)) (e : k = 2 ∨ k = 4) : zFB q := by
  rcases e with e | e
  · exact Or.inl (z_FA h e)
  · subst e; exact Or.inr h
theorem z_FC {q k : Nat} (h : PN (k * q + 1) ∨ PN (k * q - 1)) (e : k = 2 ∨ k = 4 ∨ k = 6) : zFC q := by
  rcases e with e | e | e
  · exact Or.inl (z_FB h (Or.inl e))
  · exact Or.inl (z_FB h (Or.inr e))
  · subst e; exact Or.inr h
theorem z_k {q n : Nat} (od : q % 2 = 1) (on : n % 2 = 1) (n3 : 3 ≤ n) (hn : PN n) (nN : n ≤ 1000000000) (h : q ∣ n - 1 ∨ q ∣ n + 1) : ∃ k, k % 2 = 0 ∧ k ≠ 0 ∧ k * q ≤ 1000000001 ∧ (PN (k * q + 1) ∨ PN (k * q - 1)) := by
  rcases h with ⟨k, hk⟩ | ⟨k, hk⟩
  · rw [Nat.mul_comm] at hk
    have ev : (k * q) % 2 = 0 := by omega
    rw [Nat.mul_mod, od, Nat.mul_one, Nat.mod_mod] at ev
    refine ⟨k, ev, fun z => by rw [z, Nat.zero_mul] at hk; omega, by omega, Or.inl ?_⟩
    rw [← hk, show n - 1 + 1 = n by omega]
    exact hn
  · rw [Nat.mul_comm] at hk
    have ev : (k * q) % 2 = 0 := by omega
    rw [Nat.mul_mod, od, Nat.mul_one, Nat.mod_mod] at ev
    refine ⟨k, ev, fun z => by rw [z, Nat.zero_mul] at hk; omega, by omega, Or.inr ?_⟩
    rw [← hk, show n + 1 - 1 = n by omega]
    exact hn
theorem z_kle {q k b c : Nat} (h : k * q ≤ 1000000001) (hb : b ≤ q) (hc : 1000000001 < c * b) : k < c := Classical.byContradiction fun z => by
  have : c * b ≤ k * q := Nat.mul_le_mul (by omega) hb
  omega
