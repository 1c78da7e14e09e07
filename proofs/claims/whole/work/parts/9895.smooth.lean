/-! numbers without a prime factor under 11 or over 100 -/
set_option maxRecDepth 200000 in
theorem tp_97 : Tp [97] := Tp.cons (p := 97) (l := []) (by decide +kernel) (by decide) (by decide) Tp.nil
set_option maxRecDepth 200000 in
theorem tp_89 : Tp [89, 97] := Tp.cons (p := 89) (l := [97]) (by decide +kernel) (by decide) (by decide) tp_97
set_option maxRecDepth 200000 in
theorem tp_83 : Tp [83, 89, 97] := Tp.cons (p := 83) (l := [89, 97]) (by decide +kernel) (by decide) (by decide) tp_89
set_option maxRecDepth 200000 in
theorem tp_79 : Tp [79, 83, 89, 97] := Tp.cons (p := 79) (l := [83, 89, 97]) (by decide +kernel) (by decide) (by decide) tp_83
set_option maxRecDepth 200000 in
theorem tp_73 : Tp [73, 79, 83, 89, 97] := Tp.cons (p := 73) (l := [79, 83, 89, 97]) (by decide +kernel) (by decide) (by decide) tp_79
set_option maxRecDepth 200000 in
theorem tp_71 : Tp [71, 73, 79, 83, 89, 97] := Tp.cons (p := 71) (l := [73, 79, 83, 89, 97]) (by decide +kernel) (by decide) (by decide) tp_73
set_option maxRecDepth 200000 in
theorem tp_67 : Tp [67, 71, 73, 79, 83, 89, 97] := Tp.cons (p := 67) (l := [71, 73, 79, 83, 89, 97]) (by decide +kernel) (by decide) (by decide) tp_71
set_option maxRecDepth 200000 in
theorem tp_61 : Tp [61, 67, 71, 73, 79, 83, 89, 97] := Tp.cons (p := 61) (l := [67, 71, 73, 79, 83, 89, 97]) (by decide +kernel) (by decide) (by decide) tp_67
set_option maxRecDepth 200000 in
theorem tp_59 : Tp [59, 61, 67, 71, 73, 79, 83, 89, 97] := Tp.cons (p := 59) (l := [61, 67, 71, 73, 79, 83, 89, 97]) (by decide +kernel) (by decide) (by decide) tp_61
set_option maxRecDepth 200000 in
theorem tp_53 : Tp [53, 59, 61, 67, 71, 73, 79, 83, 89, 97] := Tp.cons (p := 53) (l := [59, 61, 67, 71, 73, 79, 83, 89, 97]) (by decide +kernel) (by decide) (by decide) tp_59
set_option maxRecDepth 200000 in
theorem tp_47 : Tp [47, 53, 59, 61, 67, 71, 73, 79, 83, 89, 97] := Tp.cons (p := 47) (l := [53, 59, 61, 67, 71, 73, 79, 83, 89, 97]) (by decide +kernel) (by decide) (by decide) tp_53
set_option maxRecDepth 200000 in
theorem tp_43 : Tp [43, 47, 53, 59, 61, 67, 71, 73, 79, 83, 89, 97] := Tp.cons (p := 43) (l := [47, 53, 59, 61, 67, 71, 73, 79, 83, 89, 97]) (by decide +kernel) (by decide) (by decide) tp_47
set_option maxRecDepth 200000 in
theorem tp_41 : Tp [41, 43, 47, 53, 59, 61, 67, 71, 73, 79, 83, 89, 97] := Tp.cons (p := 41) (l := [43, 47, 53, 59, 61, 67, 71, 73, 79, 83, 89, 97]) (by decide +kernel) (by decide) (by decide) tp_43
set_option maxRecDepth 200000 in
theorem tp_37 : Tp [37, 41, 43, 47, 53, 59, 61, 67, 71, 73, 79, 83, 89, 97] := Tp.cons (p := 37) (l := [41, 43, 47, 53, 59, 61, 67, 71, 73, 79, 83, 89, 97]) (by decide +kernel) (by decide) (by decide) tp_41
set_option maxRecDepth 200000 in
theorem tp_31 : Tp [31, 37, 41, 43, 47, 53, 59, 61, 67, 71, 73, 79, 83, 89, 97] := Tp.cons (p := 31) (l := [37, 41, 43, 47, 53, 59, 61, 67, 71, 73, 79, 83, 89, 97]) (by decide +kernel) (by decide) (by decide) tp_37
set_option maxRecDepth 200000 in
theorem tp_29 : Tp [29, 31, 37, 41, 43, 47, 53, 59, 61, 67, 71, 73, 79, 83, 89, 97] := Tp.cons (p := 29) (l := [31, 37, 41, 43, 47, 53, 59, 61, 67, 71, 73, 79, 83, 89, 97]) (by decide +kernel) (by decide) (by decide) tp_31
set_option maxRecDepth 200000 in
theorem tp_23 : Tp [23, 29, 31, 37, 41, 43, 47, 53, 59, 61, 67, 71, 73, 79, 83, 89, 97] := Tp.cons (p := 23) (l := [29, 31, 37, 41, 43, 47, 53, 59, 61, 67, 71, 73, 79, 83, 89, 97]) (by decide +kernel) (by decide) (by decide) tp_29
set_option maxRecDepth 200000 in
theorem tp_19 : Tp [19, 23, 29, 31, 37, 41, 43, 47, 53, 59, 61, 67, 71, 73, 79, 83, 89, 97] := Tp.cons (p := 19) (l := [23, 29, 31, 37, 41, 43, 47, 53, 59, 61, 67, 71, 73, 79, 83, 89, 97]) (by decide +kernel) (by decide) (by decide) tp_23
set_option maxRecDepth 200000 in
theorem tp_17 : Tp [17, 19, 23, 29, 31, 37, 41, 43, 47, 53, 59, 61, 67, 71, 73, 79, 83, 89, 97] := Tp.cons (p := 17) (l := [19, 23, 29, 31, 37, 41, 43, 47, 53, 59, 61, 67, 71, 73, 79, 83, 89, 97]) (by decide +kernel) (by decide) (by decide) tp_19
set_option maxRecDepth 200000 in
theorem tp_13 : Tp [13, 17, 19, 23, 29, 31, 37, 41, 43, 47, 53, 59, 61, 67, 71, 73, 79, 83, 89, 97] := Tp.cons (p := 13) (l := [17, 19, 23, 29, 31, 37, 41, 43, 47, 53, 59, 61, 67, 71, 73, 79, 83, 89, 97]) (by decide +kernel) (by decide) (by decide) tp_17
set_option maxRecDepth 200000 in
theorem tp_11 : Tp [11, 13, 17, 19, 23, 29, 31, 37, 41, 43, 47, 53, 59, 61, 67, 71, 73, 79, 83, 89, 97] := Tp.cons (p := 11) (l := [13, 17, 19, 23, 29, 31, 37, 41, 43, 47, 53, 59, 61, 67, 71, 73, 79, 83, 89, 97]) (by decide +kernel) (by decide) (by decide) tp_13
