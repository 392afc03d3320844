/-! ===== all boards of three sides (1) ===== -/
noncomputable def c3 (x : Nat) : Bool := Nat.ble 2520 (lb_sum (fun j => (lbs 3 x).getD j 0) 3) || ck9 (lbs 3 x)
noncomputable def b3 (i : Nat) : Bool := allB (fun k => c3 (Nat.add (Nat.mul 3 i) k)) 3
theorem tk_0 : b3 0 = true := by decide +kernel
theorem tk_1 : b3 1 = true := by decide +kernel
theorem tk_2 : b3 2 = true := by decide +kernel
theorem tk_3 : b3 3 = true := by decide +kernel
theorem tk_4 : b3 4 = true := by decide +kernel
theorem tk_5 : b3 5 = true := by decide +kernel
theorem tk_6 : b3 6 = true := by decide +kernel
theorem tk_7 : b3 7 = true := by decide +kernel
theorem tk_8 : b3 8 = true := by decide +kernel
theorem tk_9 : b3 9 = true := by decide +kernel
theorem tk_10 : b3 10 = true := by decide +kernel
theorem tk_11 : b3 11 = true := by decide +kernel
theorem tk_12 : b3 12 = true := by decide +kernel
theorem tk_13 : b3 13 = true := by decide +kernel
theorem tk_14 : b3 14 = true := by decide +kernel
theorem tk_15 : b3 15 = true := by decide +kernel
theorem tk_16 : b3 16 = true := by decide +kernel
theorem tk_17 : b3 17 = true := by decide +kernel
theorem tk_18 : b3 18 = true := by decide +kernel
theorem tk_19 : b3 19 = true := by decide +kernel
theorem tk_20 : b3 20 = true := by decide +kernel
theorem tk_21 : b3 21 = true := by decide +kernel
theorem tk_22 : b3 22 = true := by decide +kernel
theorem tk_23 : b3 23 = true := by decide +kernel
theorem tk_24 : b3 24 = true := by decide +kernel
theorem tk_25 : b3 25 = true := by decide +kernel
theorem tk_26 : b3 26 = true := by decide +kernel
theorem tk_27 : b3 27 = true := by decide +kernel
theorem tk_28 : b3 28 = true := by decide +kernel
theorem tk_29 : b3 29 = true := by decide +kernel
theorem tk_30 : b3 30 = true := by decide +kernel
theorem tk_31 : b3 31 = true := by decide +kernel
theorem tk_32 : b3 32 = true := by decide +kernel
theorem tk_33 : b3 33 = true := by decide +kernel
theorem tk_34 : b3 34 = true := by decide +kernel
theorem tk_35 : b3 35 = true := by decide +kernel
theorem tk_36 : b3 36 = true := by decide +kernel
theorem tk_37 : b3 37 = true := by decide +kernel
theorem tk_38 : b3 38 = true := by decide +kernel
theorem tk_39 : b3 39 = true := by decide +kernel
theorem tk_40 : b3 40 = true := by decide +kernel
theorem tk_41 : b3 41 = true := by decide +kernel
theorem tk_42 : b3 42 = true := by decide +kernel
theorem tk_43 : b3 43 = true := by decide +kernel
theorem tk_44 : b3 44 = true := by decide +kernel
theorem tk_45 : b3 45 = true := by decide +kernel
theorem tk_46 : b3 46 = true := by decide +kernel
theorem tk_47 : b3 47 = true := by decide +kernel
theorem tk_48 : b3 48 = true := by decide +kernel
theorem tk_49 : b3 49 = true := by decide +kernel
theorem tk_50 : b3 50 = true := by decide +kernel
theorem tk_51 : b3 51 = true := by decide +kernel
theorem tk_52 : b3 52 = true := by decide +kernel
theorem tk_53 : b3 53 = true := by decide +kernel
theorem tk_54 : b3 54 = true := by decide +kernel
theorem tk_55 : b3 55 = true := by decide +kernel
theorem tk_56 : b3 56 = true := by decide +kernel
theorem tk_57 : b3 57 = true := by decide +kernel
theorem tk_58 : b3 58 = true := by decide +kernel
theorem tk_59 : b3 59 = true := by decide +kernel
theorem tk_60 : b3 60 = true := by decide +kernel
theorem tk_61 : b3 61 = true := by decide +kernel
theorem tk_62 : b3 62 = true := by decide +kernel
theorem tk_63 : b3 63 = true := by decide +kernel
theorem tk_64 : b3 64 = true := by decide +kernel
theorem tk_65 : b3 65 = true := by decide +kernel
theorem tk_66 : b3 66 = true := by decide +kernel
theorem tk_67 : b3 67 = true := by decide +kernel
theorem tk_68 : b3 68 = true := by decide +kernel
theorem tk_69 : b3 69 = true := by decide +kernel
theorem tk_70 : b3 70 = true := by decide +kernel
theorem tk_71 : b3 71 = true := by decide +kernel
theorem tk_72 : b3 72 = true := by decide +kernel
theorem tk_73 : b3 73 = true := by decide +kernel
theorem tk_74 : b3 74 = true := by decide +kernel
theorem tk_75 : b3 75 = true := by decide +kernel
theorem tk_76 : b3 76 = true := by decide +kernel
theorem tk_77 : b3 77 = true := by decide +kernel
theorem tk_78 : b3 78 = true := by decide +kernel
theorem tk_79 : b3 79 = true := by decide +kernel
theorem tk_80 : b3 80 = true := by decide +kernel
theorem tkg_0 : ∀ k, k < 27 → b3 (0 + k) = true := fun k hk => match k with
  | 0 => tk_0
  | 1 => tk_1
  | 2 => tk_2
  | 3 => tk_3
  | 4 => tk_4
  | 5 => tk_5
  | 6 => tk_6
  | 7 => tk_7
  | 8 => tk_8
  | 9 => tk_9
  | 10 => tk_10
  | 11 => tk_11
  | 12 => tk_12
  | 13 => tk_13
  | 14 => tk_14
  | 15 => tk_15
  | 16 => tk_16
  | 17 => tk_17
  | 18 => tk_18
  | 19 => tk_19
  | 20 => tk_20
  | 21 => tk_21
  | 22 => tk_22
  | 23 => tk_23
  | 24 => tk_24
  | 25 => tk_25
  | 26 => tk_26
  | n + 27 => absurd hk (by omega)
theorem tkg_1 : ∀ k, k < 27 → b3 (27 + k) = true := fun k hk => match k with
  | 0 => tk_27
  | 1 => tk_28
  | 2 => tk_29
  | 3 => tk_30
  | 4 => tk_31
  | 5 => tk_32
  | 6 => tk_33
  | 7 => tk_34
  | 8 => tk_35
  | 9 => tk_36
  | 10 => tk_37
  | 11 => tk_38
  | 12 => tk_39
  | 13 => tk_40
  | 14 => tk_41
  | 15 => tk_42
  | 16 => tk_43
  | 17 => tk_44
  | 18 => tk_45
  | 19 => tk_46
  | 20 => tk_47
  | 21 => tk_48
  | 22 => tk_49
  | 23 => tk_50
  | 24 => tk_51
  | 25 => tk_52
  | 26 => tk_53
  | n + 27 => absurd hk (by omega)
theorem tkg_2 : ∀ k, k < 27 → b3 (54 + k) = true := fun k hk => match k with
  | 0 => tk_54
  | 1 => tk_55
  | 2 => tk_56
  | 3 => tk_57
  | 4 => tk_58
  | 5 => tk_59
  | 6 => tk_60
  | 7 => tk_61
  | 8 => tk_62
  | 9 => tk_63
  | 10 => tk_64
  | 11 => tk_65
  | 12 => tk_66
  | 13 => tk_67
  | 14 => tk_68
  | 15 => tk_69
  | 16 => tk_70
  | 17 => tk_71
  | 18 => tk_72
  | 19 => tk_73
  | 20 => tk_74
  | 21 => tk_75
  | 22 => tk_76
  | 23 => tk_77
  | 24 => tk_78
  | 25 => tk_79
  | 26 => tk_80
  | n + 27 => absurd hk (by omega)
