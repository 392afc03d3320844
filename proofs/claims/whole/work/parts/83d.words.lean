/-! ===== the words that the law needs stand in the tables, by their places (laid by a program) ===== -/
def lk_tab : Nat → List Cond
  | 0 => k2_sels lw_privs
  | 1 => tables_1_1
  | 2 => tables_1_2
  | 3 => tables_1_3
  | 4 => tables_1_4
  | 5 => tables_1_5
  | 6 => tables_1_6
  | 7 => tables_1_7
  | _ => tables_1_8
theorem lk_tab_in : ∀ (k : Nat) (w : Cond), w ∈ lk_tab k → w ∈ lw_tbl
  | 0, _, h => List.mem_append_left _ h
  | 1, _, h => List.mem_append_right _ (List.mem_append_left _ h)
  | 2, _, h => List.mem_append_right _ (List.mem_append_right _ (List.mem_append_left _ h))
  | 3, _, h => List.mem_append_right _ (List.mem_append_right _ (List.mem_append_right _ (List.mem_append_left _ h)))
  | 4, _, h => List.mem_append_right _ (List.mem_append_right _ (List.mem_append_right _ (List.mem_append_right _ (List.mem_append_left _ h))))
  | 5, _, h => List.mem_append_right _ (List.mem_append_right _ (List.mem_append_right _ (List.mem_append_right _ (List.mem_append_right _ (List.mem_append_left _ h)))))
  | 6, _, h => List.mem_append_right _ (List.mem_append_right _ (List.mem_append_right _ (List.mem_append_right _ (List.mem_append_right _ (List.mem_append_right _ (List.mem_append_left _ h))))))
  | 7, _, h => List.mem_append_right _ (List.mem_append_right _ (List.mem_append_right _ (List.mem_append_right _ (List.mem_append_right _ (List.mem_append_right _ (List.mem_append_right _ (List.mem_append_left _ h)))))))
  | _ + 8, _, h => List.mem_append_right _ (List.mem_append_right _ (List.mem_append_right _ (List.mem_append_right _ (List.mem_append_right _ (List.mem_append_right _ (List.mem_append_right _ (List.mem_append_right _ h)))))))
def lk_at : List Cond → List Nat → Bool
  | [], _ => true
  | w :: ws, p :: ps => decide ((lk_tab (p / 1000))[p % 1000]? = some w) && lk_at ws ps
  | _ :: _, [] => false
theorem lk_at_ok : ∀ {ws : List Cond} {ps : List Nat}, lk_at ws ps = true → ∀ w ∈ ws, w ∈ lw_tbl
  | [], _, _ => fun _ h => nomatch h
  | w :: ws, p :: ps, h => by
    have h : (decide ((lk_tab (p / 1000))[p % 1000]? = some w) && lk_at ws ps) = true := h
    rw [Bool.and_eq_true] at h
    exact List.forall_mem_cons.mpr ⟨lk_tab_in _ _ (List.mem_of_getElem? (of_decide_eq_true h.1)), lk_at_ok h.2⟩
  | _ :: _, [], h => nomatch h
set_option maxRecDepth 100000 in
theorem lk_t_xk_Tf : lk_at xk_Tf [2078, 2079, 2080, 2082, 2084, 2083, 2062, 2065, 2056, 2059, 1106, 1220, 1221, 1222, 1223, 1224, 1225, 1226, 1227, 1108, 1096, 1097, 1098, 1099, 1100, 1101, 1102, 1103, 1104, 1110, 1113, 1116, 1054, 1055, 1057, 1059, 1061, 1065, 1066, 1067, 1068, 1064, 1193, 1194, 1196, 1195, 1197, 1198, 2005, 2006, 2007, 2008, 2009, 2010, 2011, 2012, 2013, 2014, 2015, 2016, 1109, 1199, 1149, 1150, 1151, 1152, 2054, 2055, 2058, 2061, 2064, 1039, 1040, 1168, 1169, 1170, 1171, 1111, 1107, 2212, 2213, 2214, 2215, 2216, 2217, 2218, 2219, 1041, 1063, 2220, 1105, 1112, 1114, 2085, 1115, 2221, 2222, 2081, 2057, 2060, 2063, 2066, 1056, 1060, 1058, 1062] = true := by decide +kernel
set_option maxRecDepth 100000 in
theorem lk_t_xk_Tw : lk_at xk_Tw [2086, 2088, 2090, 2092, 2094, 2096, 1228, 1230, 1232, 1234, 1236, 1238, 2000, 2002, 1117, 1119, 1121, 1123, 1125, 1127, 1129, 1131, 1133, 1135, 1137, 1139, 1069, 1071, 1073, 1075, 1077, 1079, 1081, 1083, 1085, 1087, 1200, 1202, 1204, 1206, 1208, 1210, 2017, 2019, 2021, 2023, 2025, 2027, 2029, 2031, 2033, 2035, 2037, 2039, 1153, 1155, 1157, 1159, 2067, 2069, 2071, 2073, 2075, 1042, 1044, 1172, 1174, 1176, 1178, 2223, 2225, 2227, 2229, 2231, 2233, 2235, 2237, 2239, 3001, 3003] = true := by decide +kernel
set_option maxRecDepth 100000 in
theorem lk_t_xk_Tl : lk_at xk_Tl [5086, 4148, 2192, 4160] = true := by decide +kernel
set_option maxRecDepth 100000 in
theorem lk_t_xk_Ti : lk_at xk_Ti [5103, 5087] = true := by decide +kernel
set_option maxRecDepth 100000 in
theorem lk_t_xk_Tm : lk_at xk_Tm [2205, 3031, 3056, 5227, 3030, 3036, 3040, 3068, 5077, 5124, 5135, 5152, 5162, 5160, 5192, 5120, 5131, 5156, 5140, 5144, 5175, 5179, 2107, 2118, 2130, 2168, 2142, 2134, 2164, 4076, 4083, 4087, 4080, 2111, 2115, 2122, 2138, 2146, 2160, 2126, 2150, 3157, 3183, 3235, 4003, 4007, 3239, 3161, 3165, 3168, 3171, 3175, 3178, 5044, 5045, 5061, 5049, 5053, 5057, 5065, 5069, 5167, 5040, 5073, 5081, 5104, 5108, 5085, 5088, 5089, 5093, 5098, 5112, 5183, 5184, 5188, 5193, 5116, 5127, 5136, 5148, 5163, 5171, 5170, 2176, 2180, 2188, 2184, 2209, 4165, 4178, 4176, 4169, 4172, 4177, 2099, 3010, 3014, 3153, 4043, 4051, 4059, 4067, 4068, 4072, 4091, 4095, 4106, 4114, 4125, 4133, 4144, 4156, 4161, 4189, 4200, 4204, 4208, 4218, 4047, 4228, 5006, 5024, 5032, 5036, 5197, 5208, 5212, 5223, 3026, 3044, 3052, 3064, 3079, 2103, 2172, 2193, 2197, 2201, 4063, 2157] = true := by decide +kernel
set_option maxRecDepth 100000 in
theorem lk_cx : ∀ j, j < 163 → Cond.code (xk_my j) (xk_mb j) (xk_ml j) (xk_mr j) ∈ lw_tbl
  | 0, _ => lk_tab_in 2 _ (List.mem_of_getElem? (i := 204) rfl)
  | 1, _ => lk_tab_in 4 _ (List.mem_of_getElem? (i := 94) rfl)
  | 2, _ => lk_tab_in 5 _ (List.mem_of_getElem? (i := 226) rfl)
  | 3, _ => lk_tab_in 3 _ (List.mem_of_getElem? (i := 29) rfl)
  | 4, _ => lk_tab_in 3 _ (List.mem_of_getElem? (i := 55) rfl)
  | 5, _ => lk_tab_in 3 _ (List.mem_of_getElem? (i := 67) rfl)
  | 6, _ => lk_tab_in 3 _ (List.mem_of_getElem? (i := 82) rfl)
  | 7, _ => lk_tab_in 3 _ (List.mem_of_getElem? (i := 59) rfl)
  | 8, _ => lk_tab_in 3 _ (List.mem_of_getElem? (i := 43) rfl)
  | 9, _ => lk_tab_in 5 _ (List.mem_of_getElem? (i := 76) rfl)
  | 10, _ => lk_tab_in 5 _ (List.mem_of_getElem? (i := 187) rfl)
  | 11, _ => lk_tab_in 5 _ (List.mem_of_getElem? (i := 155) rfl)
  | 12, _ => lk_tab_in 5 _ (List.mem_of_getElem? (i := 134) rfl)
  | 13, _ => lk_tab_in 5 _ (List.mem_of_getElem? (i := 95) rfl)
  | 14, _ => lk_tab_in 5 _ (List.mem_of_getElem? (i := 191) rfl)
  | 15, _ => lk_tab_in 5 _ (List.mem_of_getElem? (i := 196) rfl)
  | 16, _ => lk_tab_in 5 _ (List.mem_of_getElem? (i := 119) rfl)
  | 17, _ => lk_tab_in 5 _ (List.mem_of_getElem? (i := 151) rfl)
  | 18, _ => lk_tab_in 5 _ (List.mem_of_getElem? (i := 130) rfl)
  | 19, _ => lk_tab_in 5 _ (List.mem_of_getElem? (i := 139) rfl)
  | 20, _ => lk_tab_in 5 _ (List.mem_of_getElem? (i := 147) rfl)
  | 21, _ => lk_tab_in 5 _ (List.mem_of_getElem? (i := 174) rfl)
  | 22, _ => lk_tab_in 5 _ (List.mem_of_getElem? (i := 178) rfl)
  | 23, _ => lk_tab_in 5 _ (List.mem_of_getElem? (i := 182) rfl)
  | 24, _ => lk_tab_in 5 _ (List.mem_of_getElem? (i := 123) rfl)
  | 25, _ => lk_tab_in 5 _ (List.mem_of_getElem? (i := 80) rfl)
  | 26, _ => lk_tab_in 5 _ (List.mem_of_getElem? (i := 143) rfl)
  | 27, _ => lk_tab_in 5 _ (List.mem_of_getElem? (i := 126) rfl)
  | 28, _ => lk_tab_in 2 _ (List.mem_of_getElem? (i := 106) rfl)
  | 29, _ => lk_tab_in 4 _ (List.mem_of_getElem? (i := 66) rfl)
  | 30, _ => lk_tab_in 4 _ (List.mem_of_getElem? (i := 50) rfl)
  | 31, _ => lk_tab_in 2 _ (List.mem_of_getElem? (i := 114) rfl)
  | 32, _ => lk_tab_in 4 _ (List.mem_of_getElem? (i := 90) rfl)
  | 33, _ => lk_tab_in 2 _ (List.mem_of_getElem? (i := 137) rfl)
  | 34, _ => lk_tab_in 2 _ (List.mem_of_getElem? (i := 145) rfl)
  | 35, _ => lk_tab_in 4 _ (List.mem_of_getElem? (i := 136) rfl)
  | 36, _ => lk_tab_in 2 _ (List.mem_of_getElem? (i := 153) rfl)
  | 37, _ => lk_tab_in 2 _ (List.mem_of_getElem? (i := 167) rfl)
  | 38, _ => lk_tab_in 4 _ (List.mem_of_getElem? (i := 71) rfl)
  | 39, _ => lk_tab_in 4 _ (List.mem_of_getElem? (i := 98) rfl)
  | 40, _ => lk_tab_in 4 _ (List.mem_of_getElem? (i := 75) rfl)
  | 41, _ => lk_tab_in 4 _ (List.mem_of_getElem? (i := 117) rfl)
  | 42, _ => lk_tab_in 4 _ (List.mem_of_getElem? (i := 231) rfl)
  | 43, _ => lk_tab_in 5 _ (List.mem_of_getElem? (i := 9) rfl)
  | 44, _ => lk_tab_in 4 _ (List.mem_of_getElem? (i := 79) rfl)
  | 45, _ => lk_tab_in 4 _ (List.mem_of_getElem? (i := 86) rfl)
  | 46, _ => lk_tab_in 2 _ (List.mem_of_getElem? (i := 110) rfl)
  | 47, _ => lk_tab_in 2 _ (List.mem_of_getElem? (i := 117) rfl)
  | 48, _ => lk_tab_in 2 _ (List.mem_of_getElem? (i := 121) rfl)
  | 49, _ => lk_tab_in 2 _ (List.mem_of_getElem? (i := 133) rfl)
  | 50, _ => lk_tab_in 2 _ (List.mem_of_getElem? (i := 171) rfl)
  | 51, _ => lk_tab_in 2 _ (List.mem_of_getElem? (i := 141) rfl)
  | 52, _ => lk_tab_in 2 _ (List.mem_of_getElem? (i := 125) rfl)
  | 53, _ => lk_tab_in 2 _ (List.mem_of_getElem? (i := 149) rfl)
  | 54, _ => lk_tab_in 2 _ (List.mem_of_getElem? (i := 129) rfl)
  | 55, _ => lk_tab_in 2 _ (List.mem_of_getElem? (i := 163) rfl)
  | 56, _ => lk_tab_in 3 _ (List.mem_of_getElem? (i := 156) rfl)
  | 57, _ => lk_tab_in 3 _ (List.mem_of_getElem? (i := 238) rfl)
  | 58, _ => lk_tab_in 4 _ (List.mem_of_getElem? (i := 2) rfl)
  | 59, _ => lk_tab_in 4 _ (List.mem_of_getElem? (i := 6) rfl)
  | 60, _ => lk_tab_in 4 _ (List.mem_of_getElem? (i := 10) rfl)
  | 61, _ => lk_tab_in 3 _ (List.mem_of_getElem? (i := 160) rfl)
  | 62, _ => lk_tab_in 3 _ (List.mem_of_getElem? (i := 174) rfl)
  | 63, _ => lk_tab_in 3 _ (List.mem_of_getElem? (i := 181) rfl)
  | 64, _ => lk_tab_in 3 _ (List.mem_of_getElem? (i := 186) rfl)
  | 65, _ => lk_tab_in 3 _ (List.mem_of_getElem? (i := 167) rfl)
  | 66, _ => lk_tab_in 3 _ (List.mem_of_getElem? (i := 170) rfl)
  | 67, _ => lk_tab_in 3 _ (List.mem_of_getElem? (i := 177) rfl)
  | 68, _ => lk_tab_in 5 _ (List.mem_of_getElem? (i := 43) rfl)
  | 69, _ => lk_tab_in 5 _ (List.mem_of_getElem? (i := 72) rfl)
  | 70, _ => lk_tab_in 5 _ (List.mem_of_getElem? (i := 101) rfl)
  | 71, _ => lk_tab_in 5 _ (List.mem_of_getElem? (i := 159) rfl)
  | 72, _ => lk_tab_in 5 _ (List.mem_of_getElem? (i := 48) rfl)
  | 73, _ => lk_tab_in 5 _ (List.mem_of_getElem? (i := 52) rfl)
  | 74, _ => lk_tab_in 5 _ (List.mem_of_getElem? (i := 60) rfl)
  | 75, _ => lk_tab_in 5 _ (List.mem_of_getElem? (i := 56) rfl)
  | 76, _ => lk_tab_in 5 _ (List.mem_of_getElem? (i := 64) rfl)
  | 77, _ => lk_tab_in 5 _ (List.mem_of_getElem? (i := 68) rfl)
  | 78, _ => lk_tab_in 2 _ (List.mem_of_getElem? (i := 200) rfl)
  | 79, _ => lk_tab_in 5 _ (List.mem_of_getElem? (i := 200) rfl)
  | 80, _ => lk_tab_in 5 _ (List.mem_of_getElem? (i := 211) rfl)
  | 81, _ => lk_tab_in 5 _ (List.mem_of_getElem? (i := 215) rfl)
  | 82, _ => lk_tab_in 5 _ (List.mem_of_getElem? (i := 169) rfl)
  | 83, _ => lk_tab_in 5 _ (List.mem_of_getElem? (i := 39) rfl)
  | 84, _ => lk_tab_in 5 _ (List.mem_of_getElem? (i := 84) rfl)
  | 85, _ => lk_tab_in 5 _ (List.mem_of_getElem? (i := 92) rfl)
  | 86, _ => lk_tab_in 5 _ (List.mem_of_getElem? (i := 111) rfl)
  | 87, _ => lk_tab_in 5 _ (List.mem_of_getElem? (i := 115) rfl)
  | 88, _ => lk_tab_in 5 _ (List.mem_of_getElem? (i := 166) rfl)
  | 89, _ => lk_tab_in 5 _ (List.mem_of_getElem? (i := 107) rfl)
  | 90, _ => lk_tab_in 4 _ (List.mem_of_getElem? (i := 147) rfl)
  | 91, _ => lk_tab_in 2 _ (List.mem_of_getElem? (i := 175) rfl)
  | 92, _ => lk_tab_in 2 _ (List.mem_of_getElem? (i := 179) rfl)
  | 93, _ => lk_tab_in 2 _ (List.mem_of_getElem? (i := 183) rfl)
  | 94, _ => lk_tab_in 2 _ (List.mem_of_getElem? (i := 187) rfl)
  | 95, _ => lk_tab_in 2 _ (List.mem_of_getElem? (i := 191) rfl)
  | 96, _ => lk_tab_in 2 _ (List.mem_of_getElem? (i := 208) rfl)
  | 97, _ => lk_tab_in 3 _ (List.mem_of_getElem? (i := 71) rfl)
  | 98, _ => lk_tab_in 3 _ (List.mem_of_getElem? (i := 34) rfl)
  | 99, _ => lk_tab_in 3 _ (List.mem_of_getElem? (i := 39) rfl)
  | 100, _ => lk_tab_in 3 _ (List.mem_of_getElem? (i := 13) rfl)
  | 101, _ => lk_tab_in 3 _ (List.mem_of_getElem? (i := 17) rfl)
  | 102, _ => lk_tab_in 3 _ (List.mem_of_getElem? (i := 164) rfl)
  | 103, _ => lk_tab_in 2 _ (List.mem_of_getElem? (i := 196) rfl)
  | 104, _ => lk_tab_in 4 _ (List.mem_of_getElem? (i := 164) rfl)
  | 105, _ => lk_tab_in 4 _ (List.mem_of_getElem? (i := 192) rfl)
  | 106, _ => lk_tab_in 4 _ (List.mem_of_getElem? (i := 203) rfl)
  | 107, _ => lk_tab_in 4 _ (List.mem_of_getElem? (i := 207) rfl)
  | 108, _ => lk_tab_in 4 _ (List.mem_of_getElem? (i := 181) rfl)
  | 109, _ => lk_tab_in 4 _ (List.mem_of_getElem? (i := 168) rfl)
  | 110, _ => lk_tab_in 4 _ (List.mem_of_getElem? (i := 175) rfl)
  | 111, _ => lk_tab_in 3 _ (List.mem_of_getElem? (i := 9) rfl)
  | 112, _ => lk_tab_in 3 _ (List.mem_of_getElem? (i := 90) rfl)
  | 113, _ => lk_tab_in 3 _ (List.mem_of_getElem? (i := 21) rfl)
  | 114, _ => lk_tab_in 4 _ (List.mem_of_getElem? (i := 20) rfl)
  | 115, _ => lk_tab_in 4 _ (List.mem_of_getElem? (i := 42) rfl)
  | 116, _ => lk_tab_in 4 _ (List.mem_of_getElem? (i := 58) rfl)
  | 117, _ => lk_tab_in 4 _ (List.mem_of_getElem? (i := 105) rfl)
  | 118, _ => lk_tab_in 4 _ (List.mem_of_getElem? (i := 113) rfl)
  | 119, _ => lk_tab_in 4 _ (List.mem_of_getElem? (i := 124) rfl)
  | 120, _ => lk_tab_in 4 _ (List.mem_of_getElem? (i := 132) rfl)
  | 121, _ => lk_tab_in 4 _ (List.mem_of_getElem? (i := 143) rfl)
  | 122, _ => lk_tab_in 4 _ (List.mem_of_getElem? (i := 155) rfl)
  | 123, _ => lk_tab_in 4 _ (List.mem_of_getElem? (i := 188) rfl)
  | 124, _ => lk_tab_in 4 _ (List.mem_of_getElem? (i := 199) rfl)
  | 125, _ => lk_tab_in 4 _ (List.mem_of_getElem? (i := 217) rfl)
  | 126, _ => lk_tab_in 4 _ (List.mem_of_getElem? (i := 227) rfl)
  | 127, _ => lk_tab_in 4 _ (List.mem_of_getElem? (i := 238) rfl)
  | 128, _ => lk_tab_in 5 _ (List.mem_of_getElem? (i := 5) rfl)
  | 129, _ => lk_tab_in 5 _ (List.mem_of_getElem? (i := 16) rfl)
  | 130, _ => lk_tab_in 5 _ (List.mem_of_getElem? (i := 23) rfl)
  | 131, _ => lk_tab_in 5 _ (List.mem_of_getElem? (i := 31) rfl)
  | 132, _ => lk_tab_in 5 _ (List.mem_of_getElem? (i := 207) rfl)
  | 133, _ => lk_tab_in 5 _ (List.mem_of_getElem? (i := 222) rfl)
  | 134, _ => lk_tab_in 5 _ (List.mem_of_getElem? (i := 234) rfl)
  | 135, _ => lk_tab_in 3 _ (List.mem_of_getElem? (i := 25) rfl)
  | 136, _ => lk_tab_in 3 _ (List.mem_of_getElem? (i := 51) rfl)
  | 137, _ => lk_tab_in 3 _ (List.mem_of_getElem? (i := 63) rfl)
  | 138, _ => lk_tab_in 3 _ (List.mem_of_getElem? (i := 78) rfl)
  | 139, _ => lk_tab_in 2 _ (List.mem_of_getElem? (i := 102) rfl)
  | 140, _ => lk_tab_in 3 _ (List.mem_of_getElem? (i := 47) rfl)
  | 141, _ => lk_tab_in 4 _ (List.mem_of_getElem? (i := 62) rfl)
  | 142, _ => lk_tab_in 4 _ (List.mem_of_getElem? (i := 46) rfl)
  | 143, _ => lk_tab_in 4 _ (List.mem_of_getElem? (i := 159) rfl)
  | 144, _ => lk_tab_in 5 _ (List.mem_of_getElem? (i := 35) rfl)
  | 145, _ => lk_tab_in 4 _ (List.mem_of_getElem? (i := 220) rfl)
  | 146, _ => lk_tab_in 4 _ (List.mem_of_getElem? (i := 210) rfl)
  | 147, _ => lk_tab_in 2 _ (List.mem_of_getElem? (i := 156) rfl)
  | 148, _ => lk_tab_in 2 _ (List.mem_of_getElem? (i := 159) rfl)
  | 149, _ => lk_tab_in 4 _ (List.mem_of_getElem? (i := 82) rfl)
  | 150, _ => lk_tab_in 2 _ (List.mem_of_getElem? (i := 211) rfl)
  | 151, _ => lk_tab_in 4 _ (List.mem_of_getElem? (i := 171) rfl)
  | 152, _ => lk_tab_in 2 _ (List.mem_of_getElem? (i := 46) rfl)
  | 153, _ => lk_tab_in 1 _ (List.mem_of_getElem? (i := 218) rfl)
  | 154, _ => lk_tab_in 1 _ (List.mem_of_getElem? (i := 94) rfl)
  | 155, _ => lk_tab_in 1 _ (List.mem_of_getElem? (i := 52) rfl)
  | 156, _ => lk_tab_in 1 _ (List.mem_of_getElem? (i := 191) rfl)
  | 157, _ => lk_tab_in 1 _ (List.mem_of_getElem? (i := 185) rfl)
  | 158, _ => lk_tab_in 1 _ (List.mem_of_getElem? (i := 147) rfl)
  | 159, _ => lk_tab_in 2 _ (List.mem_of_getElem? (i := 52) rfl)
  | 160, _ => lk_tab_in 1 _ (List.mem_of_getElem? (i := 37) rfl)
  | 161, _ => lk_tab_in 1 _ (List.mem_of_getElem? (i := 166) rfl)
  | 162, _ => lk_tab_in 1 _ (List.mem_of_getElem? (i := 29) rfl)
  | j + 163, h => absurd h (by omega)
set_option maxRecDepth 100000 in
theorem lk_t_xk_Tn : lk_at xk_Tn [1010, 1010, 1010, 1010, 1010, 1010, 1010, 1010, 1010, 1009, 1009, 1009, 1009, 1009, 1009, 1009, 1009, 1009, 1009, 1009, 1009, 1009, 1009, 1009, 1009, 1009, 1009, 1009, 1004, 1004, 1004, 1004, 1004, 1004, 1004, 1004, 1004, 1004, 1004, 1004, 1004, 1004, 1004, 1004, 1004, 1004, 1004, 1004, 1004, 1004, 1004, 1004, 1004, 1004, 1004, 1004, 1003, 1003, 1003, 1003, 1003, 1003, 1003, 1003, 1003, 1003, 1003, 1003, 1008, 1008, 1008, 1008, 1008, 1008, 1008, 1008, 1008, 1008, 1007, 1007, 1007, 1007, 1007, 1007, 1007, 1007, 1007, 1007, 1007, 1007, 1005, 1005, 1005, 1005, 1005, 1005, 1011, 1011, 1011, 1011, 1002, 1002, 1002, 1006, 1006, 1006, 1006, 1006, 1006, 1006, 1006, 1001, 1001, 1001, 1001, 1001, 1001, 1001, 1001, 1001, 1001, 1001, 1001, 1001, 1001, 1001, 1001, 1001, 1001, 1001, 1001, 1001, 1001, 1001, 1001, 1001, 1001, 1001, 1001, 1001, 1001, 1001, 1001, 1001, 1001, 1001, 1001, 1001, 1012, 1012, 1013, 1013, 1010, 1009, 1004, 1003, 1008, 1007, 1005, 1011, 1002, 1006, 1001] = true := by decide +kernel
set_option maxRecDepth 100000 in
theorem lk_t_xk_Tst : lk_at xk_Tst [5094, 5125, 2116, 3166, 3169, 3176, 5168, 4219, 4209, 2155, 2158, 4081, 2210, 4170] = true := by decide +kernel
set_option maxRecDepth 100000 in
theorem lk_t_xk_Tin : lk_at xk_Tin [2202, 4092, 5224, 3027, 3053, 3065, 3080, 3058, 3042, 5074, 5185, 5153, 5132, 5189, 5194, 5117, 5149, 5128, 5137, 5146, 5172, 5177, 5181, 5122, 5079, 5142, 2104, 4064, 4048, 2112, 4088, 2135, 2143, 4134, 2151, 2165, 4069, 4096, 4073, 4115, 4229, 5007, 4078, 4085, 2109, 2120, 2132, 2170, 2140, 2124, 2148, 2128, 2162, 3154, 3237, 4001, 4005, 4009, 3159, 3173, 3180, 3185, 5041, 5070, 5099, 5157, 5047, 5051, 5059, 5055, 5063, 5067, 2198, 5198, 5209, 5213, 5037, 5083, 5091, 5110, 5114, 5165, 5106, 4145, 2173, 2178, 2182, 2186, 2190, 2206, 3069, 3032, 3037, 3011, 3015, 3162, 2194, 4162, 4190, 4201, 4205, 4180, 4167, 4174, 3007, 3088, 3019, 4018, 4040, 4056, 4103, 4111, 4122, 4130, 4141, 4153, 4186, 4197, 4215, 4225, 4236, 5003, 5014, 5021, 5029, 5205, 5220, 5232, 3023, 3049, 3061, 3076, 2101, 3046, 4061, 4045, 4158, 5034, 2045, 1217, 1093, 1051, 1190, 1184, 1146, 2051, 1036, 1165, 1028] = true := by decide +kernel
set_option maxRecDepth 100000 in
theorem lk_t_xk_Tse : lk_at xk_Tse [2203, 4093, 5225, 3028, 3054, 3066, 3081, 16, 14, 5075, 5186, 5154, 5133, 5190, 5195, 5118, 5150, 5129, 5138, 49, 5173, 51, 52, 47, 41, 48, 2105, 4065, 4049, 2113, 4089, 2136, 2144, 4135, 2152, 2166, 4070, 4097, 4074, 4116, 4230, 5008, 28, 29, 1, 2, 5, 9, 6, 3, 7, 4, 8, 3155, 22, 23, 24, 25, 18, 19, 20, 21, 5042, 5071, 5100, 5158, 35, 36, 38, 37, 39, 40, 2199, 5199, 5210, 5214, 5038, 42, 43, 45, 46, 50, 44, 4146, 2174, 10, 11, 12, 13, 2207, 3070, 3033, 3038, 3012, 3016, 3163, 2195, 4163, 4191, 4202, 4206, 33, 31, 32, 3008, 3089, 3020, 4019, 4041, 4057, 4104, 4112, 4123, 4131, 4142, 4154, 4187, 4198, 4216, 4226, 4237, 5004, 5015, 5022, 5030, 5206, 5221, 5233, 3024, 3050, 3062, 3077, 0, 15, 27, 26, 30, 34] = true := by decide +kernel
set_option maxRecDepth 100000 in
theorem lk_t_xk_Tcp : lk_at xk_Tcp [5102, 3072, 3074, 3073, 1024] = true := by decide +kernel
set_option maxRecDepth 100000 in
theorem lk_t_r0 : lk_at (rk_Tf) [6049, 6050, 6051, 6052, 6053, 6056, 6057, 6067, 6068, 6071, 6072, 6073, 6074, 6075, 6076, 6077, 6078, 6079, 6080, 6081, 6082, 6083, 6084, 6085, 6086, 6088, 6089, 6090, 6091, 6092, 6093, 6094, 6095, 6096, 6097, 6098, 6099, 6112, 6113, 6114, 6116, 6117, 6118, 6119, 6048, 6054, 6058, 6059, 6061, 6064, 6063, 6060, 6062, 6055, 6065, 6066, 6115, 6087, 6069, 6070, 6107, 6108, 6109, 6110, 6101, 6100, 6103, 6105, 6104, 6106, 6102, 6111] = true := by decide +kernel
set_option maxRecDepth 100000 in
theorem lk_t_r1 : lk_at (u_ws RX11 TX11 72) [6120, 6122, 6124, 6126, 6128, 6130, 6132, 6134, 6136, 6138, 6140, 6142, 6144, 6146, 6148, 6150, 6152, 6154, 6156, 6158, 6160, 6162, 6164, 6166, 6168, 6170, 6172, 6174, 6176, 6178, 6180, 6182, 6184, 6186, 6188, 6190, 6192, 6194, 6196, 6198, 6200, 6202, 6204, 6206, 6208, 6210, 6212, 6214, 6216, 6218, 6220, 6222, 6224, 6226, 6228, 6230, 6232, 6234, 6236, 6238, 7000, 7002, 7004, 7006, 7008, 7010, 7012, 7014, 7016, 7018, 7020, 7022] = true := by decide +kernel
set_option maxRecDepth 100000 in
theorem lk_t_r2 : lk_at (rk_Tl) [6009, 6010, 6011, 6015, 6016, 6029, 6030, 6031, 7150, 7151, 7176] = true := by decide +kernel
set_option maxRecDepth 100000 in
theorem lk_t_r3 : lk_at (rk_Ti) [7217] = true := by decide +kernel
set_option maxRecDepth 100000 in
theorem lk_t_r4 : lk_at (rk_Tm) [6001, 7033, 7049, 7053, 7056, 7070, 7045, 7074, 7063, 7041, 7059, 7066, 7078, 7082, 7086, 7090, 7094, 6012, 6025, 6032, 6044, 6021, 6036, 6005, 6017, 6040, 7110, 7118, 7130, 7146, 7156, 7160, 7181, 7193, 7226, 7222, 7234, 7238, 8002, 7213, 7218, 7230, 8010, 7209, 8006, 8022] = true := by decide +kernel
set_option maxRecDepth 100000 in
theorem lk_cr : ∀ j, j < 75 → Cond.code (rk_my j) (rk_mb j) (rk_ml j) (rk_mr j) ∈ lw_tbl
  | 0, _ => lk_tab_in 7 _ (List.mem_of_getElem? (i := 28) rfl)
  | 1, _ => lk_tab_in 7 _ (List.mem_of_getElem? (i := 44) rfl)
  | 2, _ => lk_tab_in 7 _ (List.mem_of_getElem? (i := 97) rfl)
  | 3, _ => lk_tab_in 7 _ (List.mem_of_getElem? (i := 32) rfl)
  | 4, _ => lk_tab_in 7 _ (List.mem_of_getElem? (i := 36) rfl)
  | 5, _ => lk_tab_in 7 _ (List.mem_of_getElem? (i := 52) rfl)
  | 6, _ => lk_tab_in 7 _ (List.mem_of_getElem? (i := 55) rfl)
  | 7, _ => lk_tab_in 7 _ (List.mem_of_getElem? (i := 58) rfl)
  | 8, _ => lk_tab_in 7 _ (List.mem_of_getElem? (i := 48) rfl)
  | 9, _ => lk_tab_in 7 _ (List.mem_of_getElem? (i := 65) rfl)
  | 10, _ => lk_tab_in 7 _ (List.mem_of_getElem? (i := 77) rfl)
  | 11, _ => lk_tab_in 7 _ (List.mem_of_getElem? (i := 73) rfl)
  | 12, _ => lk_tab_in 7 _ (List.mem_of_getElem? (i := 69) rfl)
  | 13, _ => lk_tab_in 7 _ (List.mem_of_getElem? (i := 62) rfl)
  | 14, _ => lk_tab_in 7 _ (List.mem_of_getElem? (i := 89) rfl)
  | 15, _ => lk_tab_in 7 _ (List.mem_of_getElem? (i := 81) rfl)
  | 16, _ => lk_tab_in 7 _ (List.mem_of_getElem? (i := 93) rfl)
  | 17, _ => lk_tab_in 7 _ (List.mem_of_getElem? (i := 85) rfl)
  | 18, _ => lk_tab_in 7 _ (List.mem_of_getElem? (i := 40) rfl)
  | 19, _ => lk_tab_in 7 _ (List.mem_of_getElem? (i := 101) rfl)
  | 20, _ => lk_tab_in 6 _ (List.mem_of_getElem? (i := 14) rfl)
  | 21, _ => lk_tab_in 6 _ (List.mem_of_getElem? (i := 8) rfl)
  | 22, _ => lk_tab_in 6 _ (List.mem_of_getElem? (i := 20) rfl)
  | 23, _ => lk_tab_in 6 _ (List.mem_of_getElem? (i := 47) rfl)
  | 24, _ => lk_tab_in 6 _ (List.mem_of_getElem? (i := 28) rfl)
  | 25, _ => lk_tab_in 6 _ (List.mem_of_getElem? (i := 35) rfl)
  | 26, _ => lk_tab_in 6 _ (List.mem_of_getElem? (i := 24) rfl)
  | 27, _ => lk_tab_in 6 _ (List.mem_of_getElem? (i := 39) rfl)
  | 28, _ => lk_tab_in 6 _ (List.mem_of_getElem? (i := 43) rfl)
  | 29, _ => lk_tab_in 6 _ (List.mem_of_getElem? (i := 4) rfl)
  | 30, _ => lk_tab_in 7 _ (List.mem_of_getElem? (i := 121) rfl)
  | 31, _ => lk_tab_in 7 _ (List.mem_of_getElem? (i := 113) rfl)
  | 32, _ => lk_tab_in 7 _ (List.mem_of_getElem? (i := 105) rfl)
  | 33, _ => lk_tab_in 7 _ (List.mem_of_getElem? (i := 109) rfl)
  | 34, _ => lk_tab_in 7 _ (List.mem_of_getElem? (i := 117) rfl)
  | 35, _ => lk_tab_in 7 _ (List.mem_of_getElem? (i := 125) rfl)
  | 36, _ => lk_tab_in 7 _ (List.mem_of_getElem? (i := 133) rfl)
  | 37, _ => lk_tab_in 7 _ (List.mem_of_getElem? (i := 129) rfl)
  | 38, _ => lk_tab_in 7 _ (List.mem_of_getElem? (i := 137) rfl)
  | 39, _ => lk_tab_in 7 _ (List.mem_of_getElem? (i := 141) rfl)
  | 40, _ => lk_tab_in 7 _ (List.mem_of_getElem? (i := 149) rfl)
  | 41, _ => lk_tab_in 7 _ (List.mem_of_getElem? (i := 145) rfl)
  | 42, _ => lk_tab_in 7 _ (List.mem_of_getElem? (i := 163) rfl)
  | 43, _ => lk_tab_in 7 _ (List.mem_of_getElem? (i := 159) rfl)
  | 44, _ => lk_tab_in 7 _ (List.mem_of_getElem? (i := 155) rfl)
  | 45, _ => lk_tab_in 7 _ (List.mem_of_getElem? (i := 167) rfl)
  | 46, _ => lk_tab_in 7 _ (List.mem_of_getElem? (i := 171) rfl)
  | 47, _ => lk_tab_in 7 _ (List.mem_of_getElem? (i := 184) rfl)
  | 48, _ => lk_tab_in 7 _ (List.mem_of_getElem? (i := 175) rfl)
  | 49, _ => lk_tab_in 7 _ (List.mem_of_getElem? (i := 180) rfl)
  | 50, _ => lk_tab_in 7 _ (List.mem_of_getElem? (i := 188) rfl)
  | 51, _ => lk_tab_in 7 _ (List.mem_of_getElem? (i := 196) rfl)
  | 52, _ => lk_tab_in 7 _ (List.mem_of_getElem? (i := 192) rfl)
  | 53, _ => lk_tab_in 7 _ (List.mem_of_getElem? (i := 200) rfl)
  | 54, _ => lk_tab_in 7 _ (List.mem_of_getElem? (i := 204) rfl)
  | 55, _ => lk_tab_in 7 _ (List.mem_of_getElem? (i := 216) rfl)
  | 56, _ => lk_tab_in 7 _ (List.mem_of_getElem? (i := 229) rfl)
  | 57, _ => lk_tab_in 7 _ (List.mem_of_getElem? (i := 225) rfl)
  | 58, _ => lk_tab_in 7 _ (List.mem_of_getElem? (i := 221) rfl)
  | 59, _ => lk_tab_in 7 _ (List.mem_of_getElem? (i := 237) rfl)
  | 60, _ => lk_tab_in 8 _ (List.mem_of_getElem? (i := 1) rfl)
  | 61, _ => lk_tab_in 8 _ (List.mem_of_getElem? (i := 5) rfl)
  | 62, _ => lk_tab_in 7 _ (List.mem_of_getElem? (i := 233) rfl)
  | 63, _ => lk_tab_in 7 _ (List.mem_of_getElem? (i := 212) rfl)
  | 64, _ => lk_tab_in 8 _ (List.mem_of_getElem? (i := 9) rfl)
  | 65, _ => lk_tab_in 8 _ (List.mem_of_getElem? (i := 13) rfl)
  | 66, _ => lk_tab_in 7 _ (List.mem_of_getElem? (i := 208) rfl)
  | 67, _ => lk_tab_in 8 _ (List.mem_of_getElem? (i := 17) rfl)
  | 68, _ => lk_tab_in 8 _ (List.mem_of_getElem? (i := 25) rfl)
  | 69, _ => lk_tab_in 8 _ (List.mem_of_getElem? (i := 21) rfl)
  | 70, _ => lk_tab_in 8 _ (List.mem_of_getElem? (i := 29) rfl)
  | 71, _ => lk_tab_in 8 _ (List.mem_of_getElem? (i := 33) rfl)
  | 72, _ => lk_tab_in 8 _ (List.mem_of_getElem? (i := 37) rfl)
  | 73, _ => lk_tab_in 8 _ (List.mem_of_getElem? (i := 41) rfl)
  | 74, _ => lk_tab_in 8 _ (List.mem_of_getElem? (i := 45) rfl)
  | j + 75, h => absurd h (by omega)
set_option maxRecDepth 100000 in
theorem lk_t_r6 : lk_at ([Cond.initialized RX11]) [1014] = true := by decide +kernel
set_option maxRecDepth 100000 in
theorem lk_t_r7 : lk_at (rk_Tst) [7054, 7057, 7064, 6013] = true := by decide +kernel
set_option maxRecDepth 100000 in
theorem lk_t_r8 : lk_at (rk_Tin) [7026, 7043, 7096, 7030, 7035, 7051, 7047, 7076, 7072, 7068, 7061, 7088, 7080, 7092, 7084, 7038, 7099, 6007, 6019, 6046, 6027, 6034, 6023, 6038, 6042, 6003, 7120, 7112, 7103, 7107, 7115, 7123, 7132, 7127, 7135, 7139, 7148, 7143, 7162, 7158, 7153, 7165, 7169, 7183, 7173, 7178, 7186, 7195, 7190, 7198, 7202, 7215, 7228, 7224, 7220, 7236, 8000, 8004, 7232, 7211, 8008, 8012, 7206, 8015, 8024, 8019, 8027, 8031, 8035, 8039, 8043] = true := by decide +kernel
set_option maxRecDepth 100000 in
theorem lk_t_r9 : lk_at (rk_Tse) [7027, 63, 74, 7031, 62, 65, 64, 69, 68, 67, 66, 72, 70, 73, 71, 7039, 7100, 54, 55, 61, 57, 58, 56, 59, 60, 53, 76, 75, 7104, 7108, 7116, 7124, 77, 7128, 7136, 7140, 78, 7144, 80, 79, 7154, 7166, 7170, 81, 7174, 7179, 7187, 82, 7191, 7199, 7203, 84, 87, 86, 85, 89, 90, 91, 88, 83, 92, 93, 7207, 8016, 94, 8020, 8028, 8032, 8036, 8040, 8044] = true := by decide +kernel
theorem lk_cxm : ∀ w ∈ xk_Tk, w ∈ lw_tbl := fun w h => by
  obtain ⟨j, hj, rfl⟩ := List.mem_map.mp h
  exact lk_cx j (List.mem_range.mp hj)
theorem lk_crm : ∀ w ∈ rk_Tc, w ∈ lw_tbl := fun w h => by
  obtain ⟨j, hj, rfl⟩ := List.mem_map.mp h
  exact lk_cr j (List.mem_range.mp hj)
theorem lk_i_xk_Ts : ∀ w ∈ xk_Ts, w ∈ lw_tbl := List.forall_mem_append.mpr ⟨lk_at_ok lk_t_xk_Tf, List.forall_mem_append.mpr ⟨lk_at_ok lk_t_xk_Tw, List.forall_mem_append.mpr ⟨lk_at_ok lk_t_xk_Tl, List.forall_mem_append.mpr ⟨lk_at_ok lk_t_xk_Ti, List.forall_mem_append.mpr ⟨lk_at_ok lk_t_xk_Tm, List.forall_mem_append.mpr ⟨lk_cxm, List.forall_mem_append.mpr ⟨lk_at_ok lk_t_xk_Tn, List.forall_mem_append.mpr ⟨lk_at_ok lk_t_xk_Tst, List.forall_mem_append.mpr ⟨lk_at_ok lk_t_xk_Tin, List.forall_mem_append.mpr ⟨lk_at_ok lk_t_xk_Tse, lk_at_ok lk_t_xk_Tcp⟩⟩⟩⟩⟩⟩⟩⟩⟩⟩
theorem lk_i_rk_Ts : ∀ w ∈ rk_Ts, w ∈ lw_tbl := List.forall_mem_append.mpr ⟨lk_at_ok lk_t_r0, List.forall_mem_append.mpr ⟨lk_at_ok lk_t_r1, List.forall_mem_append.mpr ⟨lk_at_ok lk_t_r2, List.forall_mem_append.mpr ⟨lk_at_ok lk_t_r3, List.forall_mem_append.mpr ⟨lk_at_ok lk_t_r4, List.forall_mem_append.mpr ⟨lk_crm, List.forall_mem_cons.mpr ⟨lk_at_ok lk_t_r6 _ List.mem_cons_self, List.forall_mem_append.mpr ⟨lk_at_ok lk_t_r7, List.forall_mem_append.mpr ⟨lk_at_ok lk_t_r8, lk_at_ok lk_t_r9⟩⟩⟩⟩⟩⟩⟩⟩⟩
set_option maxRecDepth 100000 in
theorem lk_t_xk_Ty : lk_at xk_Ty [2048, 1187, 1214, 1033, 1048, 1090, 1143, 1162, 1181, 2042, 2049, 1188, 1215, 1034, 1049, 1091, 1144, 1163, 1182, 2043, 1011, 1008, 1009, 1002, 1003, 1004, 1005, 1006, 1007, 1010, 1047, 1142, 1213, 2047, 1219, 1095, 1053, 1192, 1186, 1148, 2053, 1038, 1167, 1030, 1031, 1032, 2050, 1189, 1216, 1035, 1050, 1092, 1145, 1164, 1183, 2044] = true := by decide +kernel
set_option maxRecDepth 100000 in
theorem lk_t_rc_Ty : lk_at rc_Ty [6000, 1031, 1032, 5239, 1047, 1142, 1213] = true := by decide +kernel
set_option maxRecDepth 100000 in
theorem lk_t_lk_Tl : lk_at lk_Tl [3087, 4017, 4039, 4055, 4102, 4110, 4121, 4129, 4140, 4152, 4185, 4196, 4214, 4224, 4235, 5002, 5013, 5020, 5028, 5204, 5219, 5231, 3006, 7029, 3083, 7037, 7025, 3018, 7098, 4013, 7102, 4036, 7106, 4052, 7114, 4099, 7122, 4107, 7126, 4118, 7134, 4126, 7138, 4137, 7142, 4149, 7152, 4182, 7164, 4193, 7168, 4211, 7172, 4221, 7177, 4232, 7185, 4239, 7189, 5010, 7197, 5017, 7201, 5025, 7205, 5201, 8014, 5216, 8018, 5228, 8026, 3022, 8030, 3048, 8034, 3060, 8038, 3075, 8042, 3085, 4015, 4038, 4054, 4101, 4109, 4120, 4128, 4139, 4151, 4184, 4195, 4213, 4223, 4234, 5001, 5012, 5019, 5027, 5203, 5218, 5230, 3084, 4014, 4037, 4053, 4100, 4108, 4119, 4127, 4138, 4150, 4183, 4194, 4212, 4222, 4233, 5000, 5011, 5018, 5026, 5202, 5217, 5229, 1000, 8046, 1025, 5235, 1026, 5236, 1027, 5237, 5238, 4016, 3086] = true := by decide +kernel
set_option maxRecDepth 100000 in
theorem lk_t_jx_Ts : lk_at jx_Ts [3187, 3188, 3189, 1019, 3190, 8064, 3191, 3192, 3193, 3194, 3195, 8065, 3197, 3198, 3199, 3200, 3201, 3202, 3203, 3204, 3205, 3206, 1020, 3207, 3208, 3209, 3210, 3211, 3213, 3214, 1021, 3215, 5096] = true := by decide +kernel
set_option maxRecDepth 100000 in
theorem lk_t_xk_Tx : ∀ w ∈ xk_Tx, w ∈ lw_tbl := by decide +kernel
def lk_Ts : List Cond := xk_Ts ++ (xk_Tx ++ (xk_Ty ++ (rk_Ts ++ (rc_Ty ++ (lk_Tl ++ jx_Ts)))))
theorem lk_tin : ∀ w ∈ lk_Ts, w ∈ lw_tbl := List.forall_mem_append.mpr ⟨lk_i_xk_Ts, List.forall_mem_append.mpr ⟨lk_t_xk_Tx, List.forall_mem_append.mpr ⟨lk_at_ok lk_t_xk_Ty, List.forall_mem_append.mpr ⟨lk_i_rk_Ts, List.forall_mem_append.mpr ⟨lk_at_ok lk_t_rc_Ty, List.forall_mem_append.mpr ⟨lk_at_ok lk_t_lk_Tl, lk_at_ok lk_t_jx_Ts⟩⟩⟩⟩⟩⟩
theorem lk_tgood : ∀ w ∈ lk_Ts, goodWord w = true := List.forall_mem_append.mpr ⟨fun w h => List.all_eq_true.mp xk_good w h, List.forall_mem_append.mpr ⟨fun w h => List.all_eq_true.mp xk_x2 w h, List.forall_mem_append.mpr ⟨fun w h => List.all_eq_true.mp xk_y5 w h, List.forall_mem_append.mpr ⟨fun w h => List.all_eq_true.mp rk_good w h, List.forall_mem_append.mpr ⟨fun w h => List.all_eq_true.mp rc_y1 w h, List.forall_mem_append.mpr ⟨fun w h => List.all_eq_true.mp lk_good w h, fun w h => List.all_eq_true.mp jx_good w h⟩⟩⟩⟩⟩⟩
