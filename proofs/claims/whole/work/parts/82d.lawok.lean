/-! ===== what the tables say of the law: calls, catches, making ===== -/
/-- what lies round the law's own calls -/
def lk_Nx (N : State → Prop) : Prop := ∀ s, N s → va_Nc "java/lang/IllegalArgumentException" "java/util/NoSuchElementException" s ∧ (∀ args, (Cond.castable "java/util/NoSuchElementException" "java/util/NoSuchElementException").before args s = true) ∧ ∀ args, (Cond.castable "java/lang/IllegalArgumentException" "java/lang/IllegalArgumentException").before args s = true
def lk_G (N : State → Prop) (Ts : List Cond) (mi pc : Nat) (E : String) (h : Nat) : Prop := ∀ (args : Array Value) (s : State), N s → (∀ w ∈ Ts, w.before args s = true) → ∃ (pre : List ExceptionTableEntry) (x : ExceptionTableEntry) (suf : List ExceptionTableEntry) (name : String), tableOf (ix_mh lk_T mi) = pre ++ x :: suf ∧
    (∀ z ∈ pre, covers z pc = false ∨ (z.catchType ≠ 0 ∧ ∃ nm : String, (Cond.classLink (lk_cn (ij_mo lk_P mi)) z.catchType nm).before args s = true ∧ va_Nc E nm s)) ∧ covers x pc = true ∧ x.catchType ≠ 0 ∧ (Cond.classLink (lk_cn (ij_mo lk_P mi)) x.catchType name).before args s = true ∧ (Cond.castable E name).before args s = true ∧ x.handlerPc = h
theorem lk_g1 {N : State → Prop} {Ts : List Cond} {mi pc a b h ct : Nat} {E : String} (hC : ∀ s, N s → ∀ args, (Cond.castable E E).before args s = true) (hm : ix_mh lk_T mi = [(a, b, h, ct)]) (hcn : lk_cn (ij_mo lk_P mi) = RL) (hc : covers ⟨a, b, h, ct⟩ pc = true) (h0 : ct ≠ 0) (hl : Cond.classLink RL ct E ∈ Ts) : ∀ E' h', lk_sl [(E, h)] E' = some h' → lk_G N Ts mi pc E' h' := by
  intro E' h' hs args s hN hts
  have hs : (if E = E' then some h else none) = some h' := hs
  by_cases he : E = E'
  · rw [if_pos he] at hs
    cases hs
    subst he
    exact ⟨[], ⟨a, b, h, ct⟩, [], E, by rw [hm]; rfl, fun z hz => (nomatch hz), hc, h0, by rw [hcn]; exact hts _ hl, hC s hN args, rfl⟩
  · rw [if_neg he] at hs
    cases hs
theorem lk_g2 {N : State → Prop} {Ts : List Cond} (hN9 : lk_Nx N) {mi pc a b h h2 : Nat} (hm : ix_mh lk_T mi = [(a, b, h, 18), (a, b, h2, 13)]) (hcn : lk_cn (ij_mo lk_P mi) = RL) (hc : covers ⟨a, b, h, 18⟩ pc = true) (hc2 : covers ⟨a, b, h2, 13⟩ pc = true) (hl : Cond.classLink RL 18 "java/util/NoSuchElementException" ∈ Ts) (hl2 : Cond.classLink RL 13 "java/lang/IllegalArgumentException" ∈ Ts) : ∀ E' h', lk_sl [("java/util/NoSuchElementException", h), ("java/lang/IllegalArgumentException", h2)] E' = some h' → lk_G N Ts mi pc E' h' := by
  intro E' h' hs args s hN hts
  have hs : (if "java/util/NoSuchElementException" = E' then some h else if "java/lang/IllegalArgumentException" = E' then some h2 else none) = some h' := hs
  by_cases he : "java/util/NoSuchElementException" = E'
  · rw [if_pos he] at hs
    cases hs
    subst he
    exact ⟨[], ⟨a, b, h, 18⟩, [⟨a, b, h2, 13⟩], "java/util/NoSuchElementException", by rw [hm]; rfl, fun z hz => (nomatch hz), hc, (show (18 : Nat) ≠ 0 by decide), by rw [hcn]; exact hts _ hl, (hN9 s hN).2.1 args, rfl⟩
  · rw [if_neg he] at hs
    by_cases he2 : "java/lang/IllegalArgumentException" = E'
    · rw [if_pos he2] at hs
      cases hs
      subst he2
      refine ⟨[⟨a, b, h, 18⟩], ⟨a, b, h2, 13⟩, [], "java/lang/IllegalArgumentException", by rw [hm]; rfl, fun z hz => ?_, hc2, (show (13 : Nat) ≠ 0 by decide), by rw [hcn]; exact hts _ hl2, (hN9 s hN).2.2 args, rfl⟩
      rcases List.mem_cons.mp hz with rfl | hz
      · exact Or.inr ⟨(show (18 : Nat) ≠ 0 by decide), "java/util/NoSuchElementException", by rw [hcn]; exact hts _ hl, (hN9 s hN).1⟩
      · exact nomatch hz
    · rw [if_neg he2] at hs
      cases hs
set_option maxRecDepth 100000 in
theorem lk_hxall {N : State → Prop} (hN : lk_Nx N) {Ts : List Cond} (hS : Cond.classLink RL 18 "java/util/NoSuchElementException" ∈ Ts) (hI : Cond.classLink RL 13 "java/lang/IllegalArgumentException" ∈ Ts) : ∀ e ∈ lk_hxl, ∀ E h, lk_sl e.2 E = some h → lk_G N Ts (e.1 / 65536) (e.1 % 65536) E h :=
  List.forall_mem_cons.mpr ⟨lk_g1 (mi := 240) (pc := 4) (fun s hs => (hN s hs).2.2) rfl rfl rfl (by decide) hI, List.forall_mem_cons.mpr ⟨lk_g1 (mi := 241) (pc := 4) (fun s hs => (hN s hs).2.1) rfl rfl rfl (by decide) hS, List.forall_mem_cons.mpr ⟨lk_g1 (mi := 242) (pc := 4) (fun s hs => (hN s hs).2.1) rfl rfl rfl (by decide) hS, List.forall_mem_cons.mpr ⟨lk_g1 (mi := 243) (pc := 5) (fun s hs => (hN s hs).2.1) rfl rfl rfl (by decide) hS, List.forall_mem_cons.mpr ⟨lk_g1 (mi := 244) (pc := 5) (fun s hs => (hN s hs).2.1) rfl rfl rfl (by decide) hS, List.forall_mem_cons.mpr ⟨lk_g1 (mi := 245) (pc := 5) (fun s hs => (hN s hs).2.1) rfl rfl rfl (by decide) hS, List.forall_mem_cons.mpr ⟨lk_g1 (mi := 246) (pc := 4) (fun s hs => (hN s hs).2.1) rfl rfl rfl (by decide) hS, List.forall_mem_cons.mpr ⟨lk_g1 (mi := 247) (pc := 4) (fun s hs => (hN s hs).2.1) rfl rfl rfl (by decide) hS, List.forall_mem_cons.mpr ⟨lk_g1 (mi := 248) (pc := 4) (fun s hs => (hN s hs).2.1) rfl rfl rfl (by decide) hS, List.forall_mem_cons.mpr ⟨lk_g2 (mi := 249) (pc := 5) hN rfl rfl rfl rfl hS hI, List.forall_mem_cons.mpr ⟨lk_g1 (mi := 250) (pc := 4) (fun s hs => (hN s hs).2.2) rfl rfl rfl (by decide) hI, List.forall_mem_cons.mpr ⟨lk_g2 (mi := 251) (pc := 5) hN rfl rfl rfl rfl hS hI, List.forall_mem_cons.mpr ⟨lk_g2 (mi := 252) (pc := 8) hN rfl rfl rfl rfl hS hI, List.forall_mem_cons.mpr ⟨lk_g1 (mi := 253) (pc := 5) (fun s hs => (hN s hs).2.1) rfl rfl rfl (by decide) hS, List.forall_mem_cons.mpr ⟨lk_g1 (mi := 254) (pc := 4) (fun s hs => (hN s hs).2.1) rfl rfl rfl (by decide) hS, List.forall_mem_cons.mpr ⟨lk_g1 (mi := 255) (pc := 4) (fun s hs => (hN s hs).2.1) rfl rfl rfl (by decide) hS, List.forall_mem_cons.mpr ⟨lk_g1 (mi := 256) (pc := 5) (fun s hs => (hN s hs).2.1) rfl rfl rfl (by decide) hS, List.forall_mem_cons.mpr ⟨lk_g1 (mi := 257) (pc := 4) (fun s hs => (hN s hs).2.1) rfl rfl rfl (by decide) hS, List.forall_mem_cons.mpr ⟨lk_g2 (mi := 258) (pc := 5) hN rfl rfl rfl rfl hS hI, List.forall_mem_cons.mpr ⟨lk_g2 (mi := 259) (pc := 7) hN rfl rfl rfl rfl hS hI, List.forall_mem_cons.mpr ⟨lk_g1 (mi := 260) (pc := 4) (fun s hs => (hN s hs).2.2) rfl rfl rfl (by decide) hI, List.forall_mem_cons.mpr ⟨lk_g1 (mi := 261) (pc := 4) (fun s hs => (hN s hs).2.1) rfl rfl rfl (by decide) hS, fun _ h => nomatch h⟩⟩⟩⟩⟩⟩⟩⟩⟩⟩⟩⟩⟩⟩⟩⟩⟩⟩⟩⟩⟩⟩
theorem lk_okx {cl : List vw_C} (hcl : ∀ c, c < 11 → cl[c]? = some (xk_Rn c, xk_Tc c, xk_nf c)) (hc11 : cl[11]? = some (RX11, TX11, 72)) {Ts : List Cond} (hX : ∀ w ∈ xk_Ts, w ∈ Ts) (hR : ∀ w ∈ rk_Ts, w ∈ Ts) (hL : ∀ w ∈ lk_Tl, w ∈ Ts) (hgood : ∀ w ∈ Ts, goodWord w = true) {N : State → Prop} (hN : lk_Nx N) {A : Nat → Prop}
    (hZ : ∀ s, N s → vx_Zq Bundle.tN "UNASSIGNED_STACK" Bundle.steD A s s.heap ∧ vx_Zq Bundle.tN "SUPPRESSED_SENTINEL" Bundle.listD A s s.heap) : ix_okm lk_P lk_M lk_T N A Ts cl lk_cn lk_my lk_mb := by
  refine ⟨hgood, fun o i j h0 => ?_, fun mi x hdc0 hco => ?_, hZ, fun mi pc E h => (nomatch h), fun mi pc E h hh0 => ?_⟩
  · have h : (bif Nat.beq o 22 then ij_look lk_pml i else none) = some j := h0
    clear h0
    cases hb : Nat.beq o 22 with
    | false => rw [hb] at h; cases h
    | true =>
      rw [hb, cond_true] at h
      obtain rfl := Nat.eq_of_beq_eq_true hb
      have hm := ij_look_mem h
      have hw : Cond.methodLink (lk_cn 22) i (lk_my j) ∈ Ts := hL _ (List.mem_append_left _ (List.mem_map.mpr ⟨(i, j), hm, rfl⟩))
      have hc := List.all_eq_true.mp lk_c1 _ hm
      simp only [Bool.or_eq_true, Bool.and_eq_true] at hc
      rcases hc with hc | ⟨hc1, hc2⟩ | ⟨hc1, hc2⟩
      · have hj0 : j < 152 := Nat.le_of_ble_eq_true hc
        have hj : j < 163 := by omega
        have hjs : j ∈ xk_js := List.mem_range.mpr hj
        obtain ⟨g1, g2, g3, g4, g5, g6, g7⟩ := xk_j hj
        have e1 : lk_my j = xk_my j := lk_b1 (f := xk_my) (g := rc_my) (h := lk_wy) hj
        have e2 : lk_mb j = xk_mb j := lk_b1 (f := xk_mb) (g := rc_mb) (h := lk_wb) hj
        have e3 : ij_ml lk_P j = xk_ml j := lk_b1 (f := xk_ml) (g := rc_ml) (h := lk_wl) hj
        have e4 : ij_mr lk_M j = xk_mr j := lk_b1 (f := xk_mr) (g := rc_mr) (h := lk_wr) hj
        have e5 : ij_ms lk_M j = xk_ms j := lk_b1 (f := xk_ms) (g := rc_ms) (h := (fun _ => true)) hj
        have e6 : ij_mn lk_M j = xk_mn j := lk_b1 (f := xk_mn) (g := rc_mn) (h := lk_wn) hj
        have e7 : ix_mh lk_T j = [] := lk_b1 (f := (fun _ => [])) (g := (fun _ => [])) (h := lk_wh) hj
        have e8 : ij_mo lk_P j = xk_mo j := lk_b1 (f := xk_mo) (g := (fun _ => 11)) (h := (fun _ => 22)) hj
        rw [e1] at hw
        rw [ix_code_nil e7, e1, e2, e3, e4, e5, e6, e8]
        refine ⟨hw, (hX _ (List.mem_append_right _ (List.mem_append_right _ (List.mem_append_right _ (List.mem_append_right _ (List.mem_append_right _ (List.mem_append_left _ (List.mem_map.mpr ⟨j, hjs, rfl⟩)))))))), (hX _ (List.mem_append_right _ (List.mem_append_right _ (List.mem_append_right _ (List.mem_append_right _ (List.mem_append_right _ (List.mem_append_right _ (List.mem_append_left _ (List.mem_map.mpr ⟨j, hjs, rfl⟩))))))))), fun hs => hX _ (List.mem_append_right _ (List.mem_append_right _ (List.mem_append_right _ (List.mem_append_right _ (List.mem_append_right _ (List.mem_append_right _ (List.mem_append_right _ (List.mem_append_left _ (List.mem_map.mpr ⟨j, List.mem_filter.mpr ⟨hjs, hs⟩, rfl⟩))))))))), fun hs => ⟨e7, (hX _ (List.mem_append_right _ (List.mem_append_right _ (List.mem_append_right _ (List.mem_append_right _ (List.mem_append_right _ (List.mem_append_right _ (List.mem_append_right _ (List.mem_append_right _ (List.mem_append_left _ (List.mem_map.mpr ⟨j, List.mem_filter.mpr ⟨hjs, by rw [hs]; rfl⟩, rfl⟩))))))))))), (hX _ (List.mem_append_right _ (List.mem_append_right _ (List.mem_append_right _ (List.mem_append_right _ (List.mem_append_right _ (List.mem_append_right _ (List.mem_append_right _ (List.mem_append_right _ (List.mem_append_right _ (List.mem_append_left _ (List.mem_map.mpr ⟨j, List.mem_filter.mpr ⟨List.mem_filter.mpr ⟨hjs, by rw [hs]; rfl⟩, Nat.ble_eq_true_of_le hj0⟩, rfl⟩)))))))))))), ?_⟩, ⟨g4, g5, g1⟩, g2⟩
        rcases g7 with g7 | g7
        · rw [hs] at g7
          cases g7
        · exact ⟨_, hcl _ g7.1, g7.2⟩
      · obtain ⟨js, rfl⟩ : ∃ js, j = 163 + js := ⟨j - 163, by have := Nat.le_of_ble_eq_true hc1; omega⟩
        have hj : js < 75 := by have : 163 + js < 238 := Nat.le_of_ble_eq_true hc2; omega
        have hjs : js ∈ rk_js := List.mem_range.mpr hj
        have e1 : lk_my (163 + js) = rk_my js := (lk_b2 (f := xk_my) (g := rc_my) (h := lk_wy) (by omega)).trans (rc_b_lt hj)
        have e2 : lk_mb (163 + js) = rk_mb js := (lk_b2 (f := xk_mb) (g := rc_mb) (h := lk_wb) (by omega)).trans (rc_b_lt hj)
        have e3 : ij_ml lk_P (163 + js) = rk_ml js := (lk_b2 (f := xk_ml) (g := rc_ml) (h := lk_wl) (by omega)).trans (rc_b_lt hj)
        have e4 : ij_mr lk_M (163 + js) = rk_mr js := (lk_b2 (f := xk_mr) (g := rc_mr) (h := lk_wr) (by omega)).trans (rc_b_lt hj)
        have e5 : ij_ms lk_M (163 + js) = rk_ms js := (lk_b2 (f := xk_ms) (g := rc_ms) (h := (fun _ => true)) (by omega)).trans (rc_b_lt hj)
        have e6 : ij_mn lk_M (163 + js) = rk_mn js := (lk_b2 (f := xk_mn) (g := rc_mn) (h := lk_wn) (by omega)).trans (rc_b_lt hj)
        have e7 : ix_mh lk_T (163 + js) = [] := lk_b2 (f := (fun _ => [])) (g := (fun _ => [])) (h := lk_wh) (by omega)
        have e8 : ij_mo lk_P (163 + js) = 11 := lk_b2 (f := xk_mo) (g := (fun _ => 11)) (h := (fun _ => 22)) (by omega)
        have hc := List.all_eq_true.mp rk_c3 _ hjs
        simp only [Bool.and_eq_true, decide_eq_true_eq] at hc
        obtain ⟨h1, h2, h3⟩ := hc
        rw [e1] at hw
        rw [ix_code_nil e7, e1, e2, e3, e4, e5, e6, e8]
        refine ⟨hw, (hR _ (List.mem_append_right _ (List.mem_append_right _ (List.mem_append_right _ (List.mem_append_right _ (List.mem_append_right _ (List.mem_append_left _ (List.mem_map.mpr ⟨js, hjs, rfl⟩)))))))), by rw [h3]; exact hR _ (List.mem_append_right _ (List.mem_append_right _ (List.mem_append_right _ (List.mem_append_right _ (List.mem_append_right _ (List.mem_append_right _ (List.mem_cons_self))))))), fun hs => hR _ (List.mem_append_right _ (List.mem_append_right _ (List.mem_append_right _ (List.mem_append_right _ (List.mem_append_right _ (List.mem_append_right _ (List.mem_cons_of_mem _ (List.mem_append_left _ (List.mem_map.mpr ⟨js, List.mem_filter.mpr ⟨hjs, hs⟩, rfl⟩))))))))), fun hs => ⟨e7, (hR _ (List.mem_append_right _ (List.mem_append_right _ (List.mem_append_right _ (List.mem_append_right _ (List.mem_append_right _ (List.mem_append_right _ (List.mem_cons_of_mem _ (List.mem_append_right _ (List.mem_append_left _ (List.mem_map.mpr ⟨js, List.mem_filter.mpr ⟨hjs, by rw [hs]; rfl⟩, rfl⟩))))))))))), (hR _ (List.mem_append_right _ (List.mem_append_right _ (List.mem_append_right _ (List.mem_append_right _ (List.mem_append_right _ (List.mem_append_right _ (List.mem_cons_of_mem _ (List.mem_append_right _ (List.mem_append_right _ (List.mem_map.mpr ⟨js, List.mem_filter.mpr ⟨hjs, by rw [hs]; rfl⟩, rfl⟩))))))))))), _, hc11, h3.symm⟩, ⟨by rw [h3]; decide +kernel, by rw [h3]; decide +kernel, h1⟩, Nat.le_of_ble_eq_true h2⟩
      · obtain ⟨i9, rfl⟩ : ∃ i9, j = 239 + (i9 + 1) := ⟨j - 240, by have := Nat.le_of_ble_eq_true hc1; omega⟩
        have hi : i9 + 1 ∈ lk_ws := List.mem_map.mpr ⟨i9, List.mem_range.mpr (by have : 239 + (i9 + 1) < 262 := Nat.le_of_ble_eq_true hc2; omega), rfl⟩
        have e1 : lk_my (239 + (i9 + 1)) = lk_wy (i9 + 1) := lk_b3 (f := xk_my) (g := rc_my) (h := lk_wy)
        have e2 : lk_mb (239 + (i9 + 1)) = lk_wb (i9 + 1) := lk_b3 (f := xk_mb) (g := rc_mb) (h := lk_wb)
        have e3 : ij_ml lk_P (239 + (i9 + 1)) = lk_wl (i9 + 1) := lk_b3 (f := xk_ml) (g := rc_ml) (h := lk_wl)
        have e4 : ij_mr lk_M (239 + (i9 + 1)) = lk_wr (i9 + 1) := lk_b3 (f := xk_mr) (g := rc_mr) (h := lk_wr)
        have e5 : ij_ms lk_M (239 + (i9 + 1)) = true := lk_b3 (f := xk_ms) (g := rc_ms) (h := (fun _ => true))
        have e6 : ij_mn lk_M (239 + (i9 + 1)) = lk_wn (i9 + 1) := lk_b3 (f := xk_mn) (g := rc_mn) (h := lk_wn)
        have e7 : ix_mh lk_T (239 + (i9 + 1)) = lk_wh (i9 + 1) := lk_b3 (f := (fun _ => [])) (g := (fun _ => [])) (h := lk_wh)
        have hc := List.all_eq_true.mp lk_c2 _ hi
        simp only [Bool.and_eq_true, decide_eq_true_eq, Bool.not_eq_true'] at hc
        obtain ⟨h1, h2, h3, h4⟩ := hc
        obtain ⟨q9, t9, hq⟩ : ∃ q9 t9, lk_wh (i9 + 1) = q9 :: t9 := by
          cases hh : lk_wh (i9 + 1) with
          | nil => rw [hh] at h4; cases h4
          | cons q t => exact ⟨q, t, rfl⟩
        rw [e1] at hw
        have hcd : Cond.codeWith (lk_wy (i9 + 1)) (lk_wb (i9 + 1)) (lk_wl (i9 + 1)) (lk_wr (i9 + 1)) (lk_wh (i9 + 1)) ∈ Ts := hL _ (List.mem_append_right _ (List.mem_append_left _ (List.mem_map.mpr ⟨i9 + 1, hi, rfl⟩)))
        rw [hq] at hcd
        rw [ix_code_cons (e7.trans hq), e1, e2, e3, e4, e5, e6]
        refine ⟨hw, hcd, by rw [h3]; exact hL _ (List.mem_append_right _ (List.mem_append_right _ (List.mem_append_right _ (List.mem_of_getElem? (i := 0) rfl)))), fun _ => hL _ (List.mem_append_right _ (List.mem_append_right _ (List.mem_append_left _ (List.mem_map.mpr ⟨i9 + 1, hi, rfl⟩)))), fun hs => (nomatch hs), ⟨by rw [h3]; decide +kernel, by rw [h3]; decide +kernel, h1⟩, Nat.le_of_ble_eq_true h2⟩
  · have hdc : (bif Nat.ble 239 mi then lk_find (ij_nth [] lk_tbl (mi - 239)) 0 else none) = some x := hdc0
    clear hdc0
    cases hb : Nat.ble 239 mi with
    | false => rw [hb] at hdc; cases hdc
    | true =>
      obtain ⟨i9, rfl⟩ : ∃ i9, mi = 239 + i9 := ⟨mi - 239, by have := Nat.le_of_ble_eq_true hb; omega⟩
      have e0 : ix_co lk_T (239 + i9) = (bif Nat.beq i9 0 then 0 else bif Nat.blt i9 23 then 3 else 0) := lk_b3 (f := xk_co) (g := fun _ => 0) (h := fun i => bif Nat.beq i 0 then 0 else bif Nat.blt i 23 then 3 else 0)
      rw [e0] at hco
      have hi : i9 ∈ lk_ws := by
        cases h1 : Nat.beq i9 0 with
        | true => rw [h1, cond_true] at hco; exact absurd hco (by decide)
        | false =>
          rw [h1, cond_false] at hco
          cases h2 : Nat.blt i9 23 with
          | false => rw [h2, cond_false] at hco; exact absurd hco (by decide)
          | true =>
            have h2 : i9 < 23 := Nat.le_of_ble_eq_true h2
            cases i9 with
            | zero => cases h1
            | succ i9 => exact List.mem_map.mpr ⟨i9, List.mem_range.mpr (by omega), rfl⟩
      have hc := List.all_eq_true.mp lk_c2 _ hi
      simp only [Bool.and_eq_true, decide_eq_true_eq] at hc
      have e1 : lk_my (239 + i9) = lk_wy i9 := lk_b3 (f := xk_my) (g := rc_my) (h := lk_wy)
      have e8 : ij_mo lk_P (239 + i9) = 22 := lk_b3 (f := xk_mo) (g := (fun _ => 11)) (h := (fun _ => 22))
      rw [e1, e8, hc.2.2.1]
      exact ⟨by decide +kernel, rfl⟩
  · have hh : (bif Nat.blt pc 65536 then (ij_look lk_hxl (mi * 65536 + pc)).bind (fun l => lk_sl l E) else none) = some h := hh0
    clear hh0
    cases hb : Nat.blt pc 65536 with
    | false => rw [hb] at hh; cases hh
    | true =>
      rw [hb, cond_true] at hh
      obtain ⟨l9, hl9, hh⟩ := ij_bind hh
      obtain ⟨e1, e2⟩ := xk_key (o := mi) (Nat.le_of_ble_eq_true hb)
      have := lk_hxall hN (hL _ (List.mem_append_right _ (List.mem_append_right _ (List.mem_append_right _ (List.mem_of_getElem? (i := 9) rfl))))) (hL _ (List.mem_append_right _ (List.mem_append_right _ (List.mem_append_right _ (List.mem_of_getElem? (i := 10) rfl))))) _ (ij_look_mem hl9) E h hh
      dsimp only at this
      rw [e1, e2] at this
      exact this
theorem lk_d10 : (List.range 11).all (fun k => decide (iy_dv (lk_ft 73 k) = some (defaultValue (lk_ty 10 k)))) = true := by decide +kernel
theorem lk_d11 : (List.range 72).all (fun k => decide (iy_dv (lk_ft 80 k) = some (defaultValue (lk_ty 11 k)))) = true := by decide +kernel
theorem lk_oky {cl : List vw_C} (hclx : ∀ c, c < 80 → xk_kc c < 11 → cl[c]? = some (xk_Rn (xk_kc c), xk_Tc (xk_kc c), xk_nf (xk_kc c))) (hclr : ∀ c, c < 121 → rc_kc c = 11 → cl[c]? = some (RX11, TX11, 72)) {Ts : List Cond} (hX : ∀ w ∈ xk_Ts, w ∈ Ts) (hY : ∀ w ∈ xk_Ty, w ∈ Ts) (hR : ∀ w ∈ rk_Ts, w ∈ Ts) (hRy : ∀ w ∈ rc_Ty, w ∈ Ts) (hL : ∀ w ∈ lk_Tl, w ∈ Ts) {D : va_G} : iy_okm lk_P lk_M lk_Z Ts cl lk_nf lk_ty lk_cn lk_my lk_mb D := by
  refine ⟨fun o i ci h0 => ?_, fun t ht => hRy _ (List.mem_append_right _ (List.mem_map.mpr ⟨t, ht, rfl⟩)), fun ki k k2 ci h1 h => (nomatch h), fun o i h => (nomatch h), fun o i j h0 => ?_⟩
  · have h : (bif Nat.beq o 22 then (bif Nat.beq i 8 then some 10 else bif Nat.beq i 86 then some 11 else none) else none) = some ci := h0
    clear h0
    cases hb : Nat.beq o 22 with
    | false => rw [hb] at h; cases h
    | true =>
      rw [hb, cond_true] at h
      obtain rfl := Nat.eq_of_beq_eq_true hb
      cases h1 : Nat.beq i 8 with
      | true =>
        rw [h1] at h
        cases h
        obtain rfl := Nat.eq_of_beq_eq_true h1
        exact ⟨RX10, TX10, hclx 10 (by decide) (by decide), hclx 73 (by decide) (by decide), rfl, fun w hw => hX _ (List.mem_append_right _ (List.mem_append_left _ (List.mem_flatMap.mpr ⟨10, List.mem_range.mpr (by decide), hw⟩))), tyX10_ok, hL _ (List.mem_append_right _ (List.mem_append_right _ (List.mem_append_right _ (List.mem_of_getElem? (i := 2) rfl)))), hL _ (List.mem_append_right _ (List.mem_append_right _ (List.mem_append_right _ (List.mem_of_getElem? (i := 4) rfl)))), hX _ (List.mem_append_right _ (List.mem_append_right _ (List.mem_append_right _ (List.mem_append_right _ (List.mem_append_right _ (List.mem_append_right _ (List.mem_append_left _ (List.mem_map.mpr ⟨162, List.mem_range.mpr (by decide), rfl⟩)))))))), fun k hk => of_decide_eq_true (List.all_eq_true.mp lk_d10 k (List.mem_range.mpr hk))⟩
      | false =>
        rw [h1, cond_false] at h
        cases h2 : Nat.beq i 86 with
        | false => rw [h2] at h; cases h
        | true =>
          rw [h2] at h
          cases h
          obtain rfl := Nat.eq_of_beq_eq_true h2
          exact ⟨RX11, TX11, hclr 11 (by decide) rfl, hclr 80 (by decide) rfl, rfl, fun w hw => hR _ (List.mem_append_right _ (List.mem_append_left _ hw)), tyX11_ok, hL _ (List.mem_append_right _ (List.mem_append_right _ (List.mem_append_right _ (List.mem_of_getElem? (i := 3) rfl)))), hL _ (List.mem_append_right _ (List.mem_append_right _ (List.mem_append_right _ (List.mem_of_getElem? (i := 5) rfl)))), hR _ (List.mem_append_right _ (List.mem_append_right _ (List.mem_append_right _ (List.mem_append_right _ (List.mem_append_right _ (List.mem_append_right _ (List.mem_cons_self))))))), fun k hk => of_decide_eq_true (List.all_eq_true.mp lk_d11 k (List.mem_range.mpr hk))⟩
  · have h : (bif Nat.beq o 22 then (bif Nat.beq i 85 then some 162 else bif Nat.beq i 88 then some 238 else none) else none) = some j := h0
    clear h0
    cases hb : Nat.beq o 22 with
    | false => rw [hb] at h; cases h
    | true =>
      rw [hb, cond_true] at h
      obtain rfl := Nat.eq_of_beq_eq_true hb
      cases h1 : Nat.beq i 85 with
      | true =>
        rw [h1] at h
        cases h
        obtain rfl := Nat.eq_of_beq_eq_true h1
        exact ⟨hL _ (List.mem_append_right _ (List.mem_append_right _ (List.mem_append_right _ (List.mem_of_getElem? (i := 6) rfl)))), hX _ (List.mem_append_right _ (List.mem_append_right _ (List.mem_append_right _ (List.mem_append_right _ (List.mem_append_right _ (List.mem_append_left _ (List.mem_map.mpr ⟨162, List.mem_range.mpr (by decide), rfl⟩))))))), rfl, hX _ (List.mem_append_right _ (List.mem_append_right _ (List.mem_append_right _ (List.mem_append_right _ (List.mem_append_right _ (List.mem_append_right _ (List.mem_append_left _ (List.mem_map.mpr ⟨162, List.mem_range.mpr (by decide), rfl⟩)))))))), hX _ (List.mem_append_right _ (List.mem_append_right _ (List.mem_append_right _ (List.mem_append_right _ (List.mem_append_right _ (List.mem_append_right _ (List.mem_append_right _ (List.mem_append_right _ (List.mem_append_left _ (List.mem_map.mpr ⟨162, List.mem_filter.mpr ⟨List.mem_range.mpr (by decide), by decide +kernel⟩, rfl⟩)))))))))), rfl, ⟨by decide +kernel, by decide +kernel, by decide +kernel⟩, by decide⟩
      | false =>
        rw [h1, cond_false] at h
        cases h2 : Nat.beq i 88 with
        | false => rw [h2] at h; cases h
        | true =>
          rw [h2] at h
          cases h
          obtain rfl := Nat.eq_of_beq_eq_true h2
          exact ⟨hL _ (List.mem_append_right _ (List.mem_append_right _ (List.mem_append_right _ (List.mem_of_getElem? (i := 7) rfl)))), hRy _ (List.mem_append_left _ (List.mem_of_getElem? (i := 3) rfl)), rfl, hR _ (List.mem_append_right _ (List.mem_append_right _ (List.mem_append_right _ (List.mem_append_right _ (List.mem_append_right _ (List.mem_append_right _ (List.mem_cons_self))))))), hL _ (List.mem_append_right _ (List.mem_append_right _ (List.mem_append_right _ (List.mem_of_getElem? (i := 8) rfl)))), rfl, ⟨by decide +kernel, by decide +kernel, by decide +kernel⟩, by decide⟩
