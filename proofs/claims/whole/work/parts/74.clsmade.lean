/-! ===== the class makes objects ===== -/
def xk_Ty1 : List Cond := xk_pnl.map (fun e => Cond.classLink (xk_cn (e.1 / 65536)) (e.1 % 65536) (xk_Rn e.2))
def xk_Ty2 : List Cond := xk_pnl.map (fun e => Cond.instantiable (xk_Rn e.2) (xk_nf e.2))
def xk_Ty3 : List Cond := xk_pnl.map (fun e => Cond.initialized (xk_Rn e.2))
def xk_Ty4 : List Cond := [FieldType.int, .long, .boolean].map Cond.arrayClass
def xk_Ty5 : List Cond := xk_pol.map (fun e => Cond.methodLink (xk_cn (e.1 / 65536)) (e.1 % 65536) Lib.objectInit) ++ [Cond.instanceMethod Lib.objectInit, Cond.code Lib.objectInit ⟨#[0xb1]⟩ 1 none]
def xk_Ty6 : List Cond := xk_pcl.map (fun e => Cond.methodLink (xk_cn (e.1 / 65536)) (e.1 % 65536) (xk_my e.2))
/-- the words of making objects -/
def xk_Ty : List Cond := xk_Ty1 ++ (xk_Ty2 ++ (xk_Ty3 ++ (xk_Ty4 ++ (xk_Ty5 ++ xk_Ty6))))
theorem xk_y1 : xk_pnl.all (fun e => Nat.blt e.2 11 && (Nat.beq (xk_nf (xk_fk e.2)) (xk_nf e.2) && (Nat.beq (xk_kc (xk_fk e.2)) e.2 && (Nat.beq (xk_kc e.2) e.2 && (Nat.blt (xk_fk e.2) 80 && (List.range (xk_nf e.2)).all (fun k => decide (iy_dv (ij_ft xk_P (xk_fk e.2) k) = some (defaultValue (xk_ty e.2 k))))))))) = true := by decide +kernel
theorem xk_y2 : xk_pcl.all (fun e => Nat.blt e.2 163 && (decide (xk_mr e.2 = none) && (!(xk_ms e.2) && decide ((xk_my e.2).name = "<init>")))) = true := by decide +kernel
theorem xk_y3 : xk_nkl.all (fun e => Nat.blt (e.1 / 256) 80 && (Nat.blt e.2 80 && (Nat.blt (xk_kc (e.1 / 256)) 11 && (Nat.beq (xk_kc e.2) (xk_kc (e.1 / 256)) && (Nat.beq (xk_nf (e.1 / 256)) (xk_nf (xk_kc (e.1 / 256))) && (Nat.beq (xk_nf e.2) (xk_nf (xk_kc (e.1 / 256))) && (Nat.beq (ij_ft xk_P e.2 (e.1 % 256)) (ij_ft xk_P (xk_kc (e.1 / 256)) (e.1 % 256)) &&
  (List.range 16).all (fun j => Nat.beq j (e.1 % 256) || Nat.beq (ij_ft xk_P e.2 j) (ij_ft xk_P (e.1 / 256) j))))))))) = true := by decide +kernel
theorem xk_y4 : (List.range 80).all (fun c => Nat.ble (ij_nth [] xk_ftl c).length 16) = true := by decide +kernel
set_option maxRecDepth 100000 in
theorem xk_y5 : xk_Ty.all goodWord = true := by decide +kernel
theorem xk_nth_over {α : Type} {d : α} : ∀ {l : List α} {j : Nat}, l.length ≤ j → ij_nth d l j = d
  | [], _, _ => rfl
  | _ :: l, 0, h => absurd h (by simp)
  | _ :: l, j + 1, h => xk_nth_over (l := l) (by simpa using h)
theorem xk_oky {cl : List vw_C} (hcl : ∀ c, c < 80 → xk_kc c < 11 → cl[c]? = some (xk_Rn (xk_kc c), xk_Tc (xk_kc c), xk_nf (xk_kc c))) {D : va_G} (hD : ∀ c, c < 80 → xk_kc c < 11 → D.1 c = D.1 (xk_kc c) ∧ D.2 c = D.2 (xk_kc c)) {Ts : List Cond} (hT : ∀ w ∈ xk_Ts, w ∈ Ts) (hTy : ∀ w ∈ xk_Ty, w ∈ Ts) : iy_okm xk_P xk_M xk_Z Ts cl xk_nf xk_ty xk_cn xk_my xk_mb D := by
  refine ⟨fun o i ci h => ?_, fun t ht => hTy _ (List.mem_append_right _ (List.mem_append_right _ (List.mem_append_right _ (List.mem_append_left _ (List.mem_map.mpr ⟨t, ht, rfl⟩))))), fun ki k k2 ci h1 h => ?_, fun o i h => ?_, fun o i j h => ?_⟩
  · obtain ⟨hi, hm⟩ := xk_lk_mem (show xk_lk xk_pnl o i = some ci from h)
    obtain ⟨e1, e2⟩ := xk_key (o := o) hi
    have hc := List.all_eq_true.mp xk_y1 _ hm
    simp only [Bool.and_eq_true] at hc
    obtain ⟨h1, h2, h3, h4, h5, h6⟩ := hc
    have h1 : ci < 11 := Nat.le_of_ble_eq_true h1
    have h2 : xk_nf (xk_fk ci) = xk_nf ci := Nat.eq_of_beq_eq_true h2
    have h3 : xk_kc (xk_fk ci) = ci := Nat.eq_of_beq_eq_true h3
    have h4 : xk_kc ci = ci := Nat.eq_of_beq_eq_true h4
    have h5 : xk_fk ci < 80 := Nat.le_of_ble_eq_true h5
    have g1 := hcl ci (by omega) (by omega)
    have g2 := hcl (xk_fk ci) h5 (by omega)
    rw [h4] at g1
    rw [h3] at g2
    have hw : Cond.classLink (xk_cn ((o * 65536 + i) / 65536)) ((o * 65536 + i) % 65536) (xk_Rn ci) ∈ xk_Ty1 := List.mem_map.mpr ⟨_, hm, rfl⟩
    rw [e1, e2] at hw
    refine ⟨xk_Rn ci, xk_Tc ci, g1, g2, h2, fun w hw => hT _ (List.mem_append_right _ (List.mem_append_left _ (List.mem_flatMap.mpr ⟨ci, List.mem_range.mpr h1, hw⟩))), xk_tyok _ h1, hTy _ (List.mem_append_left _ hw), hTy _ (List.mem_append_right _ (List.mem_append_left _ (List.mem_map.mpr ⟨_, hm, rfl⟩))), hTy _ (List.mem_append_right _ (List.mem_append_right _ (List.mem_append_left _ (List.mem_map.mpr ⟨_, hm, rfl⟩)))), fun k hk => ?_⟩
    exact of_decide_eq_true (List.all_eq_true.mp h6 k (List.mem_range.mpr hk))
  · have h : (bif Nat.blt k 256 then ij_look xk_nkl (ki * 256 + k) else none) = some k2 := h
    cases hb : Nat.blt k 256 with
    | false => rw [hb] at h; cases h
    | true =>
      rw [hb] at h
      have hk : k < 256 := Nat.le_of_ble_eq_true hb
      have hm := ij_look_mem (show ij_look xk_nkl (ki * 256 + k) = some k2 from h)
      have hc := List.all_eq_true.mp xk_y3 _ hm
      dsimp only at hc
      rw [show (ki * 256 + k) / 256 = ki from by omega, show (ki * 256 + k) % 256 = k from by omega] at hc
      simp only [Bool.and_eq_true] at hc
      obtain ⟨a1, a2, a3, a4, a5, a6, a7, a8⟩ := hc
      have a1 : ki < 80 := Nat.le_of_ble_eq_true a1
      have a2 : k2 < 80 := Nat.le_of_ble_eq_true a2
      have a3 : xk_kc ki < 11 := Nat.le_of_ble_eq_true a3
      have a4 : xk_kc k2 = xk_kc ki := Nat.eq_of_beq_eq_true a4
      have a5 : xk_nf ki = xk_nf (xk_kc ki) := Nat.eq_of_beq_eq_true a5
      have a6 : xk_nf k2 = xk_nf (xk_kc ki) := Nat.eq_of_beq_eq_true a6
      have a7 : ij_ft xk_P k2 k = ij_ft xk_P (xk_kc ki) k := Nat.eq_of_beq_eq_true a7
      have hci : xk_kc ki = ci := h1
      have b1 := hcl ki a1 a3
      have b2 := hcl k2 a2 (by omega)
      rw [a4] at b2
      have hkk : xk_kc (xk_kc ki) = xk_kc ki := by
        have : ∀ c, c < 11 → xk_kc c = c := by decide
        exact this _ a3
      have b3 := hcl (xk_kc ki) (by omega) (by omega)
      rw [hkk] at b3
      have d1 := hD ki a1 a3
      have d2 := hD k2 a2 (by omega)
      rw [a4] at d2
      subst hci
      refine ⟨b1.trans b3.symm, b2.trans b3.symm, a5, a6, d1.1.trans d2.1.symm, d1.2.trans d2.2.symm, a7, fun j hj => ?_⟩
      by_cases hj16 : j < 16
      · have := List.all_eq_true.mp a8 j (List.mem_range.mpr hj16)
        simp only [Bool.or_eq_true] at this
        rcases this with q | q
        · exact absurd (Nat.eq_of_beq_eq_true q) hj
        · exact Nat.eq_of_beq_eq_true q
      · have l1 := Nat.le_of_ble_eq_true (List.all_eq_true.mp xk_y4 ki (List.mem_range.mpr a1))
        have l2 := Nat.le_of_ble_eq_true (List.all_eq_true.mp xk_y4 k2 (List.mem_range.mpr a2))
        show ij_nth 9 (ij_nth [] xk_ftl k2) j = ij_nth 9 (ij_nth [] xk_ftl ki) j
        rw [xk_nth_over (by omega), xk_nth_over (by omega)]
  · have h9 : (xk_lk xk_pol o i).getD false = true := h
    cases hx : xk_lk xk_pol o i with
    | none => rw [hx] at h9; cases h9
    | some b =>
      obtain ⟨hi, hm⟩ := xk_lk_mem hx
      obtain ⟨e1, e2⟩ := xk_key (o := o) hi
      have hw : Cond.methodLink (xk_cn ((o * 65536 + i) / 65536)) ((o * 65536 + i) % 65536) Lib.objectInit ∈ xk_pol.map (fun e => Cond.methodLink (xk_cn (e.1 / 65536)) (e.1 % 65536) Lib.objectInit) := List.mem_map.mpr ⟨_, hm, rfl⟩
      rw [e1, e2] at hw
      have h5 : ∀ w ∈ xk_Ty5, w ∈ Ts := fun w hw => hTy _ (List.mem_append_right _ (List.mem_append_right _ (List.mem_append_right _ (List.mem_append_right _ (List.mem_append_left _ hw)))))
      exact ⟨h5 _ (List.mem_append_left _ hw), h5 _ (List.mem_append_right _ List.mem_cons_self), h5 _ (List.mem_append_right _ (List.mem_cons_of_mem _ List.mem_cons_self))⟩
  · obtain ⟨hi, hm⟩ := xk_lk_mem (show xk_lk xk_pcl o i = some j from h)
    obtain ⟨e1, e2⟩ := xk_key (o := o) hi
    have hc := List.all_eq_true.mp xk_y2 _ hm
    simp only [Bool.and_eq_true, decide_eq_true_eq] at hc
    obtain ⟨h1, h2, h3, h4⟩ := hc
    have hj : j < 163 := Nat.le_of_ble_eq_true h1
    have hjs : j ∈ xk_js := List.mem_range.mpr hj
    obtain ⟨g1, g2, g3, g4, g5, g6, g7⟩ := xk_j hj
    have hw : Cond.methodLink (xk_cn ((o * 65536 + i) / 65536)) ((o * 65536 + i) % 65536) (xk_my j) ∈ xk_Ty6 := List.mem_map.mpr ⟨_, hm, rfl⟩
    rw [e1, e2] at hw
    have hcode : Cond.code (xk_my j) (xk_mb j) (xk_ml j) (xk_mr j) ∈ Ts := hT _ (List.mem_append_right _ (List.mem_append_right _ (List.mem_append_right _ (List.mem_append_right _ (List.mem_append_right _ (List.mem_append_left _ (List.mem_map.mpr ⟨j, hjs, rfl⟩)))))))
    rw [h2] at hcode
    refine ⟨hTy _ (List.mem_append_right _ (List.mem_append_right _ (List.mem_append_right _ (List.mem_append_right _ (List.mem_append_right _ hw))))), hcode, h2, hT _ (List.mem_append_right _ (List.mem_append_right _ (List.mem_append_right _ (List.mem_append_right _ (List.mem_append_right _ (List.mem_append_right _ (List.mem_append_left _ (List.mem_map.mpr ⟨j, hjs, rfl⟩)))))))), hT _ (List.mem_append_right _ (List.mem_append_right _ (List.mem_append_right _ (List.mem_append_right _ (List.mem_append_right _ (List.mem_append_right _ (List.mem_append_right _ (List.mem_append_right _ (List.mem_append_left _ (List.mem_map.mpr ⟨j, List.mem_filter.mpr ⟨hjs, h3⟩, rfl⟩)))))))))), h4, ⟨g4, g5, g1⟩, g2⟩
