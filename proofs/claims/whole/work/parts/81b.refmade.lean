/-! ===== the reference is made: what the tables say ===== -/
theorem rc_b_lt {α : Type} {x : α} {f : Nat → α} {j : Nat} (h : j < 75) : rc_b x f j = f j := by
  unfold rc_b
  have hb : Nat.beq j 75 = false := by
    cases h9 : Nat.beq j 75 with
    | false => rfl
    | true => exact absurd (Nat.eq_of_beq_eq_true h9) (by omega)
  rw [hb]
  rfl
theorem rc_ft11 : ∀ k, ij_ft rc_P 11 k = ij_nth 9 rk_ftl k := fun _ => rfl
theorem rc_ok {cl : List vw_C} (hcl : cl[11]? = some (RX11, TX11, 72)) {Ts : List Cond} (hT : ∀ w ∈ rk_Ts, w ∈ Ts) : ij_ok rc_P Ts cl rc_nf rk_ty rk_cn rc_mb := by
  refine ⟨fun mi pc x h => ?_, fun o i q h => ?_, fun o i v h => (nomatch h), fun o i v h => (nomatch h)⟩
  · have h : (bif Nat.beq mi 75 then ij_look rkT_init pc else none) = some x := h
    cases hb : Nat.beq mi 75 with
    | false => rw [hb] at h; cases h
    | true =>
      rw [hb] at h
      have e1 : rc_mb mi = cX11_init := by unfold rc_mb rc_b; rw [hb]; rfl
      rw [e1]
      exact ij_chk_ok rkC_init h
  · obtain ⟨C, T, a1, a2, a3, a4, a5, a6, a7, a8⟩ := (ij_ok_mono (rk_ok hcl) hT).2.1 o i q h
    obtain ⟨k, hk, rfl⟩ := Option.map_eq_some_iff.mp h
    have hn : rc_nf 11 = 72 := rfl
    exact ⟨C, T, a1, a2, a3, a4, a5, a6, a7, a8⟩
theorem rc_okx {cl : List vw_C} (hcl : cl[11]? = some (RX11, TX11, 72)) {Ts : List Cond} (hT : ∀ w ∈ rk_Ts, w ∈ Ts) (hgood : ∀ w ∈ Ts, goodWord w = true) {N : State → Prop} {A : Nat → Prop} (hZ : ∀ s, N s → vx_Zq Bundle.tN "UNASSIGNED_STACK" Bundle.steD A s s.heap ∧ vx_Zq Bundle.tN "SUPPRESSED_SENTINEL" Bundle.listD A s s.heap) : ix_okm rc_P rc_M rc_T N A Ts cl rk_cn rc_my rc_mb := by
  have hk := ij_okm_mono (rk_okm hcl) hT hgood
  refine ⟨hgood, fun o i j h => ?_, fun mi x _ hco => absurd hco (by show ¬ 1 ≤ 0; decide), hZ, fun mi pc E h => (nomatch h), fun mi pc E h hh => (nomatch hh)⟩
  have hj : j < 75 := Nat.le_of_ble_eq_true (List.all_eq_true.mp rk_c2 _ (ij_look_mem (show ij_look rk_pml i = some j from h)))
  obtain ⟨h1, h2, h3, h4, h5, h6, h7⟩ := hk.2.1 o i j h
  have e1 : rc_my j = rk_my j := rc_b_lt hj
  have e2 : rc_mb j = rk_mb j := rc_b_lt hj
  have e3 : ij_ml rc_P j = ij_ml rk_P j := rc_b_lt hj
  have e4 : ij_mr rc_M j = ij_mr rk_M j := rc_b_lt hj
  have e5 : ij_ms rc_M j = ij_ms rk_M j := rc_b_lt hj
  have e6 : ij_mn rc_M j = ij_mn rk_M j := rc_b_lt hj
  have e7 : ix_code rc_P rc_M rc_T rc_my rc_mb j = Cond.code (rc_my j) (rc_mb j) (ij_ml rc_P j) (ij_mr rc_M j) := rfl
  rw [e7, e1, e2, e3, e4, e5, e6]
  exact ⟨h1, h2, h3, h4, fun q => ⟨rfl, h5 q⟩, h6, h7⟩
theorem rc_oky {cl : List vw_C} (hcl : ∀ c, c < 121 → rc_kc c = 11 → cl[c]? = some (RX11, TX11, 72)) {D : va_G} (hD : ∀ c, c < 121 → rc_kc c = 11 → D.1 c = D.1 11 ∧ D.2 c = D.2 11) {Ts : List Cond} (hTy : ∀ w ∈ rc_Ty, w ∈ Ts) : iy_okm rc_P rc_M rc_Z Ts cl rc_nf rk_ty rk_cn rc_my rc_mb D := by
  refine ⟨fun o i ci h => (nomatch h), fun t ht => hTy _ (List.mem_append_right _ (List.mem_map.mpr ⟨t, ht, rfl⟩)), fun ki k k2 ci h1 h => ?_, fun o i h => ?_, fun o i j h => (nomatch h)⟩
  · have h : (bif Nat.blt k 256 then ij_look rc_nkl (ki * 256 + k) else none) = some k2 := h
    cases hb : Nat.blt k 256 with
    | false => rw [hb] at h; cases h
    | true =>
      rw [hb] at h
      have hk : k < 256 := Nat.le_of_ble_eq_true hb
      have hm := ij_look_mem (show ij_look rc_nkl (ki * 256 + k) = some k2 from h)
      have hc := List.all_eq_true.mp rc_y3 _ hm
      dsimp only at hc
      rw [show (ki * 256 + k) / 256 = ki from by omega, show (ki * 256 + k) % 256 = k from by omega] at hc
      simp only [Bool.and_eq_true] at hc
      obtain ⟨a1, a2, a3, a4, a5, a6, a7, a8⟩ := hc
      have a1 : ki < 121 := Nat.le_of_ble_eq_true a1
      have a2 : k2 < 121 := Nat.le_of_ble_eq_true a2
      have a3 : rc_kc ki = 11 := Nat.eq_of_beq_eq_true a3
      have a4 : rc_kc k2 = 11 := Nat.eq_of_beq_eq_true a4
      have a5 : rc_nf ki = 72 := Nat.eq_of_beq_eq_true a5
      have a6 : rc_nf k2 = 72 := Nat.eq_of_beq_eq_true a6
      have a7 : ij_ft rc_P k2 k = ij_ft rc_P 11 k := Nat.eq_of_beq_eq_true a7
      have hci : rc_kc ki = ci := h1
      rw [a3] at hci
      subst hci
      have b3 := hcl 11 (by omega) rfl
      refine ⟨(hcl ki a1 a3).trans b3.symm, (hcl k2 a2 a4).trans b3.symm, a5, a6, (hD ki a1 a3).1.trans (hD k2 a2 a4).1.symm, (hD ki a1 a3).2.trans (hD k2 a2 a4).2.symm, a7, fun j hj => ?_⟩
      by_cases hj72 : j < 72
      · have := List.all_eq_true.mp a8 j (List.mem_range.mpr hj72)
        simp only [Bool.or_eq_true] at this
        rcases this with q | q
        · exact absurd (Nat.eq_of_beq_eq_true q) hj
        · exact Nat.eq_of_beq_eq_true q
      · have l1 : (ij_nth [] rc_ftl ki).length = 72 := a5
        have l2 : (ij_nth [] rc_ftl k2).length = 72 := a6
        show ij_nth 9 (ij_nth [] rc_ftl k2) j = ij_nth 9 (ij_nth [] rc_ftl ki) j
        rw [xk_nth_over (by omega), xk_nth_over (by omega)]
  · have h : Nat.beq i 1 = true := h
    obtain rfl := Nat.eq_of_beq_eq_true h
    exact ⟨hTy _ List.mem_cons_self, hTy _ (List.mem_cons_of_mem _ List.mem_cons_self), hTy _ (List.mem_cons_of_mem _ (List.mem_cons_of_mem _ List.mem_cons_self))⟩
def rc_G : Nat → Bool := fun j => Nat.beq j 75
/-- calls of the reference within its own making -/
def rc_C1 (d : Nat) : ij_Ks → ij_R := ie_C 0 0 75 rk_P rc_P rk_nf rc_nf rk_K (ij_cr rk_P rk_M rk_K (fun _ _ _ _ _ => False) d)
def rc_cr (d : Nat) : iy_R := iy_cr rc_P rc_M rc_T rc_Z rc_nf rc_G rc_C1 (fun _ _ _ _ _ _ _ => False) d
theorem rc_mety {l : Launch} {cl : List vw_C} (hcl : ∀ c, c < 121 → rc_kc c = 11 → cl[c]? = some (RX11, TX11, 72)) {D : va_G} (hD : ∀ c, c < 121 → rc_kc c = 11 → D.1 c = D.1 11 ∧ D.2 c = D.2 11) {Ts : List Cond} (hT : ∀ w ∈ rk_Ts, w ∈ Ts) (hTy : ∀ w ∈ rc_Ty, w ∈ Ts) (hgood : ∀ w ∈ Ts, goodWord w = true) {N : State → Prop} {a0 : Nat → Nat} {cA : Nat → ClassId} {A : Nat → Prop} (hst : ik_stays N A) (hZ : ∀ s, N s → vx_Zq Bundle.tN "UNASSIGNED_STACK" Bundle.steD A s s.heap ∧ vx_Zq Bundle.tN "SUPPRESSED_SENTINEL" Bundle.listD A s s.heap) (d : Nat) :
    iy_known a0 N l rc_P rc_M rc_Z Ts cl rc_nf rc_my rc_mb D cA A (rc_cr d) d := by
  have hc11 : cl[11]? = some (RX11, TX11, 72) := hcl 11 (by decide) rfl
  refine iy_met hst (fun d ad K had => ?_) (fun d ad K had j as σ o τ h => h.elim) (rc_ok hc11 hT) (rc_okx hc11 hT hgood hZ) (rc_oky hcl hD hTy) (fun j hG => ?_) d
  · refine ie_known0 (by decide) (fun js hj => ?_) (fun ad A => ij_met (ij_ok_mono (rk_ok hc11) hT) (ij_okm_mono (rk_okm hc11) hT hgood) (fun _ _ _ _ _ _ h => h.elim) d) ad K
    rw [Nat.zero_add]
    have e1 : rc_my js = rk_my js := rc_b_lt hj
    have e2 : rc_mb js = rk_mb js := rc_b_lt hj
    have e3 : ij_ml rc_P js = ij_ml rk_P js := rc_b_lt hj
    have e4 : ij_mr rc_M js = ij_mr rk_M js := rc_b_lt hj
    refine ⟨e1, ?_⟩
    unfold ij_ws
    rw [e1, e2, e3, e4]
  · have hG : Nat.beq j 75 = true := hG
    obtain rfl := Nat.eq_of_beq_eq_true hG
    refine ⟨by decide +kernel, rfl, rfl, rfl, fun i q hq hqj C T N9 hC => ?_⟩
    obtain ⟨k, hk, rfl⟩ := Option.map_eq_some_iff.mp (show (ij_look rk_pfl i).map (fun k => (11, k)) = some q from hq)
    rw [hc11] at hC
    have hC := Option.some.inj hC
    have hT9 : TX11 = T := congrArg (fun z => z.2.1) hC
    rw [← hT9]
    exact of_decide_eq_true (List.all_eq_true.mp rc_y4 (i, k) (ij_look_mem hk))
