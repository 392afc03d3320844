/-! ===== the law's calls, as contracts in its own world: the class at places 0 .. 45, the reference at 46 .. 87 ===== -/
def lk_C1 (X : ij_R) (d : Nat) (K : ij_Ks) : ij_R := fun j as σ w σ' => ie_C 0 0 152 xk_P lk_P xk_nf lk_nf xk_K (ik_cr xk_P xk_M xk_Y xk_K X d) K j as σ w σ' ∨ ie_C 46 163 75 rk_P lk_P rk_nf lk_nf rk_K (ij_cr rk_P rk_M rk_K (fun _ _ _ _ _ => False) d) K j as σ w σ'
def lk_X2 (X : ij_R) (d : Nat) (K : ij_Ks) : ix_R := ie_C2 0 0 152 xk_P lk_P xk_nf lk_nf xk_K (ix_cr xk_P xk_M xk_K xk_T (ik_cr xk_P xk_M xk_Y xk_K X) (fun _ _ _ _ _ => False) d) K
def lk_C2 (X : ij_R) (d : Nat) (K : ij_Ks) : ix_R := ix_c1 lk_P lk_M K lk_T (lk_C1 X d K) (lk_X2 X d K)
def lk_C3 (X : ij_R) (d : Nat) : iy_R := fun j as K σ K' τ => ie_C3 0 163 xk_P lk_P xk_nf lk_nf (xc_cr X d) j as K σ K' τ ∨ ie_C3 163 76 rc_P lk_P rc_nf lk_nf (rc_cr d) j as K σ K' τ
/-- what the law needs: classes, words, what lies round it, the two methods told by hand -/
def lk_H (l : Launch) (cl : List vw_C) (D : va_G) (Ts : List Cond) (N : State → Prop) (a0 : Nat → Nat) (cA : Nat → ClassId) (A : Nat → Prop) (X : ij_R) : Prop :=
  l.stackTraces = false ∧ (∀ c, c < 80 → xk_kc c < 11 → cl[c]? = some (xk_Rn (xk_kc c), xk_Tc (xk_kc c), xk_nf (xk_kc c))) ∧ (∀ c, c < 121 → rc_kc c = 11 → cl[c]? = some (RX11, TX11, 72)) ∧
  (∀ c, c < 80 → xk_kc c < 11 → D.1 c = D.1 (xk_kc c) ∧ D.2 c = D.2 (xk_kc c)) ∧ (∀ c, c < 121 → rc_kc c = 11 → D.1 c = D.1 11 ∧ D.2 c = D.2 11) ∧
  ((∀ w ∈ xk_Ts, w ∈ Ts) ∧ (∀ w ∈ xk_Tx, w ∈ Ts) ∧ (∀ w ∈ xk_Ty, w ∈ Ts) ∧ (∀ w ∈ rk_Ts, w ∈ Ts) ∧ (∀ w ∈ rc_Ty, w ∈ Ts) ∧ (∀ w ∈ lk_Tl, w ∈ Ts) ∧ ∀ w ∈ Ts, goodWord w = true) ∧
  lk_Nx N ∧ (∀ e ∈ xk_nel, ∀ s, N s → va_Nw (.methodLinkNest (xk_cn (e.1 / 65536)) (e.1 % 65536) (xk_my e.2) RX10) s) ∧ (∀ e ∈ xk_sll, ∀ s, N s → ∃ tx, vk_R (xk_cn (e.1 / 65536)) (e.1 % 65536) tx (a0 e.2) s) ∧ ik_stays N A ∧
  (∀ s, N s → vx_Zq Bundle.tN "UNASSIGNED_STACK" Bundle.steD A s s.heap ∧ vx_Zq Bundle.tN "SUPPRESSED_SENTINEL" Bundle.listD A s s.heap) ∧ (∀ w ∈ xk_Txn, ∀ (args : Array Value) (s : State), N s → w.before args s = true) ∧
  ∀ ad A', (∀ p, 1000 ≤ p → ad p = a0 p) → (∀ q, A' q → A q) → ∀ d, ik_known N l xk_P xk_M Ts cl xk_nf xk_my xk_mb D cA ad xk_K A' X (d + 1)
section LKE
variable {l : Launch} {cl : List vw_C} {D : va_G} {Ts : List Cond} {N : State → Prop} {a0 : Nat → Nat} {cA : Nat → ClassId} {A : Nat → Prop} {X : ij_R}
theorem lk_H11 (h : lk_H l cl D Ts N a0 cA A X) : (∀ c, c < 11 → cl[c]? = some (xk_Rn c, xk_Tc c, xk_nf c)) ∧ cl[11]? = some (RX11, TX11, 72) := by
  have hkc : ∀ c, c < 11 → xk_kc c = c := by decide
  refine ⟨fun c hc => ?_, h.2.2.1 11 (by decide) rfl⟩
  have := h.2.1 c (by omega) (by rw [hkc c hc]; exact hc)
  rw [hkc c hc] at this
  exact this
theorem lk_Hsl (h : lk_H l cl D Ts N a0 cA A X) (ad : Nat → Nat) (had : ∀ p, 1000 ≤ p → ad p = a0 p) : ∀ e ∈ xk_sll, ∀ s, N s → ∃ tx, vk_R (xk_cn (e.1 / 65536)) (e.1 % 65536) tx (ad e.2) s := fun e he s hs => by
  have h1 : ∀ e ∈ xk_sll, 1000 ≤ e.2 := by decide
  rw [had _ (h1 e he)]
  exact h.2.2.2.2.2.2.2.2.1 e he s hs
theorem lk_m1 (h : lk_H l cl D Ts N a0 cA A X) (d : Nat) (ad : Nat → Nat) (K : ij_Ks) (had : ∀ p, 1000 ≤ p → ad p = a0 p) : ik_known N l lk_P lk_M Ts cl lk_nf lk_my lk_mb D cA ad K A (lk_C1 X d K) d := by
  obtain ⟨hc, hc11⟩ := lk_H11 h
  have hsl := lk_Hsl h
  obtain ⟨hlt, -, -, -, -, ⟨hX, hTx, hY, hR, hRy, hL, hg⟩, hNx, hne, -, hst, hZ, hTn, hX9⟩ := id h
  intro j as σ w σ' hC
  rcases hC with hC | hC
  · refine ie_known1 (by decide) (fun js hj => ?_) (fun ad A' had hA' => xk_met hc hX hg hne (hsl ad had) (ik_stays_sub hA' hst) (hX9 ad A' had hA') d) ad K had j as σ w σ' hC
    rw [Nat.zero_add]
    have hj : js < 163 := by omega
    have e1 : lk_my js = xk_my js := lk_b1 (f := xk_my) (g := rc_my) (h := lk_wy) hj
    have e2 : lk_mb js = xk_mb js := lk_b1 (f := xk_mb) (g := rc_mb) (h := lk_wb) hj
    have e3 : ij_ml lk_P js = ij_ml xk_P js := lk_b1 (f := xk_ml) (g := rc_ml) (h := lk_wl) hj
    have e4 : ij_mr lk_M js = ij_mr xk_M js := lk_b1 (f := xk_mr) (g := rc_mr) (h := lk_wr) hj
    refine ⟨e1, ?_⟩
    unfold ij_ws
    rw [e1, e2, e3, e4]
  · refine ie_known0 (by decide) (fun js hj => ?_) (fun ad A => ij_met (ij_ok_mono (rk_ok hc11) hR) (ij_okm_mono (rk_okm hc11) hR hg) (fun _ _ _ _ _ _ h => h.elim) d) ad K j as σ w σ' hC
    have e1 : lk_my (163 + js) = rk_my js := (lk_b2 (f := xk_my) (g := rc_my) (h := lk_wy) (by omega)).trans (rc_b_lt hj)
    have e2 : lk_mb (163 + js) = rk_mb js := (lk_b2 (f := xk_mb) (g := rc_mb) (h := lk_wb) (by omega)).trans (rc_b_lt hj)
    have e3 : ij_ml lk_P (163 + js) = ij_ml rk_P js := (lk_b2 (f := xk_ml) (g := rc_ml) (h := lk_wl) (by omega)).trans (rc_b_lt hj)
    have e4 : ij_mr lk_M (163 + js) = ij_mr rk_M js := (lk_b2 (f := xk_mr) (g := rc_mr) (h := lk_wr) (by omega)).trans (rc_b_lt hj)
    refine ⟨e1, ?_⟩
    unfold ij_ws
    rw [e1, e2, e3, e4]
theorem lk_m2 (h : lk_H l cl D Ts N a0 cA A X) (d : Nat) (ad : Nat → Nat) (K : ij_Ks) (had : ∀ p, 1000 ≤ p → ad p = a0 p) : ix_known N l lk_P lk_M lk_T Ts cl lk_nf lk_my lk_mb D cA ad K A (lk_C2 X d K) (d + 1) := by
  obtain ⟨hc, hc11⟩ := lk_H11 h
  have hsl := lk_Hsl h
  have hm1 := lk_m1 h d ad K had
  obtain ⟨hlt, -, -, -, -, ⟨hX, hTx, hY, hR, hRy, hL, hg⟩, hNx, hne, -, hst, hZ, hTn, hX9⟩ := id h
  refine ix_met1 hlt hst hm1 ?_ (lk_ok (hL _ (List.mem_append_right _ (List.mem_append_right _ (List.mem_append_right _ (List.mem_of_getElem? (i := 1) rfl)))))) (lk_okx hc hc11 hX hR hL hg hNx hZ)
  refine ie_known2 (by decide) (fun js hj => ?_) (fun ad A' had hA' => xk_metx hlt hc hX hTx hg hne (hsl ad had) (ik_stays_sub hA' hst) (fun s hs => ⟨(hZ s hs).1.narrow hA', (hZ s hs).2.narrow hA'⟩) hTn (hX9 ad A' had hA') d) ad K had
  rw [Nat.zero_add]
  have hj : js < 163 := by omega
  have e1 : lk_my js = xk_my js := lk_b1 (f := xk_my) (g := rc_my) (h := lk_wy) hj
  have e2 : lk_mb js = xk_mb js := lk_b1 (f := xk_mb) (g := rc_mb) (h := lk_wb) hj
  have e3 : ij_ml lk_P js = ij_ml xk_P js := lk_b1 (f := xk_ml) (g := rc_ml) (h := lk_wl) hj
  have e4 : ij_mr lk_M js = ij_mr xk_M js := lk_b1 (f := xk_mr) (g := rc_mr) (h := lk_wr) hj
  have e5 : ix_mh lk_T js = [] := lk_b1 (f := fun _ => []) (g := fun _ => []) (h := lk_wh) hj
  have e6 : ix_co lk_T js = ix_co xk_T js := lk_b1 (f := xk_co) (g := fun _ => 0) (h := fun i => bif Nat.beq i 0 then 0 else bif Nat.blt i 23 then 3 else 0) hj
  have e7 : ix_mh xk_T js = [] := rfl
  refine ⟨e1, ?_, e6⟩
  unfold ix_ws
  rw [ix_code_nil e5, ix_code_nil e7, e1, e2, e3, e4]
theorem lk_m3 (h : lk_H l cl D Ts N a0 cA A X) (d : Nat) : iy_known a0 N l lk_P lk_M lk_Z Ts cl lk_nf lk_my lk_mb D cA A (lk_C3 X d) d := by
  obtain ⟨hlt, hcx, hcr, hDx, hDr, ⟨hX, hTx, hY, hR, hRy, hL, hg⟩, hNx, hne, hsl, hst, hZ, hTn, hX9⟩ := id h
  intro ad j as K σ K' τ had hC
  rcases hC with hC | hC
  · refine ie_known3 (fun js hj => ?_) (fun A' hA' => xc_mety hlt hcx hDx hX hTx hY hg hne hsl (ik_stays_sub hA' hst) (fun s hs => ⟨(hZ s hs).1.narrow hA', (hZ s hs).2.narrow hA'⟩) hTn (fun ad A'' had hA'' => hX9 ad A'' had (fun q hq => hA' q (hA'' q hq))) d) ad j as K σ K' τ had hC
    rw [Nat.zero_add]
    have e1 : lk_my js = xk_my js := lk_b1 (f := xk_my) (g := rc_my) (h := lk_wy) hj
    have e2 : lk_mb js = xk_mb js := lk_b1 (f := xk_mb) (g := rc_mb) (h := lk_wb) hj
    have e3 : ij_ml lk_P js = ij_ml xk_P js := lk_b1 (f := xk_ml) (g := rc_ml) (h := lk_wl) hj
    have e4 : ij_mr lk_M js = ij_mr xk_M js := lk_b1 (f := xk_mr) (g := rc_mr) (h := lk_wr) hj
    have e5 : iy_co lk_Z js = iy_co xk_Z js := lk_b1 (f := iy_co xk_Z) (g := iy_co rc_Z) (h := fun _ => (0, 0)) hj
    refine ⟨e1, ?_, e5⟩
    unfold ij_ws
    rw [e1, e2, e3, e4]
  · refine ie_known3 (fun js hj => ?_) (fun A' hA' => rc_mety hcr hDr hR hRy hg (ik_stays_sub hA' hst) (fun s hs => ⟨(hZ s hs).1.narrow hA', (hZ s hs).2.narrow hA'⟩) d) ad j as K σ K' τ had hC
    have e1 : lk_my (163 + js) = rc_my js := lk_b2 (f := xk_my) (g := rc_my) (h := lk_wy) hj
    have e2 : lk_mb (163 + js) = rc_mb js := lk_b2 (f := xk_mb) (g := rc_mb) (h := lk_wb) hj
    have e3 : ij_ml lk_P (163 + js) = ij_ml rc_P js := lk_b2 (f := xk_ml) (g := rc_ml) (h := lk_wl) hj
    have e4 : ij_mr lk_M (163 + js) = ij_mr rc_M js := lk_b2 (f := xk_mr) (g := rc_mr) (h := lk_wr) hj
    have e5 : iy_co lk_Z (163 + js) = iy_co rc_Z js := lk_b2 (f := iy_co xk_Z) (g := iy_co rc_Z) (h := fun _ => (0, 0)) hj
    refine ⟨e1, ?_, e5⟩
    unfold ij_ws
    rw [e1, e2, e3, e4]
end LKE
