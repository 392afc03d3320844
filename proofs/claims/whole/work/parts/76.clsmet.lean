/-! ===== the class's constructors are contracts ===== -/
def xk_G : Nat → Bool := fun j => Nat.ble 152 j && Nat.blt j 163
theorem xk_g1 : ((List.range 163).filter xk_G).all (fun j => plainName (xk_my j).cls && (decide (xk_cn (xk_mo j) = (xk_my j).cls) && (decide (xk_mr j = none) && (decide ((xk_my j).name = "<init>") && Nat.blt (xk_mo j) 11)))) = true := by decide +kernel
theorem xk_g2 : xk_pfl.all (fun e => !(Nat.beq e.2.1 (e.1 / 65536)) || decide ((xk_Tc e.2.1 e.2.2).1 = xk_cn (e.1 / 65536))) = true := by decide +kernel
theorem xk_mety {l : Launch} (hlt : l.stackTraces = false) {cl : List vw_C} (hcl : ∀ c, c < 80 → xk_kc c < 11 → cl[c]? = some (xk_Rn (xk_kc c), xk_Tc (xk_kc c), xk_nf (xk_kc c))) {D : va_G} (hD : ∀ c, c < 80 → xk_kc c < 11 → D.1 c = D.1 (xk_kc c) ∧ D.2 c = D.2 (xk_kc c))
    {Ts : List Cond} (hT : ∀ w ∈ xk_Ts, w ∈ Ts) (hTx : ∀ w ∈ xk_Tx, w ∈ Ts) (hTy : ∀ w ∈ xk_Ty, w ∈ Ts) (hgood : ∀ w ∈ Ts, goodWord w = true) {N : State → Prop} {a0 : Nat → Nat}
    (hne : ∀ e ∈ xk_nel, ∀ s, N s → va_Nw (.methodLinkNest (xk_cn (e.1 / 65536)) (e.1 % 65536) (xk_my e.2) RX10) s) (hsl : ∀ e ∈ xk_sll, ∀ s, N s → ∃ tx, vk_R (xk_cn (e.1 / 65536)) (e.1 % 65536) tx (a0 e.2) s)
    {cA : Nat → ClassId} {A : Nat → Prop} (hst : ik_stays N A) (hZ : ∀ s, N s → vx_Zq Bundle.tN "UNASSIGNED_STACK" Bundle.steD A s s.heap ∧ vx_Zq Bundle.tN "SUPPRESSED_SENTINEL" Bundle.listD A s s.heap) (hTn : ∀ w ∈ xk_Txn, ∀ (args : Array Value) (s : State), N s → w.before args s = true)
    {X : ij_Ks → ij_R} (hX : ∀ ad, (∀ p, 1000 ≤ p → ad p = a0 p) → ∀ K d, ik_known N l xk_P xk_M Ts cl xk_nf xk_my xk_mb D cA ad K A (X K) (d + 1)) (d : Nat) :
    iy_known a0 N l xk_P xk_M xk_Z Ts cl xk_nf xk_my xk_mb D cA A (iy_cr xk_P xk_M xk_T xk_Z xk_nf xk_G (fun d K => ik_cr xk_P xk_M xk_Y K (X K) d) (fun d K => ix_cr xk_P xk_M K xk_T (ik_cr xk_P xk_M xk_Y K (X K)) (fun _ _ _ _ _ => False) d) d) d := by
  have hkc : ∀ c, c < 11 → xk_kc c = c := by decide
  have hcl' : ∀ c, c < 11 → cl[c]? = some (xk_Rn c, xk_Tc c, xk_nf c) := fun c hc => by
    have := hcl c (by omega) (by rw [hkc c hc]; exact hc)
    rw [hkc c hc] at this
    exact this
  have hsl' : ∀ ad : Nat → Nat, (∀ p, 1000 ≤ p → ad p = a0 p) → ∀ e ∈ xk_sll, ∀ s, N s → ∃ tx, vk_R (xk_cn (e.1 / 65536)) (e.1 % 65536) tx (ad e.2) s := fun ad had e he s hs => by
    have h1 : ∀ e ∈ xk_sll, 1000 ≤ e.2 := by decide
    rw [had _ (h1 e he)]
    exact hsl e he s hs
  refine iy_met hst (fun d ad K had => xk_met hcl' hT hgood hne (hsl' ad had) hst (hX ad had K) d) (fun d ad K had => xk_metx hlt hcl' hT hTx hgood hne (hsl' ad had) hst hZ hTn (hX ad had K) d) (xk_ok hcl' hT) (xk_okx hcl' hT hTx hgood hne (hsl' a0 (fun _ _ => rfl)) hZ hTn) (xk_oky hcl hD hT hTy) (fun j hG => ?_) d
  have hj : j < 163 := by
    have : (Nat.ble 152 j && Nat.blt j 163) = true := hG
    rw [Bool.and_eq_true] at this
    exact Nat.le_of_ble_eq_true this.2
  have hc := List.all_eq_true.mp xk_g1 j (List.mem_filter.mpr ⟨List.mem_range.mpr hj, hG⟩)
  simp only [Bool.and_eq_true, decide_eq_true_eq] at hc
  obtain ⟨h1, h2, h3, h4, h5⟩ := hc
  have h5 : xk_mo j < 11 := Nat.le_of_ble_eq_true h5
  refine ⟨h1, h2, h3, h4, fun i q hq hqj C T N9 hC => ?_⟩
  obtain ⟨hi, hm⟩ := xk_lk_mem (show xk_lk xk_pfl (xk_mo j) i = some q from hq)
  obtain ⟨e1, e2⟩ := xk_key (o := xk_mo j) hi
  have hg := List.all_eq_true.mp xk_g2 _ hm
  dsimp only at hg
  rw [e1] at hg
  have hqj : q.1 = xk_mo j := hqj
  simp only [Bool.or_eq_true, Bool.not_eq_true', decide_eq_true_eq] at hg
  rcases hg with hg | hg
  · rw [hqj] at hg
    rw [show Nat.beq (xk_mo j) (xk_mo j) = true from Nat.beq_refl _] at hg
    cases hg
  · have h9 := hcl' q.1 (by omega)
    rw [h9] at hC
    have hC := Option.some.inj hC
    have hT9 : xk_Tc q.1 = T := congrArg (fun z => z.2.1) hC
    rw [← hT9]
    exact hg
