/-! ===== both are made: the constructors' calls, as contracts ===== -/
/-- references of a world, looked at place by place -/
def ie_wb (P : ij_P) (nf : Nat → Nat) (K : ij_Ks) (f : Nat → Nat → Nat → Bool) : Bool := (K.zipIdx).all (fun x => match x.1 with
  | .inl ci => (List.range (nf ci)).all (fun k => !(Nat.beq (ij_ft P ci k) 3) || f ci x.2 k)
  | .inr _ => true)
theorem ie_wb_ok {P : ij_P} {nf : Nat → Nat} {K : ij_Ks} {f : Nat → Nat → Nat → Bool} (h : ie_wb P nf K f = true) {p ci k : Nat} (hk : K[p]? = some (.inl ci)) (hn : k < nf ci) (hf : ij_ft P ci k = 3) : f ci p k = true := by
  have hm : ((.inl ci : Nat ⊕ (Nat × Nat)), p) ∈ K.zipIdx := by
    rw [List.mem_zipIdx_iff_getElem?]
    exact hk
  have h1 := List.all_eq_true.mp h _ hm
  have h2 := List.all_eq_true.mp h1 k (List.mem_range.mpr hn)
  simp only [Bool.or_eq_true, Bool.not_eq_true'] at h2
  rcases h2 with h2 | h2
  · rw [hf] at h2
    cases h2
  · exact h2
theorem xk_Rb : (List.range 2).all (fun b => ie_wb xk_P xk_nf xk_K (fun _ p k => Nat.blt (xk_R (Nat.beq b 1) p k) 46)) = true := by decide +kernel
theorem xk_Rw (b : Bool) (I : Nat → Nat → Int32) (J : Nat → Nat → Int64) : ie_w xk_P xk_nf xk_K (xk_R b, I, J) := by
  intro p ci k h1 h2 h3
  have h := List.all_eq_true.mp xk_Rb (if b then 1 else 0) (by cases b <;> decide)
  have h := ie_wb_ok h h1 h2 h3
  have e : Nat.beq (if b = true then 1 else 0) 1 = b := by cases b <;> rfl
  rw [e] at h
  exact Nat.le_of_ble_eq_true h
theorem rk_Rb : ie_wb rk_P rk_nf rk_K (fun _ p k => Nat.blt (rk_R p k) 42) = true := by decide +kernel
theorem rk_Rw (I : Nat → Nat → Int32) (J : Nat → Nat → Int64) : ie_w rk_P rk_nf rk_K (rk_R, I, J) := fun p ci k h1 h2 h3 => Nat.le_of_ble_eq_true (ie_wb_ok rk_Rb h1 h2 h3)
theorem xk_SRc : ie_wb xk_P xk_nf xk_K (fun _ p k => Nat.beq (xk_SR p k) (xk_R false p k)) = true := by decide +kernel
theorem rk_SRc : ie_wb rk_P rk_nf rk_K (fun _ p k => Nat.beq (rk_SR p k) (rk_R p k)) = true := by decide +kernel
theorem rk_ftc : (List.range 72).all (fun k => Nat.beq (ij_ft rk_P 11 k) (ij_ft rc_P 11 k)) = true := by decide +kernel
theorem rk_K11 : ∀ (p ci : Nat), rk_K[p]? = some (.inl ci) → ci = 11 := by
  intro p ci h
  have h1 : rk_K.all (fun x => match x with
    | .inl c => Nat.beq c 11
    | .inr _ => true) = true := by decide +kernel
  exact Nat.eq_of_beq_eq_true (List.all_eq_true.mp h1 _ (List.mem_of_getElem? h))
set_option maxRecDepth 100000 in
/-- the class is made, if its board can be laid -/
theorem xc_ctor (X : ij_R) (d : Nat) (I : Nat → Nat → Int32) (J : Nat → Nat → Int64) {b' : Bool} {I' : Nat → Nat → Int32} {J' : Nat → Nat → Int64} (hl : ik_cr xk_P xk_M xk_Y xk_K X (d + 2) 139 [.ref 0] (xk_R false, xk_SI I, xk_SJ J) none (xk_R b', I', J')) :
    xc_cr X (d + 3) 162 [.ref 0] [.inl 73] (fun _ _ => 0, I, J) xk_K (ie_put 0 46 (xk_SR, xk_SI I, xk_SJ J) (xk_R b', I', J')) := by
  refine iy_cr_of rfl (Nat.le_of_ble_eq_true rfl) (u' := 45) (v' := 37556) (pc := 106) (L := [some (.ref 0)]) ?_ rfl (Nat.le_of_ble_eq_true (by decide +kernel)) (Nat.le_of_ble_eq_true (by decide +kernel))
  refine xk_i10_0_run X d (fun _ _ => Nat.one_pos) ?_
  rw [xk_Se]
  refine iy_G_c1 (j := 139) (as := [.ref 0]) (r := []) (w := none) (σ' := ie_put 0 46 (xk_SR, xk_SI I, xk_SJ J) (xk_R b', I', J')) rfl rfl rfl ?_ (by decide) (by decide) iy_G_rf
  refine ⟨139, [.ref 0], none, (xk_R false, xk_SI I, xk_SJ J), (xk_R b', I', J'), by decide, rfl, rfl, rfl, rfl, ⟨fun p k h => by rw [Nat.zero_add]; exact h, fun p ci h => ⟨rfl, fun k hk => ⟨rfl, fun h3 => ?_⟩⟩, fun p hp k => by rw [Nat.zero_add]; exact ⟨rfl, rfl⟩⟩, xk_Rw _ _ _, xk_Rw _ _ _, hl⟩
  rw [Nat.zero_add, Nat.zero_add]
  exact Nat.eq_of_beq_eq_true (ie_wb_ok xk_SRc h hk h3)
set_option maxRecDepth 100000 in
/-- the reference is made, if its board can be laid -/
theorem rc_ctor (d : Nat) (I : Nat → Nat → Int32) (J : Nat → Nat → Int64) {I' : Nat → Nat → Int32} {J' : Nat → Nat → Int64} (hl : ij_cr rk_P rk_M rk_K (fun _ _ _ _ _ => False) d 29 [.ref 0] (rk_R, rk_SI I, rk_SJ J) none (rk_R, I', J')) :
    rc_cr (d + 1) 75 [.ref 0] [.inl 80] (fun _ _ => 0, I, J) rk_K (ie_put 0 42 (rk_SR, rk_SI I, rk_SJ J) (rk_R, I', J')) := by
  refine iy_cr_of rfl (Nat.le_of_ble_eq_true rfl) (u' := 41) (v' := 85283) (pc := 405) (L := [some (.ref 0)]) ?_ rfl (Nat.le_of_ble_eq_true (by decide +kernel)) (Nat.le_of_ble_eq_true (by decide +kernel))
  refine rc_run (fun _ _ => Nat.one_pos) ?_
  rw [rk_Se]
  refine iy_G_c1 (j := 29) (as := [.ref 0]) (r := []) (w := none) (σ' := ie_put 0 42 (rk_SR, rk_SI I, rk_SJ J) (rk_R, I', J')) rfl rfl rfl ?_ (by decide) (by decide) iy_G_rf
  refine ⟨29, [.ref 0], none, (rk_R, rk_SI I, rk_SJ J), (rk_R, I', J'), by decide, rfl, rfl, rfl, rfl, ⟨fun p k h => by rw [Nat.zero_add]; exact h, fun p ci h => ?_, fun p hp k => by rw [Nat.zero_add]; exact ⟨rfl, rfl⟩⟩, rk_Rw _ _, rk_Rw _ _, hl⟩
  obtain rfl := rk_K11 p ci h
  refine ⟨rfl, fun k hk => ⟨Nat.eq_of_beq_eq_true (List.all_eq_true.mp rk_ftc k (List.mem_range.mpr hk)), fun h3 => ?_⟩⟩
  rw [Nat.zero_add, Nat.zero_add]
  exact Nat.eq_of_beq_eq_true (ie_wb_ok rk_SRc h hk h3)
/-- the class's constructors are contracts, the calls within them told pointwise -/
theorem xc_mety {l : Launch} (hlt : l.stackTraces = false) {cl : List vw_C} (hcl : ∀ c, c < 80 → xk_kc c < 11 → cl[c]? = some (xk_Rn (xk_kc c), xk_Tc (xk_kc c), xk_nf (xk_kc c))) {D : va_G} (hD : ∀ c, c < 80 → xk_kc c < 11 → D.1 c = D.1 (xk_kc c) ∧ D.2 c = D.2 (xk_kc c))
    {Ts : List Cond} (hT : ∀ w ∈ xk_Ts, w ∈ Ts) (hTx : ∀ w ∈ xk_Tx, w ∈ Ts) (hTy : ∀ w ∈ xk_Ty, w ∈ Ts) (hgood : ∀ w ∈ Ts, goodWord w = true) {N : State → Prop} {a0 : Nat → Nat}
    (hne : ∀ e ∈ xk_nel, ∀ s, N s → va_Nw (.methodLinkNest (xk_cn (e.1 / 65536)) (e.1 % 65536) (xk_my e.2) RX10) s) (hsl : ∀ e ∈ xk_sll, ∀ s, N s → ∃ tx, vk_R (xk_cn (e.1 / 65536)) (e.1 % 65536) tx (a0 e.2) s)
    {cA : Nat → ClassId} {A : Nat → Prop} (hst : ik_stays N A) (hZ : ∀ s, N s → vx_Zq Bundle.tN "UNASSIGNED_STACK" Bundle.steD A s s.heap ∧ vx_Zq Bundle.tN "SUPPRESSED_SENTINEL" Bundle.listD A s s.heap) (hTn : ∀ w ∈ xk_Txn, ∀ (args : Array Value) (s : State), N s → w.before args s = true)
    {X : ij_R} (hX : ∀ ad A', (∀ p, 1000 ≤ p → ad p = a0 p) → (∀ q, A' q → A q) → ∀ d, ik_known N l xk_P xk_M Ts cl xk_nf xk_my xk_mb D cA ad xk_K A' X (d + 1)) (d : Nat) :
    iy_known a0 N l xk_P xk_M xk_Z Ts cl xk_nf xk_my xk_mb D cA A (xc_cr X d) d := by
  have hkc : ∀ c, c < 11 → xk_kc c = c := by decide
  have hcl' : ∀ c, c < 11 → cl[c]? = some (xk_Rn c, xk_Tc c, xk_nf c) := fun c hc => by
    have := hcl c (by omega) (by rw [hkc c hc]; exact hc)
    rw [hkc c hc] at this
    exact this
  have hsl' : ∀ ad : Nat → Nat, (∀ p, 1000 ≤ p → ad p = a0 p) → ∀ e ∈ xk_sll, ∀ s, N s → ∃ tx, vk_R (xk_cn (e.1 / 65536)) (e.1 % 65536) tx (ad e.2) s := fun ad had e he s hs => by
    have h1 : ∀ e ∈ xk_sll, 1000 ≤ e.2 := by decide
    rw [had _ (h1 e he)]
    exact hsl e he s hs
  refine iy_met hst (fun d ad K had => ?_) (fun d ad K had j as σ o τ h => h.elim) (xk_ok hcl' hT) (xk_okx hcl' hT hTx hgood hne (hsl' a0 (fun _ _ => rfl)) hZ hTn) (xk_oky hcl hD hT hTy) (fun j hG => ?_) d
  · refine ie_known1 (by decide) (fun js hj => ?_) (fun ad A' had hA' => xk_met hcl' hT hgood hne (hsl' ad had) (ik_stays_sub hA' hst) (hX ad A' had hA') d) ad K had
    rw [Nat.zero_add]
    exact ⟨rfl, rfl⟩
  · have hj : j < 163 := by
      have : (Nat.ble 152 j && Nat.blt j 163) = true := hG
      rw [Bool.and_eq_true] at this
      exact Nat.le_of_ble_eq_true this.2
    have hc := List.all_eq_true.mp xk_g1 j (List.mem_filter.mpr ⟨List.mem_range.mpr hj, hG⟩)
    simp only [Bool.and_eq_true, decide_eq_true_eq] at hc
    obtain ⟨h1, h2, h3, h4, h5⟩ := hc
    have h5 : xk_mo j < 11 := Nat.le_of_ble_eq_true h5
    refine ⟨h1, h2, h3, h4, fun i q hq hqj C T N9 hC => ?_⟩
    obtain ⟨hi, hm⟩ := xk_lk_mem (show xk_lk xk_pfl (xk_mo j) i = some q from hq)
    obtain ⟨e1, e2⟩ := xk_key (o := xk_mo j) hi
    have hg := List.all_eq_true.mp xk_g2 _ hm
    dsimp only at hg
    rw [e1] at hg
    have hqj : q.1 = xk_mo j := hqj
    simp only [Bool.or_eq_true, Bool.not_eq_true', decide_eq_true_eq] at hg
    rcases hg with hg | hg
    · rw [hqj] at hg
      rw [show Nat.beq (xk_mo j) (xk_mo j) = true from Nat.beq_refl _] at hg
      cases hg
    · have h9 := hcl' q.1 (by omega)
      rw [h9] at hC
      have hC := Option.some.inj hC
      have hT9 : xk_Tc q.1 = T := congrArg (fun z => z.2.1) hC
      rw [← hT9]
      exact hg
