/-! ===== the law's start: its classes, what lies round it ===== -/
def lk_kcl : Nat → Nat := fun c => bif Nat.blt (xk_kc c) 11 && Nat.blt c 80 then xk_kc c else bif Nat.beq (rc_kc c) 11 then 11 else 10
def lk_row : Nat → vw_C := fun n => bif Nat.blt n 11 then (xk_Rn n, xk_Tc n, xk_nf n) else (RX11, TX11, 72)
def lk_cl : List vw_C := (List.range 121).map (fun c => lk_row (lk_kcl c))
theorem lk_clx : ∀ c, c < 80 → xk_kc c < 11 → lk_kcl c = xk_kc c := by decide +kernel
theorem lk_clr : ∀ c, c < 121 → rc_kc c = 11 → lk_kcl c = 11 := by decide +kernel
theorem lk_kclt : ∀ c, c < 121 → lk_kcl c < 12 := by decide +kernel
theorem lk_clget {c : Nat} (h : c < 121) : lk_cl[c]? = some (lk_row (lk_kcl c)) := by
  unfold lk_cl
  rw [List.getElem?_map, List.getElem?_range h]
  rfl
theorem lk_cl1 : ∀ c, c < 80 → xk_kc c < 11 → lk_cl[c]? = some (xk_Rn (xk_kc c), xk_Tc (xk_kc c), xk_nf (xk_kc c)) := fun c h1 h2 => by
  rw [lk_clget (by omega), lk_clx c h1 h2]
  unfold lk_row
  rw [show Nat.blt (xk_kc c) 11 = true from Nat.ble_eq_true_of_le h2]
  rfl
theorem lk_cl2 : ∀ c, c < 121 → rc_kc c = 11 → lk_cl[c]? = some (RX11, TX11, 72) := fun c h1 h2 => by
  rw [lk_clget h1, lk_clr c h1 h2]
  rfl
def lk_D (f : Nat → ClassId × (Nat → Nat)) : va_G := (fun c => (f (lk_kcl c)).1, fun c => (f (lk_kcl c)).2)
theorem lk_D1 (f : Nat → ClassId × (Nat → Nat)) : ∀ c, c < 80 → xk_kc c < 11 → (lk_D f).1 c = (lk_D f).1 (xk_kc c) ∧ (lk_D f).2 c = (lk_D f).2 (xk_kc c) := fun c h1 h2 => by
  have hkk : ∀ c, c < 11 → xk_kc c = c := by decide
  have e1 := lk_clx c h1 h2
  have e2 := lk_clx (xk_kc c) (by omega) (by rw [hkk _ h2]; exact h2)
  rw [hkk _ h2] at e2
  show (f (lk_kcl c)).1 = (f (lk_kcl (xk_kc c))).1 ∧ (f (lk_kcl c)).2 = (f (lk_kcl (xk_kc c))).2
  rw [e1, e2]
  exact ⟨rfl, rfl⟩
theorem lk_D2 (f : Nat → ClassId × (Nat → Nat)) : ∀ c, c < 121 → rc_kc c = 11 → (lk_D f).1 c = (lk_D f).1 11 ∧ (lk_D f).2 c = (lk_D f).2 11 := fun c h1 h2 => by
  show (f (lk_kcl c)).1 = (f (lk_kcl 11)).1 ∧ (f (lk_kcl c)).2 = (f (lk_kcl 11)).2
  rw [lk_clr c h1 h2, lk_clr 11 (by decide) rfl]
  exact ⟨rfl, rfl⟩
theorem lk_tx : (∀ w ∈ xk_Ts, w ∈ lk_Ts) ∧ (∀ w ∈ xk_Tx, w ∈ lk_Ts) ∧ (∀ w ∈ xk_Ty, w ∈ lk_Ts) ∧ (∀ w ∈ rk_Ts, w ∈ lk_Ts) ∧ (∀ w ∈ rc_Ty, w ∈ lk_Ts) ∧ (∀ w ∈ lk_Tl, w ∈ lk_Ts) ∧ ∀ w ∈ jx_Ts, w ∈ lk_Ts := by
  refine ⟨fun w h => List.mem_append_left _ h, fun w h => List.mem_append_right _ (List.mem_append_left _ h), fun w h => List.mem_append_right _ (List.mem_append_right _ (List.mem_append_left _ h)), fun w h => List.mem_append_right _ (List.mem_append_right _ (List.mem_append_right _ (List.mem_append_left _ h))), fun w h => List.mem_append_right _ (List.mem_append_right _ (List.mem_append_right _ (List.mem_append_right _ (List.mem_append_left _ h)))), fun w h => ?_, fun w h => ?_⟩
  · exact List.mem_append_right _ (List.mem_append_right _ (List.mem_append_right _ (List.mem_append_right _ (List.mem_append_right _ (List.mem_append_left _ h)))))
  · exact List.mem_append_right _ (List.mem_append_right _ (List.mem_append_right _ (List.mem_append_right _ (List.mem_append_right _ (List.mem_append_right _ h)))))
/-- what lies round the law -/
def lk_N (A : Nat → Prop) (a0 adK adV : Nat → Nat) (s : State) : Prop := xn_N A a0 s ∧ (va_Nc "java/lang/IllegalArgumentException" "java/util/NoSuchElementException" s ∧ (Cond.castable "java/util/NoSuchElementException" "java/util/NoSuchElementException").before #[] s = true ∧ (Cond.castable "java/lang/IllegalArgumentException" "java/lang/IllegalArgumentException").before #[] s = true) ∧ jx_N A adK adV s ∧ xw_N A s
theorem lk_stays {A : Nat → Prop} {a0 adK adV : Nat → Nat} : ik_stays (lk_N A a0 adK adV) A := by
  refine ⟨fun U g mk a h => ?_, fun s U locs h hW hS => ?_⟩
  · obtain ⟨h1, ⟨h2, h3, h4⟩, h5, h6⟩ := h
    exact ⟨xn_stays.1 U g mk a h1, ⟨va_Nc.moved (u := U) (Vm.Alike.refl _) h2, xn_cast (u := U) (Vm.Alike.refl _) h3, xn_cast (u := U) (Vm.Alike.refl _) h4⟩, jx_N.moved (u := U) (Vm.Alike.refl _) rfl h5, xw_N.kept (u := U) (Vm.Alike.refl _) (fun _ _ _ => rfl) h6⟩
  · obtain ⟨h1, ⟨h2, h3, h4⟩, h5, h6⟩ := h
    exact ⟨xn_stays.2 s U locs h1 hW hS, ⟨va_Nc.moved hW.alike h2, xn_cast hW.alike h3, xn_cast hW.alike h4⟩, jx_N.kept hW.alike hS.2.1 h5, xw_N.kept hW.alike hS.2.1 h6⟩
theorem lk_nx {A : Nat → Prop} {a0 adK adV : Nat → Nat} : lk_Nx (lk_N A a0 adK adV) := fun s h => ⟨h.2.1.1, fun args => xn_cast (u := s) (Vm.Alike.refl _) h.2.1.2.1, fun args => xn_cast (u := s) (Vm.Alike.refl _) h.2.1.2.2⟩
/-- the two methods told by hand are known -/
theorem lk_X {l : Launch} {f : Nat → ClassId × (Nat → Nat)} {cA : Nat → ClassId} {A : Nat → Prop} {a0 adK adV : Nat → Nat} (h0 : ∀ i, i < 2 → a0 (1001 + i) = adK i) : ∀ ad A', (∀ p, 1000 ≤ p → ad p = a0 p) → (∀ q, A' q → A q) → ∀ d, ik_known (lk_N A a0 adK adV) l xk_P xk_M lk_Ts lk_cl xk_nf xk_my xk_mb (lk_D f) cA ad xk_K A' xw_X (d + 1) := by
  intro ad A' had hA' d j as σ v τ h
  have hkc : ∀ c, c < 11 → xk_kc c = c := by decide
  have hcl' : ∀ c, c < 11 → lk_cl[c]? = some (xk_Rn c, xk_Tc c, xk_nf c) := fun c hc => by
    have := lk_cl1 c (by omega) (by rw [hkc c hc]; exact hc)
    rw [hkc c hc] at this
    exact this
  have hsl' : ∀ e ∈ xk_sll, ∀ s, lk_N A a0 adK adV s → ∃ tx, vk_R (xk_cn (e.1 / 65536)) (e.1 % 65536) tx (ad e.2) s := fun e he s hs => by
    have h1 : ∀ e ∈ xk_sll, 1000 ≤ e.2 := by decide
    rw [had _ (h1 e he)]
    exact hs.1.2.2.2 e he
  rcases h with ⟨rfl, c, rfl, rfl, rfl⟩ | ⟨rfl, i, b, I, J, hi, rfl, rfl, rfl, rfl⟩
  · exact xw_forbid lk_tx.2.2.2.2.2.2 (fun s hs => hs.2.2.2.narrow hA') xk_K c _ d
  · exact xw_isWord (xk_ok hcl' lk_tx.1) (xk_okm hcl' lk_tx.1 lk_tgood (fun e he s hs => hs.1.2.2.1 e he) hsl') (ik_stays_sub hA' lk_stays) lk_tx.2.2.2.2.2.2 lk_tgood (fun s hs => hs.2.2.1.narrow hA') hi (by rw [had _ (by omega)]; exact h0 i hi) b I J d
theorem lk_h {l : Launch} (hlt : l.stackTraces = false) (f : Nat → ClassId × (Nat → Nat)) (cA : Nat → ClassId) (A : Nat → Prop) {a0 adK adV : Nat → Nat} (h0 : ∀ i, i < 2 → a0 (1001 + i) = adK i) : lk_H l lk_cl (lk_D f) lk_Ts (lk_N A a0 adK adV) a0 cA A xw_X :=
  ⟨hlt, lk_cl1, lk_cl2, lk_D1 f, lk_D2 f, ⟨lk_tx.1, lk_tx.2.1, lk_tx.2.2.1, lk_tx.2.2.2.1, lk_tx.2.2.2.2.1, lk_tx.2.2.2.2.2.1, lk_tgood⟩, lk_nx, fun e he s hs => hs.1.2.2.1 e he, fun e he s hs => hs.1.2.2.2 e he, lk_stays, fun s hs => hs.1.1, fun w hw args s hs => xn_casts hw (u := s) (Vm.Alike.refl _) (hs.1.2.1 w hw), lk_X h0⟩
