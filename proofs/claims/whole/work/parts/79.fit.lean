/-! ===== contracts of small worlds in a larger one: calls, throwing calls, constructors ===== -/
theorem ij_ok_mono {P : ij_P} {Ts Ts' : List Cond} {cl : List vw_C} {nf : Nat → Nat} {ty : Nat → Nat → FieldType} {cn : Nat → String} {mb : Nat → ByteArray} (h : ij_ok P Ts cl nf ty cn mb) (hT : ∀ w ∈ Ts, w ∈ Ts') : ij_ok P Ts' cl nf ty cn mb :=
  ⟨h.1, fun o i q hq => by
    obtain ⟨C, T, a1, a2, a3, a4, a5⟩ := h.2.1 o i q hq
    exact ⟨C, T, a1, a2, hT _ a3, fun w hw => hT _ (a4 w hw), a5⟩, fun o i v hv => hT _ (h.2.2.1 o i v hv), fun o i v hv => hT _ (h.2.2.2 o i v hv)⟩
theorem ij_okm_mono {P : ij_P} {M : ij_M} {Ts Ts' : List Cond} {cl : List vw_C} {cn : Nat → String} {my : Nat → MethodName} {mb : Nat → ByteArray} (h : ij_okm P M Ts cl cn my mb) (hT : ∀ w ∈ Ts, w ∈ Ts') (hg : ∀ w ∈ Ts', goodWord w = true) : ij_okm P M Ts' cl cn my mb :=
  ⟨hg, fun o i j hj => by
    obtain ⟨a1, a2, a3, a4, a5, a6⟩ := h.2.1 o i j hj
    exact ⟨hT _ a1, hT _ a2, hT _ a3, fun q => hT _ (a4 q), fun q => ⟨hT _ (a5 q).1, hT _ (a5 q).2.1, (a5 q).2.2⟩, a6⟩, h.2.2⟩
theorem ik_stays_sub {N : State → Prop} {A B : Nat → Prop} (h : ∀ q, B q → A q) (hst : ik_stays N A) : ik_stays N B := ⟨hst.1, fun s U locs h1 h2 h3 => hst.2 s U locs h1 h2 ⟨h3.1, fun q h4 h5 => h3.2.1 q h4 (fun h6 => h5 (h q h6)), fun z hz => h _ (h3.2.2 z hz)⟩⟩
/-- references of a small world stay within it -/
def ie_w (Ps : ij_P) (ns : Nat → Nat) (Ks : ij_Ks) (σ : ij_S) : Prop := ∀ p ci k, Ks[p]? = some (.inl ci) → k < ns ci → ij_ft Ps ci k = 3 → σ.1 p k < Ks.length
/-- calls of a small world (methods off .. off + n) as calls of the larger one -/
def ie_C (B off n : Nat) (Ps Pb : ij_P) (ns nb : Nat → Nat) (Ks : ij_Ks) (R : ij_R) : ij_Ks → ij_R := fun Kb j as σb w σ' => ∃ js as0 v0 σs τs, js < n ∧ j = off + js ∧ as = as0.map (ie_v B) ∧ w = v0.map (ie_v B) ∧ σ' = ie_put B Ks.length σb τs ∧ ie_rel B Ps Pb ns nb Ks Kb σs σb ∧ ie_w Ps ns Ks σs ∧ ie_w Ps ns Ks τs ∧ R js as0 σs v0 τs
def ie_C2 (B off n : Nat) (Ps Pb : ij_P) (ns nb : Nat → Nat) (Ks : ij_Ks) (R : ix_R) : ij_Ks → ix_R := fun Kb j as σb w σ' => ∃ js as0 v0 σs τs, js < n ∧ j = off + js ∧ as = as0.map (ie_v B) ∧ w = ie_o B v0 ∧ σ' = ie_put B Ks.length σb τs ∧ ie_rel B Ps Pb ns nb Ks Kb σs σb ∧ ie_w Ps ns Ks σs ∧ ie_w Ps ns Ks τs ∧ R js as0 σs v0 τs
def ie_C3 (off n : Nat) (Ps Pb : ij_P) (ns nb : Nat → Nat) (R : iy_R) : iy_R := fun j as K σ K' τ => ∃ js as0 K0 Ks σs Ks' τs, js < n ∧ j = off + js ∧ K = K0 ++ Ks ∧ K' = K0 ++ Ks' ∧ as = as0.map (ie_v K0.length) ∧ τ = ie_put K0.length Ks'.length σ τs ∧ ie_rel K0.length Ps Pb ns nb Ks K σs σ ∧ ie_w Ps ns Ks σs ∧ ie_w Ps ns Ks' τs ∧ Ks.length ≤ Ks'.length ∧ K0.length + Ks'.length ≤ 1000 ∧
  (∀ p ci, Ks'[p]? = some (.inl ci) → ns ci = nb ci ∧ ∀ k, k < ns ci → ij_ft Ps ci k = ij_ft Pb ci k) ∧ (∀ p ci k, K0[p]? = some (.inl ci) → k < nb ci → ij_ft Pb ci k = 3 → σ.1 p k < K.length ∨ 1000 ≤ σ.1 p k) ∧ R js as0 Ks σs Ks' τs
section IEK
variable {l : Launch} {B off n : Nat} {Ps Pb : ij_P} {Ms Mb : ij_M} {ns nb : Nat → Nat} {Ks : ij_Ks} {cA : Nat → ClassId} {cl : List vw_C} {D : va_G} {A : Nat → Prop} {N : State → Prop} {Ts : List Cond} {mys myb : Nat → MethodName} {mbs mbb : Nat → ByteArray} {a0 : Nat → Nat}
theorem ie_w1000 {σ : ij_S} (hn : Ks.length ≤ 1000) (h : ie_w Ps ns Ks σ) : ∀ p ci k, Ks[p]? = some (.inl ci) → k < ns ci → ij_ft Ps ci k = 3 → σ.1 p k < 1000 := fun p ci k h1 h2 h3 => Nat.lt_of_lt_of_le (h p ci k h1 h2 h3) hn
/-- calls of a world that knows of no surroundings -/
theorem ie_known0 (hn : Ks.length ≤ 1000) (hws : ∀ js, js < n → myb (off + js) = mys js ∧ ij_ws Pb Mb Ts myb mbb (off + js) = ij_ws Ps Ms Ts mys mbs js) {R : ij_R} {d : Nat} (hM : ∀ ad A, ij_known l Ps Ms Ts cl ns mys mbs D cA ad Ks A R d) (ad : Nat → Nat) (K : ij_Ks) : ik_known N l Pb Mb Ts cl nb myb mbb D cA ad K A (ie_C B off n Ps Pb ns nb Ks R K) d := by
  intro j as σ w σ' h
  obtain ⟨js, as0, v0, σs, τs, hj, rfl, rfl, rfl, rfl, hrel, hw, hw1, hR⟩ := h
  obtain ⟨e1, e2⟩ := hws js hj
  rw [e1, e2]
  exact ie_met0 (hM (ie_ad B ad) (ie_A B Ks.length ad) js as0 σs v0 τs hR) hrel hn (ie_w1000 hn hw) (ie_w1000 hn hw1)
theorem ie_ad_a0 {ad : Nat → Nat} (h : ∀ p, 1000 ≤ p → ad p = a0 p) : ∀ p, 1000 ≤ p → ie_ad B ad p = a0 p := fun p hp => by
  show (if 1000 ≤ p then ad p else ad (B + p)) = a0 p
  rw [if_pos hp]
  exact h p hp
/-- calls of a world with surroundings -/
theorem ie_known1 (hn : Ks.length ≤ 1000) (hws : ∀ js, js < n → myb (off + js) = mys js ∧ ij_ws Pb Mb Ts myb mbb (off + js) = ij_ws Ps Ms Ts mys mbs js) {R : ij_R} {d : Nat} (hM : ∀ ad A', (∀ p, 1000 ≤ p → ad p = a0 p) → (∀ q, A' q → A q) → ik_known N l Ps Ms Ts cl ns mys mbs D cA ad Ks A' R d) (ad : Nat → Nat) (K : ij_Ks) (had : ∀ p, 1000 ≤ p → ad p = a0 p) : ik_known N l Pb Mb Ts cl nb myb mbb D cA ad K A (ie_C B off n Ps Pb ns nb Ks R K) d := by
  intro j as σ w σ' h
  obtain ⟨js, as0, v0, σs, τs, hj, rfl, rfl, rfl, rfl, hrel, hw, hw1, hR⟩ := h
  obtain ⟨e1, e2⟩ := hws js hj
  rw [e1, e2]
  by_cases hs : ∀ q, ie_A B Ks.length ad q → A q
  · exact ie_met1 (hM (ie_ad B ad) (ie_A B Ks.length ad) (ie_ad_a0 had) hs js as0 σs v0 τs hR) hrel hn (ie_w1000 hn hw) (ie_w1000 hn hw1)
  · exact ie_vac (fun a s hp => hs (ie_sub hrel hp.2.2.2.1))
theorem ie_known2 {Tx Tb : ix_T} (hn : Ks.length ≤ 1000) (hws : ∀ js, js < n → myb (off + js) = mys js ∧ ix_ws Pb Mb Tb Ts myb mbb (off + js) = ix_ws Ps Ms Tx Ts mys mbs js ∧ ix_co Tb (off + js) = ix_co Tx js) {R : ix_R} {d : Nat} (hM : ∀ ad A', (∀ p, 1000 ≤ p → ad p = a0 p) → (∀ q, A' q → A q) → ix_known N l Ps Ms Tx Ts cl ns mys mbs D cA ad Ks A' R d) (ad : Nat → Nat) (K : ij_Ks) (had : ∀ p, 1000 ≤ p → ad p = a0 p) : ix_known N l Pb Mb Tb Ts cl nb myb mbb D cA ad K A (ie_C2 B off n Ps Pb ns nb Ks R K) d := by
  intro j as σ w σ' h
  obtain ⟨js, as0, v0, σs, τs, hj, rfl, rfl, rfl, rfl, hrel, hw, hw1, hR⟩ := h
  obtain ⟨e1, e2, e3⟩ := hws js hj
  unfold ix_rm
  rw [e1, e2, e3]
  by_cases hs : ∀ q, ie_A B Ks.length ad q → A q
  · exact ie_met2 (hM (ie_ad B ad) (ie_A B Ks.length ad) (ie_ad_a0 had) hs js as0 σs v0 τs hR) hrel hn (ie_w1000 hn hw) (ie_w1000 hn hw1)
  · exact ie_vacX (fun a s hp => hs (ie_sub hrel hp.2.2.2.1))
/-- a contract that the state chooses -/
theorem ie_consI {ι : Type} {y : MethodName} {ws : List Cond} {rm : Room} {Pc : ι → Array Value → State → Prop} {Pc' : Array Value → State → Prop} {Qc : ι → Array Value → State → Outcome → State → Prop} {Qc' : Array Value → State → Outcome → State → Prop} {mc ms : Nat} {free : ι → Addr → Prop} {free' : Addr → Prop} (h : ∀ i, (∃ a s, Pc' a s ∧ Pc i a s) → Met l y ws rm (Pc i) (Qc i) mc ms (free i))
    (h1 : ∀ a s, Pc' a s → ∃ i, Pc i a s ∧ (∀ o t, Qc i a s o t → Qc' a s o t) ∧ ∀ q, free i q → free' q) : Met l y ws rm Pc' Qc' mc ms free' := by
  intro p e ha hc hk s m args below hf happ hP hK
  obtain ⟨i, g1, g2, g3⟩ := h1 _ _ hP
  obtain ⟨n, o, a1, a2, a3, a4, L, a5, a6⟩ := h i ⟨_, _, hP, g1⟩ p e ha hc hk s m args below hf happ g1 hK
  exact ⟨n, o, a1, a2, a3, g2 _ _ a4, L, a5, fun q hq => g3 _ (a6 q hq)⟩
end IEK
