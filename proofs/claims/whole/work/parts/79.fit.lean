/-! ===== contracts of small worlds in a larger one: calls, throwing calls, constructors ===== -/
theorem ij_ok_mono {P : ij_P} {Ts Ts' : List Cond} {cl : List vw_C} {nf : Nat → Nat} {ty : Nat → Nat → FieldType} {cn : Nat → String} {mb : Nat → ByteArray} (h : ij_ok P Ts cl nf ty cn mb) (hT : ∀ w ∈ Ts, w ∈ Ts') : ij_ok P Ts' cl nf ty cn mb :=
  ⟨h.1, fun o i q hq => by
    obtain ⟨C, T, a1, a2, a3, a4, a5⟩ := h.2.1 o i q hq
    exact ⟨C, T, a1, a2, hT _ a3, fun w hw => hT _ (a4 w hw), a5⟩, fun o i v hv => hT _ (h.2.2.1 o i v hv), fun o i v hv => hT _ (h.2.2.2 o i v hv)⟩
theorem ij_okm_mono {P : ij_P} {M : ij_M} {Ts Ts' : List Cond} {cl : List vw_C} {cn : Nat → String} {my : Nat → MethodName} {mb : Nat → ByteArray} (h : ij_okm P M Ts cl cn my mb) (hT : ∀ w ∈ Ts, w ∈ Ts') (hg : ∀ w ∈ Ts', goodWord w = true) : ij_okm P M Ts' cl cn my mb :=
  ⟨hg, fun o i j hj => by
    obtain ⟨a1, a2, a3, a4, a5, a6⟩ := h.2.1 o i j hj
    exact ⟨hT _ a1, hT _ a2, hT _ a3, fun q => hT _ (a4 q), fun q => ⟨hT _ (a5 q).1, hT _ (a5 q).2.1, (a5 q).2.2⟩, a6⟩, h.2.2⟩
theorem ik_stays_sub {N : State → Prop} {A B : Nat → Prop} (h : ∀ q, B q → A q) (hst : ik_stays N A) : ik_stays N B := ⟨hst.1, fun s U locs h1 h2 h3 => hst.2 s U locs h1 h2 ⟨h3.1, fun q h4 h5 => h3.2.1 q h4 (fun h6 => h5 (h q h6)), fun z hz => h _ (h3.2.2 z hz)⟩⟩
/-- references of a small world stay within it -/
def ie_w (Ps : ij_P) (ns : Nat → Nat) (Ks : ij_Ks) (σ : ij_S) : Prop := ∀ p ci k, Ks[p]? = some (.inl ci) → k < ns ci → ij_ft Ps ci k = 3 → σ.1 p k < Ks.length
/-- calls of a small world (methods off .. off + n) as calls of the larger one -/
def ie_C (B off n : Nat) (Ps Pb : ij_P) (ns nb : Nat → Nat) (Ks : ij_Ks) (R : ij_R) : ij_Ks → ij_R := fun Kb j as σb w σ' => ∃ js as0 v0 σs τs, js < n ∧ j = off + js ∧ as = as0.map (ie_v B) ∧ w = v0.map (ie_v B) ∧ σ' = ie_put B Ks.length σb τs ∧ ie_rel B Ps Pb ns nb Ks Kb σs σb ∧ ie_w Ps ns Ks σs ∧ ie_w Ps ns Ks τs ∧ R js as0 σs v0 τs
def ie_C2 (B off n : Nat) (Ps Pb : ij_P) (ns nb : Nat → Nat) (Ks : ij_Ks) (R : ix_R) : ij_Ks → ix_R := fun Kb j as σb w σ' => ∃ js as0 v0 σs τs, js < n ∧ j = off + js ∧ as = as0.map (ie_v B) ∧ w = ie_o B v0 ∧ σ' = ie_put B Ks.length σb τs ∧ ie_rel B Ps Pb ns nb Ks Kb σs σb ∧ ie_w Ps ns Ks σs ∧ ie_w Ps ns Ks τs ∧ R js as0 σs v0 τs
def ie_C3 (off n : Nat) (Ps Pb : ij_P) (ns nb : Nat → Nat) (R : iy_R) : iy_R := fun j as K σ K' τ => ∃ (js : Nat) (as0 : List Value) (K0 Ks : ij_Ks) (σs : ij_S) (Ks' : ij_Ks) (τs : ij_S), js < n ∧ j = off + js ∧ K = K0 ++ Ks ∧ K' = K0 ++ Ks' ∧ as = as0.map (ie_v K0.length) ∧ τ = ie_put K0.length Ks'.length σ τs ∧ ie_rel K0.length Ps Pb ns nb Ks K σs σ ∧ ie_w Ps ns Ks σs ∧ ie_w Ps ns Ks' τs ∧ Ks.length ≤ Ks'.length ∧ K0.length + Ks'.length ≤ 1000 ∧
  (∀ (p ci : Nat), Ks'[p]? = some (.inl ci) → ns ci = nb ci ∧ ∀ k, k < ns ci → ij_ft Ps ci k = ij_ft Pb ci k) ∧ (∀ (p ci k : Nat), K0[p]? = some (.inl ci) → k < nb ci → ij_ft Pb ci k = 3 → σ.1 p k < K.length ∨ 1000 ≤ σ.1 p k) ∧ R js as0 Ks σs Ks' τs
section IEK
variable {l : Launch} {B off n : Nat} {Ps Pb : ij_P} {Ms Mb : ij_M} {ns nb : Nat → Nat} {Ks : ij_Ks} {cA : Nat → ClassId} {cl : List vw_C} {D : va_G} {A : Nat → Prop} {N : State → Prop} {Ts : List Cond} {mys myb : Nat → MethodName} {mbs mbb : Nat → ByteArray} {a0 : Nat → Nat}
theorem ie_w1000 {σ : ij_S} (hn : Ks.length ≤ 1000) (h : ie_w Ps ns Ks σ) : ∀ p ci k, Ks[p]? = some (.inl ci) → k < ns ci → ij_ft Ps ci k = 3 → σ.1 p k < 1000 := fun p ci k h1 h2 h3 => Nat.lt_of_lt_of_le (h p ci k h1 h2 h3) hn
/-- calls of a world that knows of no surroundings -/
theorem ie_known0 (hn : Ks.length ≤ 1000) (hws : ∀ js, js < n → myb (off + js) = mys js ∧ ij_ws Pb Mb Ts myb mbb (off + js) = ij_ws Ps Ms Ts mys mbs js) {R : ij_R} {d : Nat} (hM : ∀ ad A, ij_known l Ps Ms Ts cl ns mys mbs D cA ad Ks A R d) (ad : Nat → Nat) (K : ij_Ks) : ik_known N l Pb Mb Ts cl nb myb mbb D cA ad K A (ie_C B off n Ps Pb ns nb Ks R K) d := by
  intro j as σ w σ' h
  obtain ⟨js, as0, v0, σs, τs, hj, rfl, rfl, rfl, rfl, hrel, hw, hw1, hR⟩ := h
  obtain ⟨e1, e2⟩ := hws js hj
  rw [e1, e2]
  exact ie_met0 (hM (ie_ad B ad) (ie_A B Ks.length ad) js as0 σs v0 τs hR) hrel hn (ie_w1000 hn hw) (ie_w1000 hn hw1)
theorem ie_ad_a0 {ad : Nat → Nat} (h : ∀ p, 1000 ≤ p → ad p = a0 p) : ∀ p, 1000 ≤ p → ie_ad B ad p = a0 p := fun p hp => by
  show (if 1000 ≤ p then ad p else ad (B + p)) = a0 p
  rw [if_pos hp]
  exact h p hp
/-- calls of a world with surroundings -/
theorem ie_known1 (hn : Ks.length ≤ 1000) (hws : ∀ js, js < n → myb (off + js) = mys js ∧ ij_ws Pb Mb Ts myb mbb (off + js) = ij_ws Ps Ms Ts mys mbs js) {R : ij_R} {d : Nat} (hM : ∀ ad A', (∀ p, 1000 ≤ p → ad p = a0 p) → (∀ q, A' q → A q) → ik_known N l Ps Ms Ts cl ns mys mbs D cA ad Ks A' R d) (ad : Nat → Nat) (K : ij_Ks) (had : ∀ p, 1000 ≤ p → ad p = a0 p) : ik_known N l Pb Mb Ts cl nb myb mbb D cA ad K A (ie_C B off n Ps Pb ns nb Ks R K) d := by
  intro j as σ w σ' h
  obtain ⟨js, as0, v0, σs, τs, hj, rfl, rfl, rfl, rfl, hrel, hw, hw1, hR⟩ := h
  obtain ⟨e1, e2⟩ := hws js hj
  rw [e1, e2]
  by_cases hs : ∀ q, ie_A B Ks.length ad q → A q
  · exact ie_met1 (hM (ie_ad B ad) (ie_A B Ks.length ad) (ie_ad_a0 had) hs js as0 σs v0 τs hR) hrel hn (ie_w1000 hn hw) (ie_w1000 hn hw1)
  · exact ie_vac (fun a s hp => hs (ie_sub hrel hp.2.2.2.1))
theorem ie_known2 {Tx Tb : ix_T} (hn : Ks.length ≤ 1000) (hws : ∀ js, js < n → myb (off + js) = mys js ∧ ix_ws Pb Mb Tb Ts myb mbb (off + js) = ix_ws Ps Ms Tx Ts mys mbs js ∧ ix_co Tb (off + js) = ix_co Tx js) {R : ix_R} {d : Nat} (hM : ∀ ad A', (∀ p, 1000 ≤ p → ad p = a0 p) → (∀ q, A' q → A q) → ix_known N l Ps Ms Tx Ts cl ns mys mbs D cA ad Ks A' R d) (ad : Nat → Nat) (K : ij_Ks) (had : ∀ p, 1000 ≤ p → ad p = a0 p) : ix_known N l Pb Mb Tb Ts cl nb myb mbb D cA ad K A (ie_C2 B off n Ps Pb ns nb Ks R K) d := by
  intro j as σ w σ' h
  obtain ⟨js, as0, v0, σs, τs, hj, rfl, rfl, rfl, rfl, hrel, hw, hw1, hR⟩ := h
  obtain ⟨e1, e2, e3⟩ := hws js hj
  unfold ix_rm
  rw [e1, e2, e3]
  by_cases hs : ∀ q, ie_A B Ks.length ad q → A q
  · exact ie_met2 (hM (ie_ad B ad) (ie_A B Ks.length ad) (ie_ad_a0 had) hs js as0 σs v0 τs hR) hrel hn (ie_w1000 hn hw) (ie_w1000 hn hw1)
  · exact ie_vacX (fun a s hp => hs (ie_sub hrel hp.2.2.2.1))
/-- a contract that the state chooses -/
theorem ie_consI {ι : Type} {y : MethodName} {ws : List Cond} {rm : Room} {Pc : ι → Array Value → State → Prop} {Pc' : Array Value → State → Prop} {Qc : ι → Array Value → State → Outcome → State → Prop} {Qc' : Array Value → State → Outcome → State → Prop} {mc ms : Nat} {free : ι → Addr → Prop} {free' : Addr → Prop} (h : ∀ i, (∃ a s, Pc' a s ∧ Pc i a s) → Met l y ws rm (Pc i) (Qc i) mc ms (free i))
    (h1 : ∀ a s, Pc' a s → ∃ i, Pc i a s ∧ (∀ o t, Qc i a s o t → Qc' a s o t) ∧ ∀ q, free i q → free' q) : Met l y ws rm Pc' Qc' mc ms free' := by
  intro p e ha hc hk s m args below hf happ hP hK
  obtain ⟨i, g1, g2, g3⟩ := h1 _ _ hP
  obtain ⟨n, o, a1, a2, a3, a4, L, a5, a6⟩ := h i ⟨_, _, hP, g1⟩ p e ha hc hk s m args below hf happ g1 hK
  exact ⟨n, o, a1, a2, a3, g2 _ _ a4, L, a5, fun q hq => g3 _ (a6 q hq)⟩
/-- a constructor of a small world that stands behind the rest -/
theorem ie_met3 {K0 Ks Ks' : ij_Ks} {σs σ τs : ij_S} {ad : Nat → Nat} {y : MethodName} {ws : List Cond} {rm : Room} {as0 : List Value} {mc ms sz : Nat} (hsz : ∀ q, sz ≤ q → A q)
    (hM : ∀ z : Nat, (∀ q, (ie_A K0.length Ks.length ad q ∨ z ≤ q) → A q) → Met l y ws rm (fun a U => ik_Pc N Ps cl ns D cA (ie_ad K0.length ad) Ks (fun q => ie_A K0.length Ks.length ad q ∨ z ≤ q) as0 σs a U ∧ z ≤ U.heap.size) (iy_Qc Ps cl ns D cA (ie_ad K0.length ad) Ks Ks' (fun q => ie_A K0.length Ks.length ad q ∨ z ≤ q) τs) mc ms (fun q => ie_A K0.length Ks.length ad q ∨ z ≤ q))
    (hrel : ie_rel K0.length Ps Pb ns nb Ks (K0 ++ Ks) σs σ) (hw : ie_w Ps ns Ks σs) (hw1 : ie_w Ps ns Ks' τs) (hle : Ks.length ≤ Ks'.length) (hn : K0.length + Ks'.length ≤ 1000)
    (hft : ∀ (p ci : Nat), Ks'[p]? = some (.inl ci) → ns ci = nb ci ∧ ∀ k, k < ns ci → ij_ft Ps ci k = ij_ft Pb ci k) (hK0 : ∀ (p ci k : Nat), K0[p]? = some (.inl ci) → k < nb ci → ij_ft Pb ci k = 3 → σ.1 p k < (K0 ++ Ks).length ∨ 1000 ≤ σ.1 p k) :
    Met l y ws rm (fun a U => ik_Pc N Pb cl nb D cA ad (K0 ++ Ks) A (as0.map (ie_v K0.length)) σ a U ∧ sz ≤ U.heap.size) (iy_Qc Pb cl nb D cA ad (K0 ++ Ks) (K0 ++ Ks') A (ie_put K0.length Ks'.length σ τs)) mc ms A := by
  have hn1 : Ks.length ≤ 1000 := by omega
  have hsub : ∀ (s : State), va_D A (ij_W Pb nb cA ad (K0 ++ Ks) σ) → sz ≤ s.heap.size → ∀ q, (ie_A K0.length Ks.length ad q ∨ s.heap.size ≤ q) → A q := fun s hD hs q hq => hq.elim (ie_sub hrel hD q) (fun h => hsz q (Nat.le_trans hs h))
  refine ie_consI (ι := Nat) (Pc := fun z a U => ik_Pc N Ps cl ns D cA (ie_ad K0.length ad) Ks (fun q => ie_A K0.length Ks.length ad q ∨ z ≤ q) as0 σs a U ∧ z ≤ U.heap.size ∧ z = U.heap.size) (Qc := fun z => iy_Qc Ps cl ns D cA (ie_ad K0.length ad) Ks Ks' (fun q => ie_A K0.length Ks.length ad q ∨ z ≤ q) τs) (free := fun z q => ie_A K0.length Ks.length ad q ∨ z ≤ q) (fun z hz => ?_) (fun a s hp => ⟨s.heap.size, ?_, fun o t hq => ?_, ?_⟩)
  · obtain ⟨a, s, hp, hp1⟩ := hz
    refine ie_cons (hM z ?_) (fun a s h => ⟨h.1, h.2.1⟩) (fun a s o t _ h => h) (fun a s _ q h => h)
    have := hsub s hp.1.2.2.2.1 hp.2
    rw [← hp1.2.2] at this
    exact this
  · obtain ⟨⟨h1, hP, hK, hD, hN⟩, hs⟩ := hp
    refine ⟨⟨by rw [h1, ie_as], fun i x hx => hP (K0.length + i) x (ie_W hrel hn1 (ie_w1000 hn1 hw) hx), hK, ?_, hN⟩, Nat.le_refl _, rfl⟩
    have h9 := ie_D hrel hn1 (ie_w1000 hn1 hw) hD
    exact ⟨h9.1, fun k x hx => Or.inl (h9.2 k x hx)⟩
  · obtain ⟨⟨h1, hP, hK, hD, hN⟩, hs⟩ := hp
    obtain ⟨⟨ho, ads, hads, hP1, hD1⟩, hF⟩ := hq
    have hin : ∀ {p : Nat}, p < Ks'.length → (if K0.length ≤ K0.length + p ∧ K0.length + p < K0.length + Ks'.length then ads (K0.length + p - K0.length) else ad (K0.length + p)) = ads p := fun {p} hp => by
      rw [if_pos ⟨by omega, by omega⟩, show K0.length + p - K0.length = p by omega]
    have hold : ∀ p, p < (K0 ++ Ks).length ∨ 1000 ≤ p → (fun p => if K0.length ≤ p ∧ p < K0.length + Ks'.length then ads (p - K0.length) else ad p) p = ad p := by
      intro p hp
      show (if K0.length ≤ p ∧ p < K0.length + Ks'.length then ads (p - K0.length) else ad p) = ad p
      by_cases hq : K0.length ≤ p ∧ p < K0.length + Ks'.length
      · rw [if_pos hq]
        rw [List.length_append] at hp
        rw [hads (p - K0.length) (by omega)]
        show (if 1000 ≤ p - K0.length then _ else _) = _
        rw [if_neg (by omega), show K0.length + (p - K0.length) = p by omega]
      · rw [if_neg hq]
    have hce : ∀ p k, Ks'[p]? = some k → ij_ce Pb nb cA (fun p => if K0.length ≤ p ∧ p < K0.length + Ks'.length then ads (p - K0.length) else ad p) (ie_put K0.length Ks'.length σ τs) (K0.length + p) k = ij_ce Ps ns cA ads τs p k := by
      intro p k hk
      have hp : p < Ks'.length := (List.getElem?_eq_some_iff.mp hk).1
      have e1 : ∀ k, (ie_put K0.length Ks'.length σ τs).1 (K0.length + p) k = K0.length + τs.1 p k := fun k => by
        show (if K0.length ≤ K0.length + p ∧ K0.length + p < K0.length + Ks'.length then K0.length + τs.1 (K0.length + p - K0.length) k else _) = _
        rw [if_pos ⟨by omega, by omega⟩, show K0.length + p - K0.length = p by omega]
      have e2 : ∀ k, (ie_put K0.length Ks'.length σ τs).2.1 (K0.length + p) k = τs.2.1 p k := fun k => by
        show (if K0.length ≤ K0.length + p ∧ K0.length + p < K0.length + Ks'.length then τs.2.1 (K0.length + p - K0.length) k else _) = _
        rw [if_pos ⟨by omega, by omega⟩, show K0.length + p - K0.length = p by omega]
      have e3 : ∀ k, (ie_put K0.length Ks'.length σ τs).2.2 (K0.length + p) k = τs.2.2 p k := fun k => by
        show (if K0.length ≤ K0.length + p ∧ K0.length + p < K0.length + Ks'.length then τs.2.2 (K0.length + p - K0.length) k else _) = _
        rw [if_pos ⟨by omega, by omega⟩, show K0.length + p - K0.length = p by omega]
      cases k with
      | inr tn =>
        have e4 : (ie_put K0.length Ks'.length σ τs).2.1 (K0.length + p) = τs.2.1 p := funext e2
        have e5 : (ie_put K0.length Ks'.length σ τs).2.2 (K0.length + p) = τs.2.2 p := funext e3
        show Sum.inl _ = Sum.inl _
        rw [e4, e5]
      | inl ci =>
        obtain ⟨f1, f2⟩ := hft p ci hk
        show Sum.inr (ci, _) = Sum.inr (ci, _)
        rw [← f1]
        congr 2
        apply List.map_congr_left
        intro k hk9
        have hk9 := List.mem_range.mp hk9
        have f3 := f2 k hk9
        unfold ij_fv
        rw [← f3]
        generalize hf : ij_ft Ps ci k = f
        match f, hf with
        | 0, _ => show Value.int _ = Value.int _; rw [e2]
        | 1, _ => show Value.long _ = Value.long _; rw [e3]
        | 2, _ => show Value.int _ = Value.int _; rw [e2]
        | 3, hf =>
          show Value.ref (if K0.length ≤ _ ∧ _ then _ else _) = Value.ref _
          rw [e1, hin (hw1 p ci k hk hk9 hf)]
        | 4, _ => rfl
        | f + 5, _ => show Value.int _ = Value.int _; rw [e2]
    have hc0 : ∀ p k, K0[p]? = some k → ij_ce Pb nb cA (fun p => if K0.length ≤ p ∧ p < K0.length + Ks'.length then ads (p - K0.length) else ad p) (ie_put K0.length Ks'.length σ τs) p k = ij_ce Pb nb cA ad σ p k := by
      intro p k hk
      have hp : p < K0.length := (List.getElem?_eq_some_iff.mp hk).1
      have e0 : ¬ (K0.length ≤ p ∧ p < K0.length + Ks'.length) := by omega
      cases k with
      | inr tn => simp only [ij_ce, ie_put, if_neg e0]
      | inl ci =>
        show Sum.inr (ci, _) = Sum.inr (ci, _)
        congr 2
        apply List.map_congr_left
        intro k hk9
        have hk9 := List.mem_range.mp hk9
        have e1 : ij_fv Pb (ie_put K0.length Ks'.length σ τs) ci p k = ij_fv Pb σ ci p k := by simp only [ij_fv, ie_put, if_neg e0]
        rw [e1]
        have h9 := hK0 p ci k hk hk9
        unfold ij_fv
        generalize hf : ij_ft Pb ci k = f at h9
        match f, h9 with
        | 0, _ => rfl
        | 1, _ => rfl
        | 2, _ => rfl
        | 3, h9 =>
          show Value.ref ((fun p => if K0.length ≤ p ∧ p < K0.length + Ks'.length then ads (p - K0.length) else ad p) (σ.1 p k)) = Value.ref (ad (σ.1 p k))
          rw [hold _ (h9 rfl)]
        | 4, _ => rfl
        | f + 5, _ => rfl
    have hga : ∀ p (k : Nat ⊕ (Nat × Nat)), K0[p]? = some k → (K0 ++ Ks)[p]? = some k ∧ p < K0.length := fun p k hk => by
      have hp : p < K0.length := (List.getElem?_eq_some_iff.mp hk).1
      exact ⟨by rw [List.getElem?_append_left hp]; exact hk, hp⟩
    have hsplit : ∀ (i : Nat) (x : Nat × va_E), (ij_W Pb nb cA (fun p => if K0.length ≤ p ∧ p < K0.length + Ks'.length then ads (p - K0.length) else ad p) (K0 ++ Ks') (ie_put K0.length Ks'.length σ τs))[i]? = some x → (i < K0.length ∧ (ij_W Pb nb cA ad (K0 ++ Ks) σ)[i]? = some x) ∨ (∃ p, i = K0.length + p ∧ (ij_W Ps ns cA ads Ks' τs)[p]? = some x) := by
      intro i x hx
      cases hk : (K0 ++ Ks')[i]? with
      | none =>
        unfold ij_W at hx
        rw [List.getElem?_mapIdx, hk] at hx
        cases hx
      | some k =>
        rw [ij_W_get hk] at hx
        cases hx
        by_cases hi : i < K0.length
        · rw [List.getElem?_append_left hi] at hk
          obtain ⟨g1, g2⟩ := hga i k hk
          refine Or.inl ⟨hi, ?_⟩
          rw [ij_W_get g1, hc0 i k hk]
          have : (if K0.length ≤ i ∧ i < K0.length + Ks'.length then ads (i - K0.length) else ad i) = ad i := if_neg (by omega)
          rw [this]
        · rw [List.getElem?_append_right (by omega)] at hk
          have hp : i - K0.length < Ks'.length := (List.getElem?_eq_some_iff.mp hk).1
          refine Or.inr ⟨i - K0.length, by omega, ?_⟩
          have g1 := hce _ _ hk
          have g2 := hin hp
          rw [show K0.length + (i - K0.length) = i by omega] at g1 g2
          rw [ij_W_get hk, ← g1]
          exact congrArg (fun z => some (z, _)) g2.symm
    have hlt : ∀ (i : Nat) (x : Nat × va_E), (ij_W Pb nb cA ad (K0 ++ Ks) σ)[i]? = some x → x.1 < s.heap.size := fun i x hx => (hP i x hx).lt
    refine ⟨⟨ho, _, hold, fun i x hx => ?_, fun i j x y hx hy hxy => ?_, fun i x hx => ?_⟩, hF.1, fun q h2 h3 => hF.2 q h2 (fun h4 => h3 (hsub s hD hs q h4))⟩
    · rcases hsplit i x hx with ⟨hi, hx1⟩ | ⟨p, rfl, hx1⟩
      · have h9 := hP i x hx1
        refine h9.kept (hF.2 _ h9.lt (fun hq => ?_))
        rcases hq with ⟨p, hp, hq⟩ | hq
        · obtain ⟨k9, hk9⟩ : ∃ k9, Ks[p]? = some k9 := ⟨Ks[p], List.getElem?_eq_getElem hp⟩
          have := hD.1 i (K0.length + p) _ _ hx1 (ij_W_get (hrel.1 p k9 hk9)) hq
          omega
        · have := h9.lt
          omega
      · exact hP1 p x hx1
    · rcases hsplit i x hx with ⟨hi, hx1⟩ | ⟨p, rfl, hx1⟩ <;> rcases hsplit j y hy with ⟨hj, hy1⟩ | ⟨p2, rfl, hy1⟩
      · exact hD.1 i j x y hx1 hy1 hxy
      · exfalso
        rcases hD1.2 p2 y hy1 with ⟨p, hp, hq⟩ | hq
        · obtain ⟨k9, hk9⟩ : ∃ k9, Ks[p]? = some k9 := ⟨Ks[p], List.getElem?_eq_getElem hp⟩
          have := hD.1 i (K0.length + p) _ _ hx1 (ij_W_get (hrel.1 p k9 hk9)) (hxy.trans hq)
          omega
        · have := hlt i x hx1
          omega
      · exfalso
        rcases hD1.2 p x hx1 with ⟨p, hp, hq⟩ | hq
        · obtain ⟨k9, hk9⟩ : ∃ k9, Ks[p]? = some k9 := ⟨Ks[p], List.getElem?_eq_getElem hp⟩
          have := hD.1 j (K0.length + p) _ _ hy1 (ij_W_get (hrel.1 p k9 hk9)) (hxy.symm.trans hq)
          omega
        · have := hlt j y hy1
          omega
      · rw [hD1.1 p p2 x y hx1 hy1 hxy]
    · rcases hsplit i x hx with ⟨hi, hx1⟩ | ⟨p, rfl, hx1⟩
      · exact hD.2 i x hx1
      · exact hsub s hD hs _ (hD1.2 p x hx1)
  · exact hsub s hp.1.2.2.2.1 hp.2
theorem ie_known3 {Zs Zb : iy_D} (hws : ∀ js, js < n → myb (off + js) = mys js ∧ ij_ws Pb Mb Ts myb mbb (off + js) = ij_ws Ps Ms Ts mys mbs js ∧ iy_co Zb (off + js) = iy_co Zs js) {R : iy_R} {d : Nat} (hM : ∀ A', (∀ q, A' q → A q) → iy_known a0 N l Ps Ms Zs Ts cl ns mys mbs D cA A' R d) : iy_known a0 N l Pb Mb Zb Ts cl nb myb mbb D cA A (ie_C3 off n Ps Pb ns nb R) d := by
  intro ad j as K σ K' τ had h sz hsz
  obtain ⟨js, as0, K0, Ks, σs, Ks', τs, hj, rfl, rfl, rfl, rfl, rfl, hrel, hw, hw1, hle, hn, hft, hK0, hR⟩ := h
  obtain ⟨e1, e2, e3⟩ := hws js hj
  unfold iy_rm
  rw [e1, e2, e3]
  exact ie_met3 hsz (fun z hz => hM _ hz (ie_ad K0.length ad) js as0 Ks σs Ks' τs (ie_ad_a0 had) hR z (fun q hq => Or.inr hq)) hrel hw hw1 hle hn hft hK0
end IEK
