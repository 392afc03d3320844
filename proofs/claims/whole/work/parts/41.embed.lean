/-! ===== a small world within a larger one: its contracts hold there ===== -/
theorem ie_cons {l : Launch} {y : MethodName} {ws : List Cond} {rm : Room} {Pc Pc' : Array Value → State → Prop} {Qc Qc' : Array Value → State → Outcome → State → Prop} {mc ms : Nat} {free free' : Addr → Prop} (h : Met l y ws rm Pc Qc mc ms free)
    (h1 : ∀ a s, Pc' a s → Pc a s) (h2 : ∀ a s o t, Pc' a s → Qc a s o t → Qc' a s o t) (h3 : ∀ a s, Pc' a s → ∀ q, free q → free' q) : Met l y ws rm Pc' Qc' mc ms free' := by
  intro p e ha hc hk s m args below hf happ hP hK
  obtain ⟨n, o, a1, a2, a3, a4, L, a5, a6⟩ := h p e ha hc hk s m args below hf happ (h1 _ _ hP) hK
  exact ⟨n, o, a1, a2, a3, h2 _ _ _ _ hP a4, L, a5, fun q hq => h3 _ _ hP _ (a6 q hq)⟩
theorem ie_consX {l : Launch} {y : MethodName} {ws : List Cond} {rm : Room} {Pc Pc' : Array Value → State → Prop} {Qc Qc' : Array Value → State → Outcome → State → Prop} {XC XC' : String → State → State → Prop} {mc ms : Nat} {free free' : Addr → Prop} (h : vx_Met l y ws rm Pc Qc XC mc ms free)
    (h1 : ∀ a s, Pc' a s → Pc a s) (h2 : ∀ a s o t, Pc' a s → Qc a s o t → Qc' a s o t) (h3 : ∀ a s, Pc' a s → ∀ q, free q → free' q) (h4 : ∀ a s E t, Pc' a s → XC E s t → XC' E s t) : vx_Met l y ws rm Pc' Qc' XC' mc ms free' := by
  intro p e ha hc hk s m args below hf happ hP hK
  obtain ⟨n, o, a1, a2, a3, a4⟩ := h p e ha hc hk s m args below hf happ (h1 _ _ hP) hK
  refine ⟨n, o, a1, a2, a3, ?_⟩
  rcases a4 with ⟨b1, L, b2, b3⟩ | ⟨q, b1, E, ce, L, b2, b3, b4, b5, b6, b7, b8⟩
  · exact Or.inl ⟨h2 _ _ _ _ hP b1, L, b2, fun q hq => h3 _ _ hP _ (b3 q hq)⟩
  · exact Or.inr ⟨q, b1, E, ce, L, h4 _ _ _ _ hP b2, b3, b4, b5, b6, b7, fun z hz => h3 _ _ hP _ (b8 z hz)⟩
/-- the places B, B + 1 .. of the larger world are those of the small one -/
def ie_rel (B : Nat) (Ps Pb : ij_P) (ns nb : Nat → Nat) (Ks Kb : ij_Ks) (σs σb : ij_S) : Prop :=
  (∀ p k, Ks[p]? = some k → Kb[B + p]? = some k) ∧
  (∀ p ci, Ks[p]? = some (.inl ci) → ns ci = nb ci ∧ ∀ k, k < ns ci → ij_ft Ps ci k = ij_ft Pb ci k ∧ (ij_ft Ps ci k = 3 → σb.1 (B + p) k = B + σs.1 p k)) ∧
  (∀ p, p < Ks.length → ∀ k, σb.2.1 (B + p) k = σs.2.1 p k ∧ σb.2.2 (B + p) k = σs.2.2 p k)
/-- the larger state with the small one put into it -/
def ie_put (B n : Nat) (σb τs : ij_S) : ij_S :=
  (fun p k => if B ≤ p ∧ p < B + n then B + τs.1 (p - B) k else σb.1 p k, fun p k => if B ≤ p ∧ p < B + n then τs.2.1 (p - B) k else σb.2.1 p k, fun p k => if B ≤ p ∧ p < B + n then τs.2.2 (p - B) k else σb.2.2 p k)
def ie_v (B : Nat) : Value → Value
  | .ref p => if 1000 ≤ p then .ref p else .ref (B + p)
  | v => v
section IE
variable {B : Nat} {Ps Pb : ij_P} {ns nb : Nat → Nat} {Ks Kb : ij_Ks} {σs σb τs : ij_S} {cA : Nat → ClassId} {ad : Nat → Nat}
/-- the small world's addresses -/
def ie_ad (B : Nat) (ad : Nat → Nat) : Nat → Nat := fun p => if 1000 ≤ p then ad p else ad (B + p)
theorem ie_ad_v (v : Value) : ij_v (ie_ad B ad) v = ij_v ad (ie_v B v) := by
  cases v with
  | ref p =>
    by_cases h : 1000 ≤ p
    · have e1 : ie_v B (.ref p) = .ref p := if_pos h
      rw [e1]
      show Value.ref (if 1000 ≤ p then ad p else ad (B + p)) = .ref (ad p)
      rw [if_pos h]
    · have e1 : ie_v B (.ref p) = .ref (B + p) := if_neg h
      rw [e1]
      show Value.ref (if 1000 ≤ p then ad p else ad (B + p)) = .ref (ad (B + p))
      rw [if_neg h]
  | _ => rfl
theorem ie_ce (h : ie_rel B Ps Pb ns nb Ks Kb σs σb) (hw : ∀ p ci k, Ks[p]? = some (.inl ci) → k < ns ci → ij_ft Ps ci k = 3 → σs.1 p k < 1000) {p : Nat} {k : Nat ⊕ (Nat × Nat)} (hk : Ks[p]? = some k) : ij_ce Ps ns cA (ie_ad B ad) σs p k = ij_ce Pb nb cA ad σb (B + p) k := by
  have hp : p < Ks.length := (List.getElem?_eq_some_iff.mp hk).1
  cases k with
  | inl ci =>
    obtain ⟨h1, h2⟩ := h.2.1 p ci hk
    show Sum.inr (ci, _) = Sum.inr (ci, _)
    rw [← h1]
    congr 2
    apply List.map_congr_left
    intro k hk9
    have hk9 := List.mem_range.mp hk9
    obtain ⟨h3, h4⟩ := h2 k hk9
    obtain ⟨h5, h6⟩ := h.2.2 p hp k
    rw [ie_ad_v]
    unfold ij_fv
    rw [← h3]
    generalize hf : ij_ft Ps ci k = f at h4 ⊢
    match f, h4 with
    | 0, _ => show ij_v ad (ie_v B (.int _)) = ij_v ad (.int _); rw [h5]; rfl
    | 1, _ => show ij_v ad (ie_v B (.long _)) = ij_v ad (.long _); rw [h6]; rfl
    | 2, _ => show ij_v ad (ie_v B (.int _)) = ij_v ad (.int _); rw [h5]; rfl
    | 3, h4 =>
      show ij_v ad (ie_v B (.ref _)) = ij_v ad (.ref _)
      have h9 := hw p ci k hk hk9 hf
      have e9 : ie_v B (.ref (σs.1 p k)) = .ref (B + σs.1 p k) := if_neg (Nat.not_le.mpr h9)
      rw [e9, h4 rfl]
    | 4, _ => rfl
    | f + 5, _ => show ij_v ad (ie_v B (.int _)) = ij_v ad (.int _); rw [h5]; rfl
  | inr tn =>
    have e1 : σb.2.1 (B + p) = σs.2.1 p := funext (fun k => (h.2.2 p hp k).1)
    have e2 : σb.2.2 (B + p) = σs.2.2 p := funext (fun k => (h.2.2 p hp k).2)
    show Sum.inl _ = Sum.inl _
    rw [e1, e2]
theorem ie_W (h : ie_rel B Ps Pb ns nb Ks Kb σs σb) (hn : Ks.length ≤ 1000) (hw : ∀ p ci k, Ks[p]? = some (.inl ci) → k < ns ci → ij_ft Ps ci k = 3 → σs.1 p k < 1000) {p : Nat} {x : Nat × va_E} (hx : (ij_W Ps ns cA (ie_ad B ad) Ks σs)[p]? = some x) : (ij_W Pb nb cA ad Kb σb)[B + p]? = some x := by
  cases hk : Ks[p]? with
  | none =>
    unfold ij_W at hx
    rw [List.getElem?_mapIdx, hk] at hx
    cases hx
  | some k =>
    rw [ij_W_get hk] at hx
    cases hx
    have hp : p < Ks.length := (List.getElem?_eq_some_iff.mp hk).1
    rw [ij_W_get (h.1 p k hk), ie_ce h hw hk]
    have e9 : ie_ad B ad p = ad (B + p) := if_neg (by omega)
    rw [e9]
/-- the small world's own addresses -/
def ie_A (B n : Nat) (ad : Nat → Nat) : Nat → Prop := fun q => ∃ p, p < n ∧ q = ad (B + p)
theorem ie_D {A : Nat → Prop} (h : ie_rel B Ps Pb ns nb Ks Kb σs σb) (hn : Ks.length ≤ 1000) (hw : ∀ p ci k, Ks[p]? = some (.inl ci) → k < ns ci → ij_ft Ps ci k = 3 → σs.1 p k < 1000) (hD : va_D A (ij_W Pb nb cA ad Kb σb)) : va_D (ie_A B Ks.length ad) (ij_W Ps ns cA (ie_ad B ad) Ks σs) := by
  refine ⟨fun i j x y hx hy hxy => ?_, fun k x hx => ?_⟩
  · have := hD.1 (B + i) (B + j) x y (ie_W h hn hw hx) (ie_W h hn hw hy) hxy
    omega
  · cases hk : Ks[k]? with
    | none =>
      unfold ij_W at hx
      rw [List.getElem?_mapIdx, hk] at hx
      cases hx
    | some k9 =>
      rw [ij_W_get hk] at hx
      cases hx
      have hp : k < Ks.length := (List.getElem?_eq_some_iff.mp hk).1
      exact ⟨k, hp, if_neg (by omega)⟩
theorem ie_sub {A : Nat → Prop} (h : ie_rel B Ps Pb ns nb Ks Kb σs σb) (hD : va_D A (ij_W Pb nb cA ad Kb σb)) : ∀ q, ie_A B Ks.length ad q → A q := by
  intro q ⟨p, hp, hq⟩
  rw [hq]
  obtain ⟨k, hk⟩ : ∃ k, Ks[p]? = some k := ⟨Ks[p], List.getElem?_eq_getElem hp⟩
  exact hD.2 (B + p) _ (ij_W_get (h.1 p k hk))
/-- behind the call: the small world as it is now, the rest as it was -/
theorem ie_post {D : va_G} {cl : List vw_C} {A : Nat → Prop} {H H1 : Heap} (h : ie_rel B Ps Pb ns nb Ks Kb σs σb) (hn : Ks.length ≤ 1000) (hw : ∀ p ci k, Ks[p]? = some (.inl ci) → k < ns ci → ij_ft Ps ci k = 3 → τs.1 p k < 1000)
    (hP : va_P D cl (ij_W Pb nb cA ad Kb σb) H) (hD : va_D A (ij_W Pb nb cA ad Kb σb)) (hP1 : va_P D cl (ij_W Ps ns cA (ie_ad B ad) Ks τs) H1) (hF : ∀ q : Nat, q < H.size → ¬ ie_A B Ks.length ad q → H1[q]? = H[q]?) :
    va_P D cl (ij_W Pb nb cA ad Kb (ie_put B Ks.length σb τs)) H1 ∧ va_D A (ij_W Pb nb cA ad Kb (ie_put B Ks.length σb τs)) := by
  have hr : ie_rel B Ps Pb ns nb Ks Kb τs (ie_put B Ks.length σb τs) := by
    refine ⟨h.1, fun p ci hk => ⟨(h.2.1 p ci hk).1, fun k hk9 => ⟨((h.2.1 p ci hk).2 k hk9).1, fun _ => ?_⟩⟩, fun p hp k => ⟨?_, ?_⟩⟩
    · have hp : p < Ks.length := (List.getElem?_eq_some_iff.mp hk).1
      show (if B ≤ B + p ∧ B + p < B + Ks.length then B + τs.1 (B + p - B) k else σb.1 (B + p) k) = B + τs.1 p k
      rw [if_pos ⟨by omega, by omega⟩, show B + p - B = p by omega]
    · show (if B ≤ B + p ∧ B + p < B + Ks.length then τs.2.1 (B + p - B) k else σb.2.1 (B + p) k) = τs.2.1 p k
      rw [if_pos ⟨by omega, by omega⟩, show B + p - B = p by omega]
    · show (if B ≤ B + p ∧ B + p < B + Ks.length then τs.2.2 (B + p - B) k else σb.2.2 (B + p) k) = τs.2.2 p k
      rw [if_pos ⟨by omega, by omega⟩, show B + p - B = p by omega]
  have hout : ∀ i k, ¬ (B ≤ i ∧ i < B + Ks.length) → ij_ce Pb nb cA ad (ie_put B Ks.length σb τs) i k = ij_ce Pb nb cA ad σb i k := by
    intro i k hi
    cases k with
    | inl ci => simp only [ij_ce, ij_fv, ie_put, if_neg hi]
    | inr tn => simp only [ij_ce, ie_put, if_neg hi]
  have hin : ∀ (i : Nat) (x : Nat × va_E), (ij_W Pb nb cA ad Kb (ie_put B Ks.length σb τs))[i]? = some x → ∃ y, (ij_W Pb nb cA ad Kb σb)[i]? = some y ∧ y.1 = x.1 := by
    intro i x hx
    cases hk : Kb[i]? with
    | none =>
      unfold ij_W at hx
      rw [List.getElem?_mapIdx, hk] at hx
      cases hx
    | some k =>
      rw [ij_W_get hk] at hx
      cases hx
      exact ⟨_, ij_W_get hk, rfl⟩
  refine ⟨fun i x hx => ?_, fun i j x y hx hy hxy => ?_, fun i x hx => ?_⟩
  · cases hk : Kb[i]? with
    | none =>
      unfold ij_W at hx
      rw [List.getElem?_mapIdx, hk] at hx
      cases hx
    | some k =>
      by_cases hi : B ≤ i ∧ i < B + Ks.length
      · obtain ⟨p, rfl⟩ : ∃ p, i = B + p := ⟨i - B, by omega⟩
        obtain ⟨k9, hk9⟩ : ∃ k9, Ks[p]? = some k9 := ⟨Ks[p]'(by omega), List.getElem?_eq_getElem (by omega)⟩
        have h1 := hP1 p _ (ij_W_get hk9)
        have h2 := ie_W hr hn hw (ij_W_get (cA := cA) (ad := ie_ad B ad) (P := Ps) (nf := ns) (σ := τs) hk9)
        rw [hx] at h2
        rw [Option.some.inj h2]
        exact h1
      · rw [ij_W_get hk, hout i k hi] at hx
        cases hx
        have h1 := hP i _ (ij_W_get hk)
        refine h1.kept (hF _ h1.lt (fun hq => ?_))
        obtain ⟨p, hp, hq⟩ := hq
        obtain ⟨k9, hk9⟩ : ∃ k9, Ks[p]? = some k9 := ⟨Ks[p], List.getElem?_eq_getElem hp⟩
        have := hD.1 i (B + p) _ _ (ij_W_get hk) (ij_W_get (h.1 p k9 hk9)) hq
        omega
  · obtain ⟨x', hx', ex⟩ := hin i x hx
    obtain ⟨y', hy', ey⟩ := hin j y hy
    exact hD.1 i j x' y' hx' hy' (by rw [ex, ey]; exact hxy)
  · obtain ⟨x', hx', ex⟩ := hin i x hx
    rw [← ex]
    exact hD.2 i x' hx'
end IE
section IEM
variable {l : Launch} {B : Nat} {Ps Pb : ij_P} {ns nb : Nat → Nat} {Ks Kb : ij_Ks} {σs σb τs : ij_S} {cA : Nat → ClassId} {ad : Nat → Nat} {cl : List vw_C} {D : va_G} {A : Nat → Prop} {N : State → Prop} {y : MethodName} {ws : List Cond} {rm : Room} {as : List Value} {mc ms : Nat}
theorem ie_F {st t : State} (hs : ∀ q, ie_A B Ks.length ad q → A q) (h : va_F (ie_A B Ks.length ad) st t) : va_F A st t := ⟨h.1, fun q h1 h2 => h.2 q h1 (fun h3 => h2 (hs q h3))⟩
theorem ie_as : (as.map (ij_v (ie_ad B ad))) = (as.map (ie_v B)).map (ij_v ad) := by
  rw [List.map_map]
  exact List.map_congr_left (fun v _ => ie_ad_v v)
theorem ie_stays (h : ∀ q, ie_A B Ks.length ad q → A q) (hst : ik_stays N A) : ik_stays N (ie_A B Ks.length ad) := ⟨hst.1, fun s U locs h1 h2 h3 => hst.2 s U locs h1 h2 ⟨h3.1, fun q h4 h5 => h3.2.1 q h4 (fun h6 => h5 (h q h6)), fun z hz => h _ (h3.2.2 z hz)⟩⟩
/-- a contract of the small world, without surroundings -/
theorem ie_met0 {v : Option Value} (hM : Met l y ws rm (ij_Pc Ps cl ns D cA (ie_ad B ad) Ks (ie_A B Ks.length ad) as σs) (ij_Qc Ps cl ns D cA (ie_ad B ad) Ks (ie_A B Ks.length ad) v τs) mc ms (ie_A B Ks.length ad)) (h : ie_rel B Ps Pb ns nb Ks Kb σs σb) (hn : Ks.length ≤ 1000)
    (hw : ∀ p ci k, Ks[p]? = some (.inl ci) → k < ns ci → ij_ft Ps ci k = 3 → σs.1 p k < 1000) (hw1 : ∀ p ci k, Ks[p]? = some (.inl ci) → k < ns ci → ij_ft Ps ci k = 3 → τs.1 p k < 1000) :
    Met l y ws rm (ik_Pc N Pb cl nb D cA ad Kb A (as.map (ie_v B)) σb) (ij_Qc Pb cl nb D cA ad Kb A (v.map (ie_v B)) (ie_put B Ks.length σb τs)) mc ms A := by
  refine ie_cons hM (fun a s hp => ?_) (fun a s o t hp hq => ?_) (fun a s hp => ?_)
  · obtain ⟨h1, hP, hK, hD, hN⟩ := hp
    exact ⟨by rw [h1, ie_as], fun i x hx => hP (B + i) x (ie_W h hn hw hx), hK, ie_D h hn hw hD⟩
  · obtain ⟨h1, hP, hK, hD, hN⟩ := hp
    obtain ⟨⟨ho, hP1, -⟩, hF⟩ := hq
    obtain ⟨g1, g2⟩ := ie_post h hn hw1 hP hD hP1 hF.2
    refine ⟨⟨?_, g1, g2⟩, ie_F (ie_sub h hD) hF⟩
    rw [ho]
    cases v with
    | none => rfl
    | some w => exact congrArg (fun z => Outcome.returned (some z)) (ie_ad_v w)
  · obtain ⟨h1, hP, hK, hD, hN⟩ := hp
    exact ie_sub h hD
/-- a contract of the small world, with surroundings -/
theorem ie_met1 {v : Option Value} (hM : Met l y ws rm (ik_Pc N Ps cl ns D cA (ie_ad B ad) Ks (ie_A B Ks.length ad) as σs) (ij_Qc Ps cl ns D cA (ie_ad B ad) Ks (ie_A B Ks.length ad) v τs) mc ms (ie_A B Ks.length ad)) (h : ie_rel B Ps Pb ns nb Ks Kb σs σb) (hn : Ks.length ≤ 1000)
    (hw : ∀ p ci k, Ks[p]? = some (.inl ci) → k < ns ci → ij_ft Ps ci k = 3 → σs.1 p k < 1000) (hw1 : ∀ p ci k, Ks[p]? = some (.inl ci) → k < ns ci → ij_ft Ps ci k = 3 → τs.1 p k < 1000) :
    Met l y ws rm (ik_Pc N Pb cl nb D cA ad Kb A (as.map (ie_v B)) σb) (ij_Qc Pb cl nb D cA ad Kb A (v.map (ie_v B)) (ie_put B Ks.length σb τs)) mc ms A := by
  refine ie_cons hM (fun a s hp => ?_) (fun a s o t hp hq => ?_) (fun a s hp => ?_)
  · obtain ⟨h1, hP, hK, hD, hN⟩ := hp
    exact ⟨by rw [h1, ie_as], fun i x hx => hP (B + i) x (ie_W h hn hw hx), hK, ie_D h hn hw hD, hN⟩
  · obtain ⟨h1, hP, hK, hD, hN⟩ := hp
    obtain ⟨⟨ho, hP1, -⟩, hF⟩ := hq
    obtain ⟨g1, g2⟩ := ie_post h hn hw1 hP hD hP1 hF.2
    refine ⟨⟨?_, g1, g2⟩, ie_F (ie_sub h hD) hF⟩
    rw [ho]
    cases v with
    | none => rfl
    | some w => exact congrArg (fun z => Outcome.returned (some z)) (ie_ad_v w)
  · obtain ⟨h1, hP, hK, hD, hN⟩ := hp
    exact ie_sub h hD
def ie_o (B : Nat) : ix_O → ix_O
  | .inl v => .inl (v.map (ie_v B))
  | .inr E => .inr E
/-- a contract of the small world that may throw -/
theorem ie_met2 {o : ix_O} (hM : vx_Met l y ws rm (ik_Pc N Ps cl ns D cA (ie_ad B ad) Ks (ie_A B Ks.length ad) as σs) (ix_Qc Ps cl ns D cA (ie_ad B ad) Ks (ie_A B Ks.length ad) o τs) (ix_XC Ps cl ns D cA (ie_ad B ad) Ks (ie_A B Ks.length ad) o τs) mc ms (ie_A B Ks.length ad)) (h : ie_rel B Ps Pb ns nb Ks Kb σs σb) (hn : Ks.length ≤ 1000)
    (hw : ∀ p ci k, Ks[p]? = some (.inl ci) → k < ns ci → ij_ft Ps ci k = 3 → σs.1 p k < 1000) (hw1 : ∀ p ci k, Ks[p]? = some (.inl ci) → k < ns ci → ij_ft Ps ci k = 3 → τs.1 p k < 1000) :
    vx_Met l y ws rm (ik_Pc N Pb cl nb D cA ad Kb A (as.map (ie_v B)) σb) (ix_Qc Pb cl nb D cA ad Kb A (ie_o B o) (ie_put B Ks.length σb τs)) (ix_XC Pb cl nb D cA ad Kb A (ie_o B o) (ie_put B Ks.length σb τs)) mc ms A := by
  refine ie_consX hM (fun a s hp => ?_) (fun a s oc t hp hq => ?_) (fun a s hp => ?_) (fun a s E t hp hq => ?_)
  · obtain ⟨h1, hP, hK, hD, hN⟩ := hp
    exact ⟨by rw [h1, ie_as], fun i x hx => hP (B + i) x (ie_W h hn hw hx), hK, ie_D h hn hw hD, hN⟩
  · obtain ⟨h1, hP, hK, hD, hN⟩ := hp
    obtain ⟨v, hv, ⟨ho, hP1, -⟩, hF⟩ := hq
    obtain ⟨g1, g2⟩ := ie_post h hn hw1 hP hD hP1 hF.2
    refine ⟨v.map (ie_v B), by rw [hv]; rfl, ⟨?_, g1, g2⟩, ie_F (ie_sub h hD) hF⟩
    rw [ho]
    cases v with
    | none => rfl
    | some w => exact congrArg (fun z => Outcome.returned (some z)) (ie_ad_v w)
  · obtain ⟨h1, hP, hK, hD, hN⟩ := hp
    exact ie_sub h hD
  · obtain ⟨h1, hP, hK, hD, hN⟩ := hp
    obtain ⟨hv, hP1, -, hF⟩ := hq
    obtain ⟨g1, g2⟩ := ie_post h hn hw1 hP hD hP1 hF.2
    exact ⟨by rw [hv]; rfl, g1, g2, ie_F (ie_sub h hD) hF⟩
end IEM
