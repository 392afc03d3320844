/-! ===== that runs that make objects are runs of the machine ===== -/
/-- one turn of a run that makes objects: C1 K: known calls over the kinds K; C2: calls that may throw, and don't; C3: constructors. RC, RS: the room; u, v: cells and slots made so far -/
def iy_st (P : ij_P) (M : ij_M) (T : ix_T) (Z : iy_D) (nf : Nat → Nat) (RC RS : Nat) (C1 : ij_Ks → ij_R) (C2 : ij_Ks → ix_R) (C3 : iy_R) (S : Option (Nat × (Nat → Int32))) (mi : Nat) (u v : Nat) (K : ij_Ks) (c : ij_C) (u1 v1 : Nat) (K1 : ij_Ks) (c1 : ij_C) : Prop :=
  (∃ k x z, ij_dc P mi c.1 = some x ∧ ij_ins P K mi k c.1 c.2.1 c.2.2.1 c.2.2.2 x.1 = some z ∧ ij_all z.1 ∧ u1 = u ∧ v1 = v ∧ K1 = K ∧ c1 = z.2) ∨
  (∃ x j as r w σ', ij_dc P mi c.1 = some x ∧ ij_cal P M K mi c.2.2.1 x.1 = some (j, as, r) ∧ ix_mh T j = [] ∧ C1 K j as c.2.2.2 w σ' ∧ u ≤ RC ∧ v ≤ RS ∧ u1 = u ∧ v1 = v ∧ K1 = K ∧ c1 = (c.1 + 3, c.2.1, w.toList ++ r, σ')) ∨
  (∃ x j as r w σ', ij_dc P mi c.1 = some x ∧ ij_cal P M K mi c.2.2.1 x.1 = some (j, as, r) ∧ C2 K j as c.2.2.2 (.inl w) σ' ∧ u + ix_co T j ≤ RC ∧ v + 6 * ix_co T j ≤ RS ∧ u1 = u + ix_co T j ∧ v1 = v + 6 * ix_co T j ∧ K1 = K ∧ c1 = (c.1 + 3, c.2.1, w.toList ++ r, σ')) ∨
  (∃ i ci, ij_dc P mi c.1 = some (.new i, 3) ∧ iy_pn Z (ij_mo P mi) i = some ci ∧ iy_wf P nf K c = true ∧ K.length < 1000 ∧ u + 1 ≤ RC ∧ v + nf ci ≤ RS ∧ u1 = u + 1 ∧ v1 = v + nf ci ∧ K1 = K ++ [.inl (iy_fk Z ci)] ∧ c1 = (c.1 + 3, c.2.1, .ref K.length :: c.2.2.1, iy_z c.2.2.2 K.length)) ∨
  (∃ t tc n r, ij_dc P mi c.1 = some (.newarray t, 2) ∧ iy_at t = some tc ∧ c.2.2.1 = .int n :: r ∧ ¬ n < 0 ∧ n.toNatClampNeg ≤ 1000000 ∧ iy_wf P nf K (c.1, c.2.1, r, c.2.2.2) = true ∧ K.length < 1000 ∧ u + 1 ≤ RC ∧ v + n.toNatClampNeg ≤ RS ∧ u1 = u + 1 ∧ v1 = v + n.toNatClampNeg ∧ K1 = K ++ [.inr (tc, n.toNatClampNeg)] ∧ c1 = (c.1 + 2, c.2.1, .ref K.length :: r, iy_z c.2.2.2 K.length)) ∨
  (∃ i w a r ki k2 q σ', ij_dc P mi c.1 = some (.putfield i, 3) ∧ c.2.2.1 = w :: .ref a :: r ∧ K[a]? = some (.inl ki) ∧ ij_pf P (ij_mo P mi) i = some q ∧ q.1 = ij_mo P mi ∧ iy_kc Z ki = q.1 ∧ iy_nk Z ki q.2 = some k2 ∧ iy_put c.2.2.2 a q.2 (ij_ft P q.1 q.2) w = some σ' ∧ u1 = u ∧ v1 = v ∧ K1 = K.set a (.inl k2) ∧ c1 = (c.1 + 3, c.2.1, r, σ')) ∨
  (∃ i a r, ij_dc P mi c.1 = some (.invokespecial i, 3) ∧ iy_po Z (ij_mo P mi) i = true ∧ c.2.2.1 = .ref a :: r ∧ ij_cs r ≤ 8 ∧ u1 = u ∧ v1 = v ∧ K1 = K ∧ c1 = (c.1 + 3, c.2.1, r, c.2.2.2)) ∨
  (∃ i j b r τ, ij_dc P mi c.1 = some (.invokespecial i, 3) ∧ iy_pc Z (ij_mo P mi) i = some j ∧ (c.2.2.1.take (ij_mn M j)).length = ij_mn M j ∧ c.2.2.1.drop (ij_mn M j) = .ref b :: r ∧ ij_cs r ≤ 8 ∧ iy_wf P nf K (c.1, c.2.1, r, c.2.2.2) = true ∧ C3 j (.ref b :: (c.2.2.1.take (ij_mn M j)).reverse) K c.2.2.2 K1 τ ∧ u + (iy_co Z j).1 ≤ RC ∧ v + (iy_co Z j).2 ≤ RS ∧ u1 = u + (iy_co Z j).1 ∧ v1 = v + (iy_co Z j).2 ∧ c1 = (c.1 + 3, c.2.1, r, τ)) ∨
  (∃ i r SL xs, S = some (SL, xs) ∧ ij_dc P mi c.1 = some (.iaload, 1) ∧ c.2.2.1 = .int i :: .ref 1000 :: r ∧ vp_in i SL ∧ u1 = u ∧ v1 = v ∧ K1 = K ∧ c1 = (c.1 + 1, c.2.1, .int (xs i.toNatClampNeg) :: r, c.2.2.2)) ∨
  (∃ r SL xs, S = some (SL, xs) ∧ ij_dc P mi c.1 = some (.arraylength, 1) ∧ c.2.2.1 = .ref 1000 :: r ∧ u1 = u ∧ v1 = v ∧ K1 = K ∧ c1 = (c.1 + 1, c.2.1, .int (Int32.ofNat SL) :: r, c.2.2.2)) ∨
  (∃ L : ij_L, (∀ i w, ij_get L i = some w → ij_get c.2.1 i = some w) ∧ u1 = u ∧ v1 = v ∧ K1 = K ∧ c1 = (c.1, L, c.2.2.1, c.2.2.2)) ∨
  (∃ i a r ki k0 k2 q, ij_dc P mi c.1 = some (.getfield i, 3) ∧ c.2.2.1 = .ref a :: r ∧ K[a]? = some (.inl ki) ∧ ij_pf P (ij_mo P mi) i = some q ∧ iy_kc Z ki = q.1 ∧ iy_nk Z ki k0 = some k2 ∧ u1 = u ∧ v1 = v ∧ K1 = K ∧ c1 = (c.1 + 3, c.2.1, ij_fv P c.2.2.2 ki a q.2 :: r, c.2.2.2))
def iy_rm (Z : iy_D) (j d : Nat) : Room := { frames := d + 20, cells := (iy_co Z j).1, slots := (iy_co Z j).2, locals := 64 * d + 1000 }
def iy_Qc (P : ij_P) (cl : List vw_C) (nf : Nat → Nat) (D : va_G) (cA : Nat → ClassId) (ad : Nat → Nat) (K K' : ij_Ks) (A : Nat → Prop) (τ : ij_S) : Array Value → State → Outcome → State → Prop :=
  fun _ st oc t => (oc = .returned none ∧ ∃ ad' : Nat → Nat, (∀ p, p < K.length ∨ 1000 ≤ p → ad' p = ad p) ∧ va_P D cl (ij_W P nf cA ad' K' τ) t.heap ∧ va_D A (ij_W P nf cA ad' K' τ)) ∧ va_F A st t
def iy_known (a0 : Nat → Nat) (N : State → Prop) (l : Launch) (P : ij_P) (M : ij_M) (Z : iy_D) (Ts : List Cond) (cl : List vw_C) (nf : Nat → Nat) (my : Nat → MethodName) (mb : Nat → ByteArray) (D : va_G) (cA : Nat → ClassId) (A : Nat → Prop) (C : iy_R) (d : Nat) : Prop :=
  ∀ (ad : Nat → Nat) j as K σ K' τ, (∀ p, 1000 ≤ p → ad p = a0 p) → C j as K σ K' τ → ∀ sz : Nat, (∀ q, sz ≤ q → A q) → Met l (my j) (ij_ws P M Ts my mb j) (iy_rm Z j d) (fun a U => ik_Pc N P cl nf D cA ad K A as σ a U ∧ sz ≤ U.heap.size) (iy_Qc P cl nf D cA ad K K' A τ) (iy_co Z j).1 (iy_co Z j).2 A
/-- what the tables say of making objects -/
def iy_okm (P : ij_P) (M : ij_M) (Z : iy_D) (Ts : List Cond) (cl : List vw_C) (nf : Nat → Nat) (ty : Nat → Nat → FieldType) (cn : Nat → String) (my : Nat → MethodName) (mb : Nat → ByteArray) (D : va_G) : Prop :=
  (∀ o i ci, iy_pn Z o i = some ci → ∃ (C : String) (T : u_T), cl[ci]? = some (C, T, nf ci) ∧ cl[iy_fk Z ci]? = some (C, T, nf ci) ∧ nf (iy_fk Z ci) = nf ci ∧ (∀ w ∈ u_ws C T (nf ci), w ∈ Ts) ∧ (∀ k, k < nf ci → parseFieldDescriptor (T k).2.2.1 = some (ty ci k)) ∧ Cond.classLink (cn o) i C ∈ Ts ∧ Cond.instantiable C (nf ci) ∈ Ts ∧ Cond.initialized C ∈ Ts ∧ (∀ k, k < nf ci → iy_dv (ij_ft P (iy_fk Z ci) k) = some (defaultValue (ty ci k)))) ∧
  (∀ t ∈ [FieldType.int, .long, .boolean], Cond.arrayClass t ∈ Ts) ∧
  (∀ ki k k2 ci, iy_kc Z ki = ci → iy_nk Z ki k = some k2 → cl[ki]? = cl[ci]? ∧ cl[k2]? = cl[ci]? ∧ nf ki = nf ci ∧ nf k2 = nf ci ∧ D.1 ki = D.1 k2 ∧ D.2 ki = D.2 k2 ∧ ij_ft P k2 k = ij_ft P ci k ∧ ∀ j, j ≠ k → ij_ft P k2 j = ij_ft P ki j) ∧
  (∀ o i, iy_po Z o i = true → Cond.methodLink (cn o) i Lib.objectInit ∈ Ts ∧ Cond.instanceMethod Lib.objectInit ∈ Ts ∧ Cond.code Lib.objectInit ⟨#[0xb1]⟩ 1 none ∈ Ts) ∧
  (∀ o i j, iy_pc Z o i = some j → Cond.methodLink (cn o) i (my j) ∈ Ts ∧ Cond.code (my j) (mb j) (ij_ml P j) none ∈ Ts ∧ ij_mr M j = none ∧ Cond.initialized (my j).cls ∈ Ts ∧ Cond.instanceMethod (my j) ∈ Ts ∧ (my j).name = "<init>" ∧
    ((my j).cls ≠ "java/lang/invoke/MethodHandle" ∧ (my j).cls ≠ "java/lang/invoke/VarHandle" ∧ (parseMethodDescriptor (my j).desc).map (fun d => d.parameters.length) = some (ij_mn M j)) ∧ ij_ml P j ≤ 40)
section IYW
variable {p : Program} {l : Launch} {e : Env} {R : Room} {s : State} {m : MethodId} {args : Array Value} {below : List Frame} {meth : Method} {c : Code} {cells slots mc ms : Nat} {Q : State → Prop}
variable {P : ij_P} {M : ij_M} {T : ix_T} {Z : iy_D} {Ts : List Cond} {cl : List vw_C} {nf : Nat → Nat} {ty : Nat → Nat → FieldType} {cn : Nat → String} {my : Nat → MethodName} {mb : Nat → ByteArray}
variable {D : va_G} {cA : Nat → ClassId} {A : Nat → Prop} {H0 : Heap} {mi : Nat} {N : State → Prop} {a0 : Nat → Nat} {S : Option (Nat × (Nat → Int32))}
set_option maxHeartbeats 4000000 in
set_option maxRecDepth 100000 in
theorem iy_one (hst : ik_stays N A) (hNs : N s) {C1 : ij_Ks → ij_R} {C2 : ij_Ks → ix_R} {C3 : iy_R} {d : Nat} (hM1 : ∀ ad K, (∀ p, 1000 ≤ p → ad p = a0 p) → ik_known N l P M Ts cl nf my mb D cA ad K A (C1 K) d) (hM2 : ∀ ad K, (∀ p, 1000 ≤ p → ad p = a0 p) → ix_known N l P M T Ts cl nf my mb D cA ad K A (C2 K) d) (hM3 : iy_known a0 N l P M Z Ts cl nf my mb D cA A C3 d)
    (hokm : ix_okm P M T N A Ts cl cn my mb) (hoky : iy_okm P M Z Ts cl nf ty cn my mb D) (hR1 : d + 21 ≤ R.frames) (hR2 : 64 * d + 1064 ≤ R.locals) (hml : c.maxLocals = ij_ml P mi) (hA : ∀ q, s.heap.size ≤ q → A q) (hin : ∀ i q, ij_pf P (ij_mo P mi) i = some q → q.1 = ij_mo P mi → meth.name = "<init>" ∧ ∀ C T N9, cl[q.1]? = some (C, T, N9) → (T q.2).1 = cn (ij_mo P mi))
    (hX : ∀ SL xs, S = some (SL, xs) → va_X (a0 1000) SL xs s s.heap ∧ a0 1000 < s.heap.size ∧ ¬ A (a0 1000)) (F : ij_fix p s m args c P Ts cl nf ty cn mb D cA mi) {u v u1 v1 : Nat} {K K1 : ij_Ks} {q q1 : ij_C} (h : iy_st P M T Z nf R.cells R.slots C1 C2 C3 S mi u v K q u1 v1 K1 q1) {ad : Nat → Nat} (hsp : ∀ p, 1000 ≤ p → ad p = a0 p)
    {H : Heap} {locs : List Loc} {ls : Array Slot} (X : ij_at P cl nf D cA ad K A s.heap (ij_ml P mi) q.2.1 q.2.2.2 H locs ls)
    (kk : ∀ (ad1 : Nat → Nat) (H : Heap) (locs : List Loc) (ls : Array Slot), (∀ p, p < K.length ∨ 1000 ≤ p → ad1 p = ad p) → ij_at P cl nf D cA ad1 K1 A s.heap (ij_ml P mi) q1.2.1 q1.2.2.2 H locs ls → W p l e R s m args below meth c H locs u1 v1 Q (F0 m q1.1 ls (q1.2.2.1.map (ij_v ad1)))) :
    W p l e R s m args below meth c H locs u v Q (F0 m q.1 ls (q.2.2.1.map (ij_v ad))) := by
  obtain ⟨hok, hx, hb, hts, hown, hK⟩ := id F
  obtain ⟨hP, hD, hS, hl⟩ := id X
  obtain ⟨pc, L, st, σ⟩ := q
  have hgood : GoodIn Ts Ts := fun w hw => ⟨hw, good_of_word (hokm.1 w hw)⟩
  rcases h with ⟨k, ⟨ins, len⟩, z, hdc, hs, hz, rfl, rfl, rfl, rfl⟩ | ⟨⟨ins, len⟩, j, as, r, w, σ', hdc, hc, hmh, hC, hf1, hf2, rfl, rfl, rfl, rfl⟩ | ⟨⟨ins, len⟩, j, as, r, w, σ', hdc, hc, hC, hf1, hf2, rfl, rfl, rfl, rfl⟩ | ⟨i, ci, hdc, hpn, hwf, hKl, hf1, hf2, rfl, rfl, rfl, rfl⟩ | ⟨t, tc, n, r, hdc, hat, hst9, hn0, hn1, hwf, hKl, hf1, hf2, rfl, rfl, rfl, rfl⟩ | ⟨i, w, a, r, ki, k2, q, σ', hdc, hst9, hKa, hpf, hqo, hkc, hnk, hput, rfl, rfl, rfl, rfl⟩ | ⟨i, a, r, hdc, hpo, hst9, hcs, rfl, rfl, rfl, rfl⟩ | ⟨i, j, b, r, τ, hdc, hpc, hlen, hdr, hcs, hwf, hC, hf1, hf2, rfl, rfl, rfl⟩ | ⟨i, r, SL, xs, hSX, hdc, hst9, hz, rfl, rfl, rfl, rfl⟩ | ⟨r, SL, xs, hSX, hdc, hst9, rfl, rfl, rfl, rfl⟩ | ⟨L', hL, rfl, rfl, rfl, rfl⟩ | ⟨i, a, r, ki, k0, k2, q, hdc, hst9, hKa, hpf, hkc, hnk, rfl, rfl, rfl, rfl⟩
  · exact ij_one F hdc hs hz X (fun H locs ls X => kk ad H locs ls (fun _ _ => rfl) X)
  · refine ij_callW (ix_run1 hst hNs hokm hR1 hR2 hml F hdc hc (hM1 ad _ hsp j as σ w σ' hC) hmh X ⟨hf1, hf2⟩) hS (fun H1 locs1 hP1 hD1 hS1 => ?_)
    have := kk ad H1 locs1 ls (fun _ _ => rfl) ⟨hP1, hD1, hS1, hl⟩
    have he : (w.map (ij_v ad)).toList ++ r.map (ij_v ad) = (w.toList ++ r).map (ij_v ad) := by cases w <;> simp
    rw [he]
    exact this
  · refine ix_callR (ix_run hst hNs hokm hR1 hR2 hml F hdc hc (hM2 ad _ hsp j as σ (.inl w) σ' hC) X ⟨hf1, hf2⟩) hS (fun H1 locs1 hP1 hD1 hS1 => ?_)
    have := kk ad H1 locs1 ls (fun _ _ => rfl) ⟨hP1, hD1, hS1, hl⟩
    have he : (w.map (ij_v ad)).toList ++ r.map (ij_v ad) = (w.toList ++ r).map (ij_v ad) := by cases w <;> simp
    rw [he]
    exact this
  · obtain ⟨hd, -⟩ := hok.1 mi pc _ hdc
    obtain ⟨C, T9, hc1, hc2, hnf, hin9, hty, hcl, hinst, hini, hdv⟩ := hoky.1 _ _ _ hpn
    have hdv' : ∀ (ad1 : Nat → Nat) (k : Nat), k < nf ci → ij_v ad1 (ij_fv P (iy_z σ K.length) (iy_fk Z ci) K.length k) = defaultValue (ty ci k) := by
      intro ad1 k hk
      have h1 := hdv k hk
      unfold ij_fv
      generalize ij_ft P (iy_fk Z ci) k = f9 at h1 ⊢
      match f9, h1 with
      | 0, h1 => rw [← Option.some.inj h1]; simp [iy_z, ij_v]
      | 1, h1 => rw [← Option.some.inj h1]; simp [iy_z, ij_v]
      | 2, h1 => rw [← Option.some.inj h1]; simp [iy_z, ij_v]
      | 3, h1 => cases h1
      | 4, h1 => rw [← Option.some.inj h1]; rfl
      | f9 + 5, h1 => cases h1
    refine va_new (ci := iy_fk Z ci) (fs := (List.range (nf ci)).map (fun k => defaultValue (ty ci k))) (N := nf ci) hx hb hts hin9 (ty ci) hty hown (hts _ hcl) (hts _ hinst) (hts _ hini) hK hP hD hS hA hc2 (fun j hj => by simp [vp_V, hj]) hf1 hf2 hd (fun q9 H1 hP1 hD1 hS1 => ?_)
    have he := iy_W_push (cA := cA) (ad := ad) (ad' := fun p => if p = K.length then q9 else ad p) (q := q9) (k := .inl (iy_fk Z ci)) (e := .inr (iy_fk Z ci, (List.range (nf ci)).map (fun k => defaultValue (ty ci k)))) hwf hKl rfl (by
      show Sum.inr (iy_fk Z ci, _) = Sum.inr (iy_fk Z ci, _)
      rw [hnf]
      congr 2
      exact List.map_congr_left (fun k hk => hdv' _ k (List.mem_range.mp hk)))
    rw [← he] at hP1 hD1
    have hsame : ∀ p, p < K.length ∨ 1000 ≤ p → (fun p => if p = K.length then q9 else ad p) p = ad p := fun p hp => if_neg (by omega)
    have := kk (fun p => if p = K.length then q9 else ad p) H1 locs ls hsame ⟨hP1, hD1, hS1, iy_lh_same hwf hsame hl⟩
    have hs9 := iy_st_same hwf hsame
    have e9 : (Value.ref K.length :: st).map (ij_v (fun p => if p = K.length then q9 else ad p)) = .ref q9 :: st.map (ij_v ad) := by
      rw [List.map_cons]
      have : st.map (ij_v (fun p => if p = K.length then q9 else ad p)) = st.map (ij_v ad) := hs9
      rw [this]
      simp [ij_v]
    rw [e9] at this
    exact this
  · obtain ⟨hd, -⟩ := hok.1 mi pc _ hdc
    have hst9 : st = .int n :: r := hst9
    subst hst9
    have htc : tc < 3 ∧ newarray.typeOf t = iy_ty tc := by
      cases t <;> first | (cases hat; exact ⟨by decide, rfl⟩) | cases hat
    have harr : (Cond.arrayClass (newarray.typeOf t)).before args s = true := hts _ (hoky.2.1 _ (by rw [htc.2]; rcases (show tc = 0 ∨ tc = 1 ∨ tc = 2 by omega) with rfl | rfl | rfl <;> simp [iy_ty]))
    have ha0 : ∀ cA9 : ClassId, vp_cell cA9 (n.toNatClampNeg, if tc = 1 then .inr (.inl (fun _ => 0)) else .inl (fun _ => 0)) = arrV cA9 n.toNatClampNeg (fun _ => defaultValue (iy_ty tc)) := by
      intro cA9
      rcases (show tc = 0 ∨ tc = 1 ∨ tc = 2 by omega) with rfl | rfl | rfl <;> rfl
    have hby : n.toNatClampNeg * componentBytes (iy_ty tc) ≤ 536870912 := by
      have : componentBytes (iy_ty tc) ≤ 8 := by rcases (show tc = 0 ∨ tc = 1 ∨ tc = 2 by omega) with rfl | rfl | rfl <;> decide
      calc n.toNatClampNeg * componentBytes (iy_ty tc) ≤ 1000000 * 8 := Nat.mul_le_mul hn1 this
        _ ≤ 536870912 := by decide
    refine va_newa hx hb harr htc.2 hK hP hD hS hA ha0 hn0 rfl hby hf1 hf2 hd (fun q9 cA9 H1 hK1 hP1 hD1 hS1 => ?_)
    have hcA : cA9 = cA tc := by
      have h1 := (hK1.2 3 (cA9, iy_ty tc) rfl).2
      have h2 := (hK.2 tc (cA tc, iy_ty tc) (by rcases (show tc = 0 ∨ tc = 1 ∨ tc = 2 by omega) with rfl | rfl | rfl <;> rfl)).2
      rcases (show tc = 0 ∨ tc = 1 ∨ tc = 2 by omega) with rfl | rfl | rfl <;> exact Option.some.inj (h1.symm.trans h2)
    subst hcA
    have he := iy_W_push (cA := cA) (ad := ad) (ad' := fun p => if p = K.length then q9 else ad p) (q := q9) (k := .inr (tc, n.toNatClampNeg)) (e := .inl (cA tc, n.toNatClampNeg, if tc = 1 then .inr (.inl (fun _ => 0)) else .inl (fun _ => 0))) hwf hKl rfl (by
      simp [ij_ce, iy_z])
    rw [← he] at hP1 hD1
    have hsame : ∀ p, p < K.length ∨ 1000 ≤ p → (fun p => if p = K.length then q9 else ad p) p = ad p := fun p hp => if_neg (by omega)
    have := kk (fun p => if p = K.length then q9 else ad p) H1 locs ls hsame ⟨hP1, hD1, hS1, iy_lh_same hwf hsame hl⟩
    have hs9 := iy_st_same hwf hsame
    have e9 : (Value.ref K.length :: r).map (ij_v (fun p => if p = K.length then q9 else ad p)) = .ref q9 :: r.map (ij_v ad) := by
      rw [List.map_cons]
      have : r.map (ij_v (fun p => if p = K.length then q9 else ad p)) = r.map (ij_v ad) := hs9
      rw [this]
      simp [ij_v]
    rw [e9] at this
    exact this
  · obtain ⟨hd, -⟩ := hok.1 mi pc _ hdc
    have hst9 : st = w :: .ref a :: r := hst9
    subst hst9
    obtain ⟨C, T9, hc, hk, hlink, hin9, hty, hnm, -, htok⟩ := hok.2.1 _ _ _ hpf
    obtain ⟨g1, g2, g3, g4, g5, g6, g7, g8⟩ := hoky.2.2.1 ki q.2 k2 q.1 hkc hnk
    obtain ⟨i1, i3⟩ := hin i q hpf hqo
    have hw := ij_W_get (P := P) (nf := nf) (cA := cA) (ad := ad) (σ := σ) hKa
    have key : narrow (ty q.1 q.2) (ij_v ad w) = ij_v ad w → fits (ty q.1 q.2) (ij_v ad w) = true → (∀ q' k', q' ≠ a → ij_ce P nf cA ad σ q' k' = ij_ce P nf cA ad σ' q' k') → (∀ j, j ≠ q.2 → ij_fv P σ' k2 a j = ij_fv P σ ki a j) → ij_fv P σ' k2 a q.2 = w →
        W p l e R s m args below meth c H locs u1 v1 Q (F0 m pc ls ((w :: .ref a :: r).map (ij_v ad))) := by
      intro h4 h5 h1 h2 h3
      have fin : ∀ (H1 : Heap) (locs1 : List Loc), va_P D cl ((ij_W P nf cA ad K σ).set a (ad a, .inr (ki, ((List.range (nf ki)).map (fun k => ij_v ad (ij_fv P σ ki a k))).set q.2 (ij_v ad w)))) H1 → va_D A ((ij_W P nf cA ad K σ).set a (ad a, .inr (ki, ((List.range (nf ki)).map (fun k => ij_v ad (ij_fv P σ ki a k))).set q.2 (ij_v ad w)))) → va_S A s.heap H1 locs1 → W p l e R s m args below meth c H1 locs1 u1 v1 Q (F0 m (pc + 3) ls (r.map (ij_v ad))) := by
        intro H1 locs1 hP1 hD1 hS1
        have hfs : ((List.range (nf ki)).map (fun k => ij_v ad (ij_fv P σ ki a k))).set q.2 (ij_v ad w) = (List.range (nf k2)).map (fun k => ij_v ad (ij_fv P σ' k2 a k)) := by
          rw [g4, ← g3]
          exact ij_fs_set (by rw [h3]) (fun j hj => by rw [h2 j hj])
        rw [hfs] at hP1 hD1
        have hget : ∀ i9 : Nat, (ij_W P nf cA ad (K.set a (.inl k2)) σ')[i9]? = ((ij_W P nf cA ad K σ).set a (ad a, .inr (k2, (List.range (nf k2)).map (fun k => ij_v ad (ij_fv P σ' k2 a k)))))[i9]? := by
          intro i9
          have halt : a < K.length := (List.getElem?_eq_some_iff.mp hKa).1
          by_cases hi : i9 = a
          · subst hi
            rw [ij_W_get (k := .inl k2) (by rw [List.getElem?_set_self halt]), List.getElem?_set_self (by simpa [ij_W] using halt)]
            rfl
          · rw [List.getElem?_set_ne (fun h => hi h.symm)]
            unfold ij_W
            rw [List.getElem?_mapIdx, List.getElem?_mapIdx, List.getElem?_set_ne (fun h => hi h.symm)]
            cases hk9 : K[i9]? with
            | none => rfl
            | some k' => simp [h1 i9 k' hi]
        have hWe := List.ext_getElem? hget
        refine kk ad H1 locs1 ls (fun _ _ => rfl) ⟨?_, ?_, hS1, hl⟩
        · show va_P D cl (ij_W P nf cA ad (K.set a (.inl k2)) σ') H1
          rw [hWe]
          intro i9 x9 hx9
          by_cases hi : i9 = a
          · subst hi
            have halt : i9 < (ij_W P nf cA ad K σ).length := by
              have := (List.getElem?_eq_some_iff.mp hKa).1
              simpa [ij_W] using this
            rw [List.getElem?_set_self halt] at hx9
            cases hx9
            have h9 := hP1 i9 _ (List.getElem?_set_self halt)
            obtain ⟨r9, hr9, ho9⟩ := h9
            refine ⟨r9, by rw [← hr9, g1, g2], ?_⟩
            show t_OB (ad i9) (D.1 k2) r9.2.2 (D.2 k2) H1 _
            rw [← g5, ← g6]
            exact ho9
          · rw [List.getElem?_set_ne (fun h => hi h.symm)] at hx9
            exact hP1 i9 x9 (by rw [List.getElem?_set_ne (fun h => hi h.symm)]; exact hx9)
        · show va_D A (ij_W P nf cA ad (K.set a (.inl k2)) σ')
          rw [hWe]
          refine ⟨fun i9 j9 x y hx hy hxy => ?_, fun k9 x hx => ?_⟩
          · have hD0 := hD.1 i9 j9
            have tr : ∀ (i9 : Nat) (x : Nat × va_E), ((ij_W P nf cA ad K σ).set a (ad a, .inr (k2, (List.range (nf k2)).map (fun k => ij_v ad (ij_fv P σ' k2 a k)))))[i9]? = some x → ∃ y, (ij_W P nf cA ad K σ)[i9]? = some y ∧ y.1 = x.1 := by
              intro i9 x hx
              by_cases hi : i9 = a
              · subst hi
                rw [List.getElem?_set_self (by have := (List.getElem?_eq_some_iff.mp hKa).1; simpa [ij_W] using this)] at hx
                cases hx
                exact ⟨_, hw, rfl⟩
              · rw [List.getElem?_set_ne (fun h => hi h.symm)] at hx
                exact ⟨x, hx, rfl⟩
            obtain ⟨x', hx', ex⟩ := tr i9 x hx
            obtain ⟨y', hy', ey⟩ := tr j9 y hy
            exact hD0 x' y' hx' hy' (by rw [ex, ey]; exact hxy)
          · by_cases hi : k9 = a
            · subst hi
              rw [List.getElem?_set_self (by have := (List.getElem?_eq_some_iff.mp hKa).1; simpa [ij_W] using this)] at hx
              cases hx
              have h9 := hD.2 k9 _ hw
              exact h9
            · rw [List.getElem?_set_ne (fun h => hi h.symm)] at hx
              exact hD.2 k9 x hx
      have hkn : q.2 < nf ki := by rw [g3]; exact hk
      by_cases hfin : (T9 q.2).2.2.2 = true
      · exact va_putF hx hb hts hin9 (ty q.1) hty hnm hown hK hP hD hS a hw (g1.trans hc) q.2 hk (hts _ hlink) (fun _ h9 => h9) hfin i1 (i3 C T9 _ hc) (hty _ hk) h4 h5 (by simpa using hkn) hd fin
      · exact va_put hx hb hts hin9 (ty q.1) hty hnm hown hK hP hD hS a hw (g1.trans hc) q.2 hk (hts _ hlink) (fun _ h9 => h9) (by simpa using hfin) (hty _ hk) h4 h5 (by simpa using hkn) hd fin
    obtain ⟨t0, hft⟩ : ∃ t0, ij_ft P q.1 q.2 = t0 := ⟨_, rfl⟩
    have hput : iy_put σ a q.2 (ij_ft P q.1 q.2) w = some σ' := hput
    rw [hft] at hput htok g7
    unfold iy_put at hput
    split at hput
    · rename_i x9
      cases hput
      have ht : ty q.1 q.2 = .int := by
        generalize ty q.1 q.2 = t at htok
        cases t <;> first | rfl | cases htok
      refine key (by rw [ht]; rfl) (by rw [ht]; rfl) (fun q' k' hne => ?_) (fun j hj => ?_) ?_
      · cases k' with
        | inl ci => simp only [ij_ce, ij_fv, ij_u_ne hne]
        | inr tn => simp only [ij_ce, ij_u_ne hne]
      · simp only [ij_fv, ij_u_other _ _ _ _ hj, g8 j hj]
      · simp only [ij_fv, g7, ij_u_same]
    · rename_i x9
      cases hput
      have ht : (∃ C, ty q.1 q.2 = .object C) ∨ ∃ t, ty q.1 q.2 = .array t := by
        generalize ty q.1 q.2 = t at htok
        cases t <;> first | exact Or.inl ⟨_, rfl⟩ | exact Or.inr ⟨_, rfl⟩ | cases htok
      refine key (by rcases ht with ⟨_, ht⟩ | ⟨_, ht⟩ <;> rw [ht] <;> rfl) (by rcases ht with ⟨_, ht⟩ | ⟨_, ht⟩ <;> rw [ht] <;> rfl) (fun q' k' hne => ?_) (fun j hj => ?_) ?_
      · cases k' with
        | inl ci => simp only [ij_ce, ij_fv, ij_u_ne hne]
        | inr tn => simp only [ij_ce, ij_u_ne hne]
      · simp only [ij_fv, ij_u_other _ _ _ _ hj, g8 j hj]
      · simp only [ij_fv, g7, ij_u_same]
    · cases hput
  · obtain ⟨hd, -⟩ := hok.1 mi pc _ hdc
    have hst9 : st = .ref a :: r := hst9
    subst hst9
    obtain ⟨h1, h2, h3⟩ := hoky.2.2.2.1 _ _ hpo
    refine W.objInit hx hb hown (hts _ h1) (hts _ h2) (hts _ h3) rfl (hl.1.1.trans hml.symm) rfl hd (by omega) (by show 2 * 0 + _ + 12 ≤ _; rw [ij_cs_map]; omega) ?_
    exact kk ad H locs ls (fun _ _ => rfl) X
  · obtain ⟨hd, -⟩ := hok.1 mi pc _ hdc
    obtain ⟨hlink, hcode, hmr, hini, hins, hnm, hdd, hml40⟩ := hoky.2.2.2.2 _ _ _ hpc
    have hlen : (st.take (ij_mn M j)).length = ij_mn M j := hlen
    have hdr : st.drop (ij_mn M j) = .ref b :: r := hdr
    have hMet := hM3 ad j _ K σ K1 τ hsp hC s.heap.size hA
    have hCB : CallB R s args (cn (ij_mo P mi)) i (my j) (mb j) (ij_ml P j) none (ij_ws P M Ts my mb j) (iy_rm Z j d) (iy_co Z j).1 (iy_co Z j).2 (ij_mn M j) :=
      callB_of (ws' := Ts) (ij_mn M j) hts (fun w hw => by
        rcases List.mem_cons.mp hw with rfl | hw
        · rw [hmr]; exact ⟨hcode, good_of_word (hokm.1 _ hcode)⟩
        · exact hgood w hw) (by unfold ij_ws; rw [hmr]) rfl rfl (hts _ hini) (hts _ hlink) hdd (by refine ⟨hR1, ?_⟩; show 8 + (ij_ml P j + 11) + (64 * d + 1000) ≤ R.locals; omega)
    have hrun := va_runI (p := p) (e := e) (below := below) (meth := meth) (cells := u) (slots := v) (g := F0 m pc ls (st.map (ij_v ad))) (As := ((st.take (ij_mn M j)).reverse).map (ij_v ad)) (rest := r.map (ij_v ad)) (b := ad b) (locs := locs) ⟨hx, hb, hml, hown, hts⟩ hMet ⟨hCB, hnm, hts _ hins⟩ ⟨fun a U g mk q => ⟨ik_blind hst a U g mk q.1, q.2⟩, fun U hU hW => ⟨⟨rfl, by rw [hU]; exact hP, va_K.moved hW.alike hK, hD, hst.2 s U locs hNs hW (by rw [hU]; exact hS)⟩, by rw [hU]; exact hS.1⟩⟩ rfl (by simpa using hlen) hl.1.1 (by
        show st.map (ij_v ad) = _
        rw [← List.map_reverse, List.reverse_reverse]
        have hsp : st = st.take (ij_mn M j) ++ .ref b :: r := by rw [← hdr, List.take_append_drop]
        conv => lhs; rw [hsp]
        simp [ij_v]) (lv_room (by rw [ij_cs_map]; exact hcs)) hd ⟨hf1, hf2⟩
    intro T hT X9
    obtain ⟨v', st₀, t, T', L9, h0, X', hL, e1, e2, ⟨⟨hv, ad1, had, hPt, hDt⟩, hz, hk⟩, stp⟩ := hrun T hT X9
    cases hv
    rw [h0] at hz hk
    have hS1 : va_S A s.heap T'.heap (locs ++ L9) := ⟨Nat.le_trans hS.1 (by rw [e1]; exact hz), fun q h1 h2 => by rw [e1, hk q (Nat.lt_of_lt_of_le h1 hS.1) h2]; exact hS.2.1 q h1 h2, fun q hq => by
      rcases List.mem_append.mp hq with h | h
      · exact hS.2.2 q h
      · exact hL q h⟩
    have hk9 := kk ad1 T'.heap (locs ++ L9) ls had ⟨by rw [e1]; exact hPt, hDt, hS1, iy_lh_same (c := (pc, L, r, σ)) hwf had hl⟩
    have hs9 : r.map (ij_v ad1) = r.map (ij_v ad) := iy_st_same (c := (pc, L, r, σ)) hwf had
    have hk9 : W p l e R s m args below meth c T'.heap (locs ++ L9) (u + (iy_co Z j).1) (v + (iy_co Z j).2) Q (F0 m (pc + 3) ls (r.map (ij_v ad))) := by rw [← hs9]; exact hk9
    obtain ⟨t2, a1, b1⟩ := hk9 T' rfl X'
    exact ⟨t2, stp t2 a1, b1⟩
  · obtain ⟨hd, -⟩ := hok.1 mi pc _ hdc
    have hst9 : st = .int i :: .ref 1000 :: r := hst9
    subst hst9
    obtain ⟨x1, x2, x3⟩ := hX SL xs hSX
    have e9 : ad 1000 = a0 1000 := hsp 1000 (Nat.le_refl _)
    have := va_sld (rest := r.map (ij_v ad)) hx hb x1 x2 x3 hS hz hd (kk ad H locs ls (fun _ _ => rfl) X)
    rw [← e9] at this
    exact this
  · obtain ⟨hd, -⟩ := hok.1 mi pc _ hdc
    have hst9 : st = .ref 1000 :: r := hst9
    subst hst9
    obtain ⟨x1, x2, x3⟩ := hX SL xs hSX
    have e9 : ad 1000 = a0 1000 := hsp 1000 (Nat.le_refl _)
    have := va_slen (rest := r.map (ij_v ad)) hx hb x1 x2 x3 hS hd (kk ad H locs ls (fun _ _ => rfl) X)
    rw [← e9] at this
    exact this
  · exact kk ad H locs ls (fun _ _ => rfl) ⟨hP, hD, hS, hl.1, fun i w hi => hl.2 i w (hL i w hi)⟩
  · obtain ⟨hd, -⟩ := hok.1 mi pc _ hdc
    have hst9 : st = .ref a :: r := hst9
    subst hst9
    obtain ⟨C, T9, hc, hk, hlink, hin9, hty, hnm, -, htok⟩ := hok.2.1 _ _ _ hpf
    obtain ⟨g1, g2, g3, g4, g5, g6, g7, g8⟩ := hoky.2.2.1 ki k0 k2 q.1 hkc hnk
    have hw := ij_W_get (P := P) (nf := nf) (cA := cA) (ad := ad) (σ := σ) hKa
    have hkn : q.2 < nf ki := by rw [g3]; exact hk
    exact va_get (v := ij_v ad (ij_fv P σ ki a q.2)) hx hb hts hin9 hown hK hP a hw (g1.trans hc) q.2 hk (hts _ hlink) (fun _ h9 => h9) (by simp [hkn]) hd (kk ad H locs ls (fun _ _ => rfl) X)
/-- from here to there, in n turns -/
def iy_to (P : ij_P) (M : ij_M) (T : ix_T) (Z : iy_D) (nf : Nat → Nat) (RC RS : Nat) (C1 : ij_Ks → ij_R) (C2 : ij_Ks → ix_R) (C3 : iy_R) (S : Option (Nat × (Nat → Int32))) (mi : Nat) : Nat → Nat → Nat → ij_Ks → ij_C → Nat → Nat → ij_Ks → ij_C → Prop
  | 0, u, v, K, q, u', v', K', q' => u = u' ∧ v = v' ∧ K = K' ∧ q = q'
  | n + 1, u, v, K, q, u', v', K', q' => ∃ u1 v1 K1 q1, K.length ≤ K1.length ∧ iy_st P M T Z nf RC RS C1 C2 C3 S mi u v K q u1 v1 K1 q1 ∧ iy_to P M T Z nf RC RS C1 C2 C3 S mi n u1 v1 K1 q1 u' v' K' q'
set_option maxHeartbeats 4000000 in
theorem iy_toW (hst : ik_stays N A) (hNs : N s) {C1 : ij_Ks → ij_R} {C2 : ij_Ks → ix_R} {C3 : iy_R} {d : Nat} (hM1 : ∀ ad K, (∀ p, 1000 ≤ p → ad p = a0 p) → ik_known N l P M Ts cl nf my mb D cA ad K A (C1 K) d) (hM2 : ∀ ad K, (∀ p, 1000 ≤ p → ad p = a0 p) → ix_known N l P M T Ts cl nf my mb D cA ad K A (C2 K) d) (hM3 : iy_known a0 N l P M Z Ts cl nf my mb D cA A C3 d)
    (hokm : ix_okm P M T N A Ts cl cn my mb) (hoky : iy_okm P M Z Ts cl nf ty cn my mb D) (hR1 : d + 21 ≤ R.frames) (hR2 : 64 * d + 1064 ≤ R.locals) (hml : c.maxLocals = ij_ml P mi) (hA : ∀ q, s.heap.size ≤ q → A q) (hin : ∀ i q, ij_pf P (ij_mo P mi) i = some q → q.1 = ij_mo P mi → meth.name = "<init>" ∧ ∀ C T N9, cl[q.1]? = some (C, T, N9) → (T q.2).1 = cn (ij_mo P mi))
    (hX : ∀ SL xs, S = some (SL, xs) → va_X (a0 1000) SL xs s s.heap ∧ a0 1000 < s.heap.size ∧ ¬ A (a0 1000)) (F : ij_fix p s m args c P Ts cl nf ty cn mb D cA mi) : ∀ (n u v : Nat) (K : ij_Ks) (q : ij_C) (u' v' : Nat) (K' : ij_Ks) (q' : ij_C), iy_to P M T Z nf R.cells R.slots C1 C2 C3 S mi n u v K q u' v' K' q' → ∀ (ad : Nat → Nat), (∀ p, 1000 ≤ p → ad p = a0 p) → ∀ (H : Heap) (locs : List Loc) (ls : Array Slot), ij_at P cl nf D cA ad K A s.heap (ij_ml P mi) q.2.1 q.2.2.2 H locs ls →
    (∀ (ad1 : Nat → Nat) (H : Heap) (locs : List Loc) (ls : Array Slot), (∀ p, p < K.length ∨ 1000 ≤ p → ad1 p = ad p) → ij_at P cl nf D cA ad1 K' A s.heap (ij_ml P mi) q'.2.1 q'.2.2.2 H locs ls → W p l e R s m args below meth c H locs u' v' Q (F0 m q'.1 ls (q'.2.2.1.map (ij_v ad1)))) →
    W p l e R s m args below meth c H locs u v Q (F0 m q.1 ls (q.2.2.1.map (ij_v ad))) := by
  intro n
  induction n with
  | zero =>
    intro u v K q u' v' K' q' h ad hsp H locs ls X kk
    obtain ⟨rfl, rfl, rfl, rfl⟩ := h
    exact kk ad H locs ls (fun _ _ => rfl) X
  | succ n ih =>
    intro u v K q u' v' K' q' h ad hsp H locs ls X kk
    obtain ⟨u1, v1, K1, q1, hle, h1, h2⟩ := h
    refine iy_one hst hNs hM1 hM2 hM3 hokm hoky hR1 hR2 hml hA hin hX F h1 hsp X (fun ad1 H1 locs1 ls1 had X1 => ?_)
    exact ih u1 v1 K1 q1 u' v' K' q' h2 ad1 (fun p hp => (had p (Or.inr hp)).trans (hsp p hp)) H1 locs1 ls1 X1 (fun ad2 H2 locs2 ls2 had2 X2 => kk ad2 H2 locs2 ls2 (fun p hp => (had2 p (hp.imp (fun q => Nat.lt_of_lt_of_le q hle) id)).trans (had p hp)) X2)
/-- constructors called at most d deep -/
def iy_cr (P : ij_P) (M : ij_M) (T : ix_T) (Z : iy_D) (nf : Nat → Nat) (G : Nat → Bool) (C1 : Nat → ij_Ks → ij_R) (C2 : Nat → ij_Ks → ix_R) : Nat → iy_R
  | 0 => fun _ _ _ _ _ _ => False
  | d + 1 => fun j as K σ K' τ => G j = true ∧ (lg_sl as).length ≤ ij_ml P j ∧ ∃ n u' v' pc L, iy_to P M T Z nf (iy_co Z j).1 (iy_co Z j).2 (C1 d) (C2 d) (iy_cr P M T Z nf G C1 C2 d) none j n 0 0 K (0, ij_in as (ij_ml P j), [], σ) u' v' K' (pc, L, [], τ) ∧ ij_dc P j pc = some (.return_, 1) ∧ u' ≤ (iy_co Z j).1 ∧ v' ≤ (iy_co Z j).2
set_option maxHeartbeats 4000000 in
set_option maxRecDepth 100000 in
/-- EVERY CONSTRUCTOR OF THE PURE PICTURE IS A CONTRACT OF THE MACHINE -/
theorem iy_met (hst : ik_stays N A) {C1 : Nat → ij_Ks → ij_R} {C2 : Nat → ij_Ks → ix_R} (hM1 : ∀ d ad K, (∀ p, 1000 ≤ p → ad p = a0 p) → ik_known N l P M Ts cl nf my mb D cA ad K A (C1 d K) d) (hM2 : ∀ d ad K, (∀ p, 1000 ≤ p → ad p = a0 p) → ix_known N l P M T Ts cl nf my mb D cA ad K A (C2 d K) d) (hok : ij_ok P Ts cl nf ty cn mb) (hokm : ix_okm P M T N A Ts cl cn my mb) (hoky : iy_okm P M Z Ts cl nf ty cn my mb D)
    {G : Nat → Bool} (hcj : ∀ j, G j = true → plainName (my j).cls = true ∧ cn (ij_mo P j) = (my j).cls ∧ ij_mr M j = none ∧ (my j).name = "<init>" ∧ ∀ i q, ij_pf P (ij_mo P j) i = some q → q.1 = ij_mo P j → ∀ C T N9, cl[q.1]? = some (C, T, N9) → (T q.2).1 = cn (ij_mo P j)) :
    ∀ d, iy_known a0 N l P M Z Ts cl nf my mb D cA A (iy_cr P M T Z nf G C1 C2 d) d := by
  intro d
  induction d with
  | zero => intro ad j as K σ K' τ _ h; exact h.elim
  | succ d ih =>
    intro ad j as K σ K' τ hsp h sz hA0
    obtain ⟨hG, hlen, n, u', v', pc, L, hto, hret, hu, hv9⟩ := h
    obtain ⟨hpl, hcn, hmr, hnm, hpf⟩ := hcj _ hG
    refine Met.ofW (cc := mb j) (maxL := ij_ml P j) (ret := ij_mr M j) hpl rfl ?_
    intro p e s m args below meth c s₁ B hml hv
    obtain ⟨⟨rfl, hP, hK, hD, hN⟩, hsz⟩ := hv
    have hts : ∀ w ∈ Ts, w.before ((as.map (ij_v ad)).toArray) s = true := fun w hw => atoms_spec (ws := ij_ws P M Ts my mb j) B.pre w (List.mem_cons_of_mem _ hw)
    have hown : s.vm.findClass (my j).cls = some m.cls := findClass_of_methodNamed B.named
    have hin : meth.name = "<init>" := ((name_of_methodNamed B.named B.method).1).trans hnm
    have hl := lv_entry (as.map (ij_v ad)) (n := ij_ml P j) (by rw [ij_sl]; exact hlen)
    rw [lg_entry_eq]
    refine iy_toW hst hN (hM1 d) (hM2 d) ih hokm hoky (Nat.le_refl _) (by show 64 * d + 1064 ≤ 64 * (d + 1) + 1000; omega) hml (fun q hq => hA0 q (Nat.le_trans hsz hq)) (fun i q h1 h2 => ⟨hin, hpf i q h1 h2⟩) (fun _ _ h9 => by cases h9) ⟨hok, B.exec, B.bytes, hts, by rw [hcn]; exact hown, hK⟩ n 0 0 K (0, ij_in as (ij_ml P j), [], σ) u' v' K' (pc, L, [], τ) hto ad hsp s.heap [] _ ⟨hP, hD, va_S.rf, ij_lh_in hl⟩ (fun ad1 H1 locs1 ls1 had X1 => ?_)
    obtain ⟨hP1, hD1, hS1, hl1⟩ := X1
    refine W.widen hu hv9 ?_
    exact W.vret B.exec B.bytes (B.returns.trans hmr) (fun t ht hW => ⟨⟨rfl, ad1, had, by rw [ht]; exact hP1, hD1⟩, hS1.F ht⟩) hS1.2.2 (hok.1 j pc _ hret).1 B.notSynchronized
end IYW
