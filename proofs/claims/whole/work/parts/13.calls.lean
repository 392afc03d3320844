/-! ===== runs and calls of the pure picture, and that they are runs of the machine ===== -/
/-- a method called: arguments, state before, answer, state behind -/
abbrev ij_R : Type := Nat → List Value → ij_S → Option Value → ij_S → Prop
/-- methods by the pool of a kind; whether static; how many arguments; what it answers -/
abbrev ij_M : Type := (Nat → Nat → Option Nat) × (Nat → Bool) × (Nat → Nat) × (Nat → Option FieldType)
abbrev ij_pm (M : ij_M) := M.1
abbrev ij_ms (M : ij_M) := M.2.1
abbrev ij_mn (M : ij_M) := M.2.2.1
abbrev ij_mr (M : ij_M) := M.2.2.2
def ij_cs (st : List Value) : Nat := (st.map fun v => v.category).sum
def ij_cv (P : ij_P) (K : ij_Ks) (j : Nat) (as st : List Value) : Option (Nat × List Value × List Value) := match st with
  | .ref b :: r => if ij_obj K b (ij_mo P j) = true ∧ ij_cs r ≤ 8 then some (j, .ref b :: as, r) else none
  | _ => none
def ij_cal (P : ij_P) (M : ij_M) (K : ij_Ks) (mi : Nat) (st : List Value) : Instr → Option (Nat × List Value × List Value)
  | .invokevirtual i => (ij_pm M (ij_mo P mi) i).bind (fun j => if ij_ms M j = false ∧ (st.take (ij_mn M j)).length = ij_mn M j then ij_cv P K j (st.take (ij_mn M j)).reverse (st.drop (ij_mn M j)) else none)
  | .invokestatic i => (ij_pm M (ij_mo P mi) i).bind (fun j => if ij_ms M j = true ∧ (st.take (ij_mn M j)).length = ij_mn M j ∧ ij_cs (st.drop (ij_mn M j)) ≤ 8 then some (j, (st.take (ij_mn M j)).reverse, st.drop (ij_mn M j)) else none)
  | _ => none
def ij_rti (t : Option FieldType) (v : Int32) : Prop := match t with
  | some .int => True
  | some .boolean => v = 0 ∨ v = 1
  | _ => False
def ij_ret (M : ij_M) (mi : Nat) (st : List Value) : Instr → Option (Prop × Option Value)
  | .ireturn => match st with
    | [.int v] => some (ij_rti (ij_mr M mi) v, some (.int v))
    | _ => none
  | .lreturn => match st with
    | [.long v] => some (ij_mr M mi = some .long, some (.long v))
    | _ => none
  | .return_ => match st with
    | [] => some (ij_mr M mi = none, none)
    | _ => none
  | _ => none
/-- from c in n turns to the answer v in the state τ -/
def ij_ev (P : ij_P) (M : ij_M) (K : ij_Ks) (C : ij_R) (mi : Nat) : Nat → ij_C → Option Value → ij_S → Prop
  | 0, _, _, _ => False
  | n + 1, c, v, τ => (∃ b x z, ij_dc P mi c.1 = some x ∧ ij_ins P K mi b c.1 c.2.1 c.2.2.1 c.2.2.2 x.1 = some z ∧ ij_all z.1 ∧ ij_ev P M K C mi n z.2 v τ) ∨
      (∃ x j as r w σ', ij_dc P mi c.1 = some x ∧ ij_cal P M K mi c.2.2.1 x.1 = some (j, as, r) ∧ C j as c.2.2.2 w σ' ∧ ij_ev P M K C mi n (c.1 + 3, c.2.1, w.toList ++ r, σ') v τ) ∨
      (∃ x z, ij_dc P mi c.1 = some x ∧ ij_ret M mi c.2.2.1 x.1 = some z ∧ z.1 ∧ z.2 = v ∧ τ = c.2.2.2) ∨
      (∃ L : ij_L, (∀ i w, ij_get L i = some w → ij_get c.2.1 i = some w) ∧ ij_ev P M K C mi n (c.1, L, c.2.2.1, c.2.2.2) v τ)
/-- calls that go at most d deep; X: what is known of others -/
def ij_cr (P : ij_P) (M : ij_M) (K : ij_Ks) (X : ij_R) : Nat → ij_R
  | 0 => fun _ _ _ _ _ => False
  | d + 1 => fun j as σ v τ => X j as σ v τ ∨ ((lg_sl as).length ≤ ij_ml P j ∧ ∃ n, ij_ev P M K (ij_cr P M K X d) j n (0, ij_in as (ij_ml P j), [], σ) v τ)
/-- what the tables say of the methods -/
def ij_okm (P : ij_P) (M : ij_M) (Ts : List Cond) (cl : List vw_C) (cn : Nat → String) (my : Nat → MethodName) (mb : Nat → ByteArray) : Prop :=
  (∀ w ∈ Ts, goodWord w = true) ∧
  (∀ o i j, ij_pm M o i = some j → Cond.methodLink (cn o) i (my j) ∈ Ts ∧ Cond.code (my j) (mb j) (ij_ml P j) (ij_mr M j) ∈ Ts ∧ Cond.initialized (my j).cls ∈ Ts ∧ (ij_ms M j = true → Cond.static (my j) ∈ Ts) ∧ (ij_ms M j = false → Cond.instanceMethod (my j) ∈ Ts ∧ Cond.selects (my j).cls (my j) (my j) ∈ Ts ∧ ∃ q : vw_C, cl[ij_mo P j]? = some q ∧ q.1 = (my j).cls) ∧
    ((my j).cls ≠ "java/lang/invoke/MethodHandle" ∧ (my j).cls ≠ "java/lang/invoke/VarHandle" ∧ (parseMethodDescriptor (my j).desc).map (fun d => d.parameters.length) = some (ij_mn M j)) ∧ ij_ml P j ≤ 40) ∧
  (∀ mi x, ij_dc P mi 0 = some x → plainName (my mi).cls = true ∧ cn (ij_mo P mi) = (my mi).cls)
def ij_rm (d : Nat) : Room := { frames := d + 8, cells := 0, slots := 0, locals := 64 * d + 600 }
def ij_ws (P : ij_P) (M : ij_M) (Ts : List Cond) (my : Nat → MethodName) (mb : Nat → ByteArray) (j : Nat) : List Cond := Cond.code (my j) (mb j) (ij_ml P j) (ij_mr M j) :: Ts
def ij_Pc (P : ij_P) (cl : List vw_C) (nf : Nat → Nat) (D : va_G) (cA : Nat → ClassId) (ad : Nat → Nat) (K : ij_Ks) (A : Nat → Prop) (as : List Value) (σ : ij_S) : Array Value → State → Prop :=
  va_Pc (as.map (ij_v ad)) (fun U => va_P D cl (ij_W P nf cA ad K σ) U.heap ∧ va_K D cl [(cA 0, .int), (cA 1, .long), (cA 2, .boolean)] U ∧ va_D A (ij_W P nf cA ad K σ))
def ij_Qc (P : ij_P) (cl : List vw_C) (nf : Nat → Nat) (D : va_G) (cA : Nat → ClassId) (ad : Nat → Nat) (K : ij_Ks) (A : Nat → Prop) (v : Option Value) (τ : ij_S) : Array Value → State → Outcome → State → Prop :=
  fun _ st oc t => (oc = .returned (v.map (ij_v ad)) ∧ va_P D cl (ij_W P nf cA ad K τ) t.heap ∧ va_D A (ij_W P nf cA ad K τ)) ∧ va_F A st t
section IJC
variable {p : Program} {l : Launch} {e : Env} {R : Room} {s : State} {m : MethodId} {args : Array Value} {below : List Frame} {meth : Method} {c : Code} {cells slots : Nat} {Q : State → Prop}
variable {P : ij_P} {M : ij_M} {Ts : List Cond} {cl : List vw_C} {nf : Nat → Nat} {ty : Nat → Nat → FieldType} {cn : Nat → String} {my : Nat → MethodName} {mb : Nat → ByteArray}
variable {D : va_G} {cA : Nat → ClassId} {ad : Nat → Nat} {K : ij_Ks} {A : Nat → Prop} {H0 : Heap} {mi : Nat}
theorem ij_callW {H : Heap} {locs : List Loc} {pc : Nat} {ls : Array Slot} {st0 rest : List Value} {v : Option Value} {τ : ij_S} {a : Array Value}
    (hr : va_Run p l e R s m args below meth c H locs cells slots 0 0 (F0 m pc ls st0) rest (ij_Qc P cl nf D cA ad K A v τ a) A) (hS : va_S A H0 H locs)
    (kk : ∀ (H1 : Heap) (locs1 : List Loc), va_P D cl (ij_W P nf cA ad K τ) H1 → va_D A (ij_W P nf cA ad K τ) → va_S A H0 H1 locs1 → W p l e R s m args below meth c H1 locs1 cells slots Q (F0 m (pc + 3) ls ((v.map (ij_v ad)).toList ++ rest))) :
    W p l e R s m args below meth c H locs cells slots Q (F0 m pc ls st0) := by
  intro T hT X
  obtain ⟨v', st₀, t, T', L, h0, X', hL, e1, e2, ⟨⟨hv, hPt, hDt⟩, hz, hk⟩, st⟩ := hr T hT X
  cases hv
  rw [h0] at hz hk
  obtain ⟨t2, a1, b1⟩ := kk T'.heap (locs ++ L) (by rw [e1]; exact hPt) hDt
    ⟨Nat.le_trans hS.1 (by rw [e1]; exact hz), fun q h1 h2 => by rw [e1, hk q (Nat.lt_of_lt_of_le h1 hS.1) h2]; exact hS.2.1 q h1 h2, fun q hq => by
      rcases List.mem_append.mp hq with h | h
      · exact hS.2.2 q h
      · exact hL q h⟩ T' rfl X'
  exact ⟨t2, st t2 a1, b1⟩
theorem ij_blind {as : List Value} {σ : ij_S} : FrameBlind (ij_Pc P cl nf D cA ad K A as σ) := fun a U g mk q => by
  obtain ⟨q0, qP, qK, qD⟩ := q
  exact ⟨q0, qP, va_K.moved (u := U) (U := U.calling g mk a) (Vm.Alike.refl U.vm) qK, qD⟩
theorem ij_args (ad : Nat → Nat) : ∀ (as : List Value) (i : Nat), lv_args i (as.map (ij_v ad)) = (lv_args i as).map (fun q => (q.1, ij_v ad q.2)) := by
  intro as
  induction as with
  | nil => intro i; rfl
  | cons v vs ih =>
    intro i
    show (i, ij_v ad v) :: lv_args (if (ij_v ad v).category = 2 then i + 2 else i + 1) (vs.map (ij_v ad)) = (i, ij_v ad v) :: (lv_args (if v.category = 2 then i + 2 else i + 1) vs).map (fun q => (q.1, ij_v ad q.2))
    rw [ij_v_cat, ih]
theorem ij_lh_in {ls : Array Slot} {nL n : Nat} {as : List Value} (h : lv_has ls nL (lv_args 0 (as.map (ij_v ad)))) : ij_lh ls nL ad (ij_in as n) := by
  refine ⟨⟨h.1, h.2.1, fun q hq => by cases hq⟩, fun i v hi => ?_⟩
  have h1 := ij_ent_args as 0 i v (ij_get_app_none _ _ _ _ hi)
  rw [ij_args] at h
  rw [Nat.zero_add] at h1
  exact h.2.2 (i, ij_v ad v) (List.mem_map.mpr ⟨(i, v), h1, rfl⟩)
theorem ij_sl (ad : Nat → Nat) (as : List Value) : (lg_sl (as.map (ij_v ad))).length = (lg_sl as).length := by
  induction as with
  | nil => rfl
  | cons v vs ih =>
    have h1 : lg_sl (v :: vs) = (if v.category = 2 then [Slot.val v, .second] else [.val v]) ++ lg_sl vs := rfl
    have h2 : lg_sl ((v :: vs).map (ij_v ad)) = (if (ij_v ad v).category = 2 then [Slot.val (ij_v ad v), .second] else [.val (ij_v ad v)]) ++ lg_sl (vs.map (ij_v ad)) := rfl
    rw [h1, h2, List.length_append, List.length_append, ih, ij_v_cat]
    by_cases hv : v.category = 2 <;> simp [hv]
theorem ij_cs_map (ad : Nat → Nat) (st : List Value) : ((st.map (ij_v ad)).map fun v => v.category).sum = ij_cs st := by
  unfold ij_cs
  rw [List.map_map]
  congr 1
  apply List.map_congr_left
  intro v _
  exact ij_v_cat ad v
/-- what a known call is: a contract of the machine, d deep -/
def ij_known (l : Launch) (P : ij_P) (M : ij_M) (Ts : List Cond) (cl : List vw_C) (nf : Nat → Nat) (my : Nat → MethodName) (mb : Nat → ByteArray) (D : va_G) (cA : Nat → ClassId) (ad : Nat → Nat) (K : ij_Ks) (A : Nat → Prop) (C : ij_R) (d : Nat) : Prop :=
  ∀ j as σ v τ, C j as σ v τ → Met l (my j) (ij_ws P M Ts my mb j) (ij_rm d) (ij_Pc P cl nf D cA ad K A as σ) (ij_Qc P cl nf D cA ad K A v τ) 0 0 A
set_option maxHeartbeats 4000000 in
set_option maxRecDepth 100000 in
theorem ij_evW {C : ij_R} {d : Nat} (hM : ij_known l P M Ts cl nf my mb D cA ad K A C d) (hokm : ij_okm P M Ts cl cn my mb) (hR : R = ij_rm (d + 1)) (hr : meth.sig.returnType = ij_mr M mi) (hlk : meth.locks = false) (hml : c.maxLocals = ij_ml P mi)
    (F : ij_fix p s m args c P Ts cl nf ty cn mb D cA mi) : ∀ (n : Nat) (q : ij_C) (v : Option Value) (τ : ij_S), ij_ev P M K C mi n q v τ →
    ∀ (H : Heap) (locs : List Loc) (ls : Array Slot), ij_at P cl nf D cA ad K A s.heap (ij_ml P mi) q.2.1 q.2.2.2 H locs ls →
      W p l e R s m args below meth c H locs 0 0 (MQ below (ij_Qc P cl nf D cA ad K A v τ) args s 0 0 A) (F0 m q.1 ls (q.2.2.1.map (ij_v ad))) := by
  intro n
  induction n with
  | zero => intro q v τ h; exact h.elim
  | succ n ih =>
    intro q v τ h H locs ls X
    obtain ⟨pc, L, st, σ⟩ := q
    rcases h with ⟨b, ⟨ins, len⟩, z, hdc, hs, hz, hn⟩ | ⟨⟨ins, len⟩, j, as, r, w, σ', hdc, hc, hC, hn⟩ | ⟨⟨ins, len⟩, z, hdc, hs, hz, hv, hτ⟩ | ⟨L', hL, hn⟩
    · exact ij_one F hdc hs hz X (fun H locs ls X => ih z.2 v τ hn H locs ls X)
    · obtain ⟨hok, hx, hb, hts, hown, hK⟩ := id F
      obtain ⟨hd, hlk2⟩ := hok.1 mi pc _ hdc
      obtain ⟨hP, hD, hS, hl⟩ := id X
      have hgood : GoodIn Ts Ts := fun w hw => ⟨hw, good_of_word (hokm.1 w hw)⟩
      have hMet := hM j as σ w σ' hC
      have next : ∀ (H1 : Heap) (locs1 : List Loc), va_P D cl (ij_W P nf cA ad K σ') H1 → va_D A (ij_W P nf cA ad K σ') → va_S A s.heap H1 locs1 → W p l e R s m args below meth c H1 locs1 0 0 (MQ below (ij_Qc P cl nf D cA ad K A v τ) args s 0 0 A) (F0 m (pc + 3) ls ((w.map (ij_v ad)).toList ++ r.map (ij_v ad))) := by
        intro H1 locs1 hP1 hD1 hS1
        have := ih (pc + 3, L, w.toList ++ r, σ') v τ hn H1 locs1 ls ⟨hP1, hD1, hS1, hl⟩
        have he : (w.map (ij_v ad)).toList ++ r.map (ij_v ad) = (w.toList ++ r).map (ij_v ad) := by cases w <;> simp
        rw [he]
        exact this
      cases ins with
      | invokevirtual i =>
        obtain rfl := ij_beq hlk2
        obtain ⟨j', hj, hc⟩ := ij_bind hc
        split at hc
        · rename_i hcond
          unfold ij_cv at hc
          split at hc
          · rename_i b r' hst
            split at hc
            · rename_i hcond2
              obtain ⟨rfl, rfl, rfl⟩ : j' = j ∧ .ref b :: (st.take (ij_mn M j')).reverse = as ∧ r' = r := by
                have := Option.some.inj hc
                exact ⟨congrArg Prod.fst this, congrArg (fun z => z.2.1) this, congrArg (fun z => z.2.2) this⟩
              obtain ⟨hlink, hcode, hini, -, hinst, hdd, hml40⟩ := hokm.2.1 _ _ _ hj
              obtain ⟨hins, hsel, qC, hqC, hqn⟩ := hinst hcond.1
              have hw := ij_W_get (P := P) (nf := nf) (cA := cA) (ad := ad) (σ := σ) (ij_obj_ok hcond2.1)
              have hrecv := va_recv hK hP hqC hw
              rw [hqn] at hrecv
              have hCB : CallB R s args (cn (ij_mo P mi)) i (my j') (mb j') (ij_ml P j') (ij_mr M j') (ij_ws P M Ts my mb j') (ij_rm d) 0 0 (ij_mn M j') :=
                callB_of (ws' := Ts) (ij_mn M j') hts (fun w hw => by
                  rcases List.mem_cons.mp hw with rfl | hw
                  · exact ⟨hcode, good_of_word (hokm.1 _ hcode)⟩
                  · exact hgood w hw) rfl rfl rfl (hts _ hini) (hts _ hlink) hdd (by rw [hR]; refine ⟨(by show d + 8 + 1 ≤ d + 1 + 8; omega), ?_⟩; show 8 + (ij_ml P j' + 11) + (64 * d + 600) ≤ 64 * (d + 1) + 600; omega)
              refine ij_callW (va_runV (As := ((st.take (ij_mn M j')).reverse).map (ij_v ad)) (rest := r'.map (ij_v ad)) ⟨hx, hb, hml, hown, hts⟩ hMet ⟨hCB, hts _ hins, hts _ hsel⟩ ⟨ij_blind, hrecv, fun U hU hW => ⟨rfl, by rw [hU]; exact hP, va_K.moved hW.alike hK, hD⟩⟩ rfl (by simpa using hcond.2) hl.1.1 ?_ (lv_room (by rw [ij_cs_map]; exact hcond2.2)) hd ⟨by rw [hR]; exact Nat.le_refl _, by rw [hR]; exact Nat.le_refl _⟩) hS next
              show st.map (ij_v ad) = _
              rw [← List.map_reverse, List.reverse_reverse]
              have hsp : st = st.take (ij_mn M j') ++ .ref b :: r' := by rw [← hst, List.take_append_drop]
              conv => lhs; rw [hsp]
              simp [ij_v]
            · cases hc
          · cases hc
        · cases hc
      | invokestatic i =>
        obtain rfl := ij_beq hlk2
        obtain ⟨j', hj, hc⟩ := ij_bind hc
        split at hc
        · rename_i hcond
          obtain ⟨rfl, rfl, rfl⟩ : j' = j ∧ (st.take (ij_mn M j')).reverse = as ∧ st.drop (ij_mn M j') = r := by
            have := Option.some.inj hc
            exact ⟨congrArg Prod.fst this, congrArg (fun z => z.2.1) this, congrArg (fun z => z.2.2) this⟩
          obtain ⟨hlink, hcode, hini, hstat, -, hdd, hml40⟩ := hokm.2.1 _ _ _ hj
          have hCB : CallB R s args (cn (ij_mo P mi)) i (my j') (mb j') (ij_ml P j') (ij_mr M j') (ij_ws P M Ts my mb j') (ij_rm d) 0 0 (ij_mn M j') :=
            callB_of (ws' := Ts) (ij_mn M j') hts (fun w hw => by
              rcases List.mem_cons.mp hw with rfl | hw
              · exact ⟨hcode, good_of_word (hokm.1 _ hcode)⟩
              · exact hgood w hw) rfl rfl rfl (hts _ hini) (hts _ hlink) hdd (by rw [hR]; refine ⟨(by show d + 8 + 1 ≤ d + 1 + 8; omega), ?_⟩; show 8 + (ij_ml P j' + 11) + (64 * d + 600) ≤ 64 * (d + 1) + 600; omega)
          refine ij_callW (va_runS (As := ((st.take (ij_mn M j')).reverse).map (ij_v ad)) (rest := (st.drop (ij_mn M j')).map (ij_v ad)) ⟨hx, hb, hml, hown, hts⟩ hMet ⟨hCB, hts _ (hstat hcond.1)⟩ ⟨ij_blind, fun U hU hW => ⟨rfl, by rw [hU]; exact hP, va_K.moved hW.alike hK, hD⟩⟩ rfl (by simpa using hcond.2.1) hl.1.1 ?_ (lv_room (by rw [ij_cs_map]; exact hcond.2.2)) hd ⟨by rw [hR]; exact Nat.le_refl _, by rw [hR]; exact Nat.le_refl _⟩) hS next
          show st.map (ij_v ad) = _
          rw [← List.map_reverse, List.reverse_reverse, ← List.map_append, List.take_append_drop]
        · cases hc
      | _ => cases hc
    · obtain ⟨hok, hx, hb, hts, hown, hK⟩ := id F
      obtain ⟨hd, hlk2⟩ := hok.1 mi pc _ hdc
      obtain ⟨hP, hD, hS, hl⟩ := id X
      subst hv
      subst hτ
      cases ins with
      | ireturn =>
        obtain rfl := ij_beq hlk2
        unfold ij_ret at hs
        dsimp only at hs
        split at hs
        · rename_i x
          obtain rfl := Option.some.inj hs
          have hz : ij_rti (ij_mr M mi) x := hz
          have hq : ∀ t : State, t.heap = H → s.WarmedH t.vm → ij_Qc P cl nf D cA ad K A (some (.int x)) τ args s (.returned (some (.int x))) t := fun t ht hW => ⟨⟨rfl, by rw [ht]; exact hP, hD⟩, hS.F ht⟩
          unfold ij_rti at hz
          split at hz
          · rename_i hrt
            exact W.iret hx hb (hr.trans hrt) hq hS.2.2 hd hlk
          · rename_i hrt
            exact W.zret hx hb (hr.trans hrt) (by rcases hz with rfl | rfl <;> rfl) hq hS.2.2 hd hlk
          · exact hz.elim
        · cases hs
      | lreturn =>
        obtain rfl := ij_beq hlk2
        unfold ij_ret at hs
        dsimp only at hs
        split at hs
        · rename_i x
          obtain rfl := Option.some.inj hs
          have hq : ∀ t : State, t.heap = H → s.WarmedH t.vm → ij_Qc P cl nf D cA ad K A (some (.long x)) τ args s (.returned (some (.long x))) t := fun t ht hW => ⟨⟨rfl, by rw [ht]; exact hP, hD⟩, hS.F ht⟩
          exact W.lret hx hb (hr.trans hz) hq hS.2.2 hd hlk
        · cases hs
      | return_ =>
        obtain rfl := ij_beq hlk2
        unfold ij_ret at hs
        dsimp only at hs
        split at hs
        · obtain rfl := Option.some.inj hs
          have hq : ∀ t : State, t.heap = H → s.WarmedH t.vm → ij_Qc P cl nf D cA ad K A none τ args s (.returned none) t := fun t ht hW => ⟨⟨rfl, by rw [ht]; exact hP, hD⟩, hS.F ht⟩
          exact W.vret hx hb (hr.trans hz) hq hS.2.2 hd hlk
        · cases hs
      | _ => cases hs
    · obtain ⟨hP, hD, hS, hl⟩ := id X
      exact ih (pc, L', st, σ) v τ hn H locs ls ⟨hP, hD, hS, hl.1, fun i w hi => hl.2 i w (hL i w hi)⟩
theorem ij_ev_dc {C : ij_R} {n : Nat} {q : ij_C} {v : Option Value} {τ : ij_S} (h : ij_ev P M K C mi n q v τ) : ∃ x, ij_dc P mi q.1 = some x := by
  induction n generalizing q with
  | zero => exact h.elim
  | succ n ih =>
    rcases h with ⟨b, x, z, hdc, -⟩ | ⟨x, j, as, r, w, σ', hdc, -⟩ | ⟨x, z, hdc, -⟩ | ⟨L', -, hn⟩
    · exact ⟨x, hdc⟩
    · exact ⟨x, hdc⟩
    · exact ⟨x, hdc⟩
    · exact ih (q := (q.1, L', q.2.2.1, q.2.2.2)) hn
set_option maxHeartbeats 4000000 in
set_option maxRecDepth 100000 in
/-- EVERY CALL OF THE PURE PICTURE IS A CONTRACT OF THE MACHINE -/
theorem ij_met {X : ij_R} (hok : ij_ok P Ts cl nf ty cn mb) (hokm : ij_okm P M Ts cl cn my mb) (hX : ∀ d, ij_known l P M Ts cl nf my mb D cA ad K A X (d + 1)) : ∀ d, ij_known l P M Ts cl nf my mb D cA ad K A (ij_cr P M K X d) d := by
  intro d
  induction d with
  | zero => intro j as σ v τ h; exact h.elim
  | succ d ih =>
    intro j as σ v τ h
    rcases h with h | ⟨hlen, n, hn⟩
    · exact hX d j as σ v τ h
    · obtain ⟨x, hdc⟩ := ij_ev_dc hn
      obtain ⟨hpl, hcn⟩ := hokm.2.2 j x hdc
      refine Met.ofW (cc := mb j) (maxL := ij_ml P j) (ret := ij_mr M j) hpl rfl ?_
      intro p e s m args below meth c s₁ B hml hv
      obtain ⟨rfl, hP, hK, hD⟩ := hv
      have hts : ∀ w ∈ Ts, w.before ((as.map (ij_v ad)).toArray) s = true := fun w hw => atoms_spec (ws := ij_ws P M Ts my mb j) B.pre w (List.mem_cons_of_mem _ hw)
      have hown : s.vm.findClass (my j).cls = some m.cls := findClass_of_methodNamed B.named
      have hl := lv_entry (as.map (ij_v ad)) (n := ij_ml P j) (by rw [ij_sl]; exact hlen)
      rw [lg_entry_eq]
      exact ij_evW ih hokm rfl B.returns B.notSynchronized hml ⟨hok, B.exec, B.bytes, hts, by rw [hcn]; exact hown, hK⟩ n (0, ij_in as (ij_ml P j), [], σ) v τ hn s.heap [] _ ⟨hP, hD, va_S.rf, ij_lh_in hl⟩
end IJC
