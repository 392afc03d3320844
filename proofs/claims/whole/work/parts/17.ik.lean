/-! ===== runs and calls, with calls of nest mates, of arraycopy, and premises of the surroundings ===== -/
/-- static methods of nest mates by the pool of a kind; whether a link of the pool is System.arraycopy; places of String constants -/
abbrev ik_E : Type := (Nat → Nat → Option Nat) × (Nat → Nat → Bool) × (Nat → Nat → Option Nat)
abbrev ik_ne (Y : ik_E) := Y.1
abbrev ik_cp (Y : ik_E) := Y.2.1
abbrev ik_sl (Y : ik_E) := Y.2.2
def ik_nes (P : ij_P) (M : ij_M) (Y : ik_E) (mi : Nat) (st : List Value) : Instr → Option (Nat × List Value × List Value)
  | .invokestatic i => (ik_ne Y (ij_mo P mi) i).bind (fun j => if ij_ms M j = true ∧ (st.take (ij_mn M j)).length = ij_mn M j ∧ ij_cs (st.drop (ij_mn M j)) ≤ 8 then some (j, (st.take (ij_mn M j)).reverse, st.drop (ij_mn M j)) else none)
  | _ => none
def ik_uA {α : Type} (f : Nat → Nat → α) (b : Nat) (g : Nat → α) : Nat → Nat → α := fun p k => if p = b then g k else f p k
def ik_cpa (K : ij_Ks) (σ : ij_S) (n dp : Int32) (b : Nat) (sp : Int32) (a : Nat) (r : List Value) : Option (List Prop × List Value × ij_S) := match K[a]?, K[b]? with
  | some (.inr (0, n0)), some (.inr (0, n1)) => some ([¬ sp < 0, ¬ dp < 0, ¬ n < 0, sp.toNatClampNeg + n.toNatClampNeg ≤ n0, dp.toNatClampNeg + n.toNatClampNeg ≤ n1, ij_cs r ≤ 8], r, (σ.1, ik_uA σ.2.1 b (va_cpy (σ.2.1 a) (σ.2.1 b) sp.toNatClampNeg dp.toNatClampNeg n.toNatClampNeg), σ.2.2))
  | some (.inr (1, n0)), some (.inr (1, n1)) => some ([¬ sp < 0, ¬ dp < 0, ¬ n < 0, sp.toNatClampNeg + n.toNatClampNeg ≤ n0, dp.toNatClampNeg + n.toNatClampNeg ≤ n1, ij_cs r ≤ 8], r, (σ.1, σ.2.1, ik_uA σ.2.2 b (va_cpy (σ.2.2 a) (σ.2.2 b) sp.toNatClampNeg dp.toNatClampNeg n.toNatClampNeg)))
  | _, _ => none
def ik_cpy (P : ij_P) (Y : ik_E) (K : ij_Ks) (mi : Nat) (st : List Value) (σ : ij_S) : Instr → Option (List Prop × List Value × ij_S)
  | .invokestatic i => if ik_cp Y (ij_mo P mi) i = true then (match st with
    | .int n :: .int dp :: .ref b :: .int sp :: .ref a :: r => ik_cpa K σ n dp b sp a r
    | _ => none) else none
  | _ => none
/-- from c in n turns to the answer v in the state τ -/
def ik_ev (P : ij_P) (M : ij_M) (Y : ik_E) (K : ij_Ks) (C : ij_R) (mi : Nat) : Nat → ij_C → Option Value → ij_S → Prop
  | 0, _, _, _ => False
  | n + 1, c, v, τ => (∃ b x z, ij_dc P mi c.1 = some x ∧ ij_ins P K mi b c.1 c.2.1 c.2.2.1 c.2.2.2 x.1 = some z ∧ ij_all z.1 ∧ ik_ev P M Y K C mi n z.2 v τ) ∨
      (∃ x j as r w σ', ij_dc P mi c.1 = some x ∧ ij_cal P M K mi c.2.2.1 x.1 = some (j, as, r) ∧ C j as c.2.2.2 w σ' ∧ ik_ev P M Y K C mi n (c.1 + 3, c.2.1, w.toList ++ r, σ') v τ) ∨
      (∃ x z, ij_dc P mi c.1 = some x ∧ ij_ret M mi c.2.2.1 x.1 = some z ∧ z.1 ∧ z.2 = v ∧ τ = c.2.2.2) ∨
      (∃ x j as r w σ', ij_dc P mi c.1 = some x ∧ ik_nes P M Y mi c.2.2.1 x.1 = some (j, as, r) ∧ C j as c.2.2.2 w σ' ∧ ik_ev P M Y K C mi n (c.1 + 3, c.2.1, w.toList ++ r, σ') v τ) ∨
      (∃ x z, ij_dc P mi c.1 = some x ∧ ik_cpy P Y K mi c.2.2.1 c.2.2.2 x.1 = some z ∧ ij_all z.1 ∧ ik_ev P M Y K C mi n (c.1 + 3, c.2.1, z.2.1, z.2.2) v τ) ∨
      (∃ i pl, ij_dc P mi c.1 = some (.ldc i, 2) ∧ ik_sl Y (ij_mo P mi) i = some pl ∧ ik_ev P M Y K C mi n (c.1 + 2, c.2.1, .ref pl :: c.2.2.1, c.2.2.2) v τ) ∨
      (∃ L : ij_L, (∀ i w, ij_get L i = some w → ij_get c.2.1 i = some w) ∧ ik_ev P M Y K C mi n (c.1, L, c.2.2.1, c.2.2.2) v τ)
/-- calls that go at most d deep; X: what is known of others -/
def ik_cr (P : ij_P) (M : ij_M) (Y : ik_E) (K : ij_Ks) (X : ij_R) : Nat → ij_R
  | 0 => fun _ _ _ _ _ => False
  | d + 1 => fun j as σ v τ => X j as σ v τ ∨ ((lg_sl as).length ≤ ij_ml P j ∧ ∃ n, ik_ev P M Y K (ik_cr P M Y K X d) j n (0, ij_in as (ij_ml P j), [], σ) v τ)
/-- what the tables say of the methods -/
def ik_okm (P : ij_P) (M : ij_M) (Y : ik_E) (N : State → Prop) (ad : Nat → Nat) (Ts : List Cond) (cl : List vw_C) (cn : Nat → String) (my : Nat → MethodName) (mb : Nat → ByteArray) : Prop :=
  (∀ w ∈ Ts, goodWord w = true) ∧
  (∀ o i j, ij_pm M o i = some j → Cond.methodLink (cn o) i (my j) ∈ Ts ∧ Cond.code (my j) (mb j) (ij_ml P j) (ij_mr M j) ∈ Ts ∧ Cond.initialized (my j).cls ∈ Ts ∧ (ij_ms M j = true → Cond.static (my j) ∈ Ts) ∧ (ij_ms M j = false → Cond.instanceMethod (my j) ∈ Ts ∧ Cond.selects (my j).cls (my j) (my j) ∈ Ts ∧ ∃ q : vw_C, cl[ij_mo P j]? = some q ∧ q.1 = (my j).cls) ∧
    ((my j).cls ≠ "java/lang/invoke/MethodHandle" ∧ (my j).cls ≠ "java/lang/invoke/VarHandle" ∧ (parseMethodDescriptor (my j).desc).map (fun d => d.parameters.length) = some (ij_mn M j)) ∧ ij_ml P j ≤ 40) ∧
  (∀ mi x, ij_dc P mi 0 = some x → plainFor (my mi) = true ∧ cn (ij_mo P mi) = (my mi).cls) ∧
  (∀ o i j, ik_ne Y o i = some j → (∃ host, ∀ s, N s → va_Nw (.methodLinkNest (cn o) i (my j) host) s) ∧ Cond.code (my j) (mb j) (ij_ml P j) (ij_mr M j) ∈ Ts ∧ Cond.initialized (my j).cls ∈ Ts ∧ Cond.static (my j) ∈ Ts ∧
    ((my j).cls ≠ "java/lang/invoke/MethodHandle" ∧ (my j).cls ≠ "java/lang/invoke/VarHandle" ∧ (parseMethodDescriptor (my j).desc).map (fun d => d.parameters.length) = some (ij_mn M j)) ∧ ij_ml P j ≤ 40) ∧
  (∀ o i, ik_cp Y o i = true → Cond.methodLink (cn o) i arraycopyName ∈ Ts ∧ Cond.native arraycopyName ∈ Ts ∧ Cond.static arraycopyName ∈ Ts ∧ Cond.initialized "java/lang/System" ∈ Ts) ∧
  (∀ o i pl, ik_sl Y o i = some pl → ∀ s, N s → ∃ tx, vk_R (cn o) i tx (ad pl) s)
/-- the surroundings stay as they are while only A is written -/
def ik_stays (N : State → Prop) (A : Nat → Prop) : Prop := (∀ (U : State) (g : JFrame) (mk : MethodId) (a : Array Value), N U → N (U.calling g mk a)) ∧ ∀ (s U : State) (locs : List Loc), N s → s.WarmedH U.vm → va_S A s.heap U.heap locs → N U
def ik_Pc (N : State → Prop) (P : ij_P) (cl : List vw_C) (nf : Nat → Nat) (D : va_G) (cA : Nat → ClassId) (ad : Nat → Nat) (K : ij_Ks) (A : Nat → Prop) (as : List Value) (σ : ij_S) : Array Value → State → Prop :=
  va_Pc (as.map (ij_v ad)) (fun U => va_P D cl (ij_W P nf cA ad K σ) U.heap ∧ va_K D cl [(cA 0, .int), (cA 1, .long), (cA 2, .boolean)] U ∧ va_D A (ij_W P nf cA ad K σ) ∧ N U)
/-- a method of the JDK's own that no entry of the machine's runs instead -/
theorem ik_ofW {l : Launch} {y : MethodName} {ws ws' : List Cond} {rm : Room} {Pc : Array Value → State → Prop} {Qc : Array Value → State → Outcome → State → Prop} {mc ms : Nat} {free : Addr → Prop} {cc : ByteArray} {maxL : Nat} {ret : Option FieldType}
    (hy : plainFor y = true) (hw : ws = Cond.code y cc maxL ret :: ws')
    (body : ∀ p e s m args below meth c s₁, BodyLoose p l y (headSpec ws rm) cc maxL ret e s m args below meth c s₁ → c.maxLocals = maxL → Pc args s →
      W p l e (headSpec ws rm).room s m args below meth c s.heap [] 0 0 (MQ below Qc args s mc ms free) (entryFrame m args maxL)) : Met l y ws rm Pc Qc mc ms free := by
  refine MetFree.of_bodySF (code := cc) (maxLocals := maxL) (ret := ret) hy ?_ ?_
  · intro args s m h hn
    obtain ⟨meth, c, h1, h2, h3, h4, h5, h6, -, -⟩ := Cond.code_spec hn (atoms_spec (ws := ws) h _ (by rw [hw]; exact List.mem_cons_self))
    exact ⟨meth, c, h1, h2, h3, h4, h5, h6⟩
  · intro p e s m args below meth c s₁ B hml hP _
    have hh0 : s₁.heap = s.heap := by rw [B.state]; rfl
    obtain ⟨t, a1, o, b1, b2, b3⟩ := body p e s m args below meth c s₁ B hml hP s₁ hh0 (Stand.of_body B)
    exact ⟨t, o, a1, b1, b2, ⟨b3.1, b3.2⟩⟩
section IKC
variable {p : Program} {l : Launch} {e : Env} {R : Room} {s : State} {m : MethodId} {args : Array Value} {below : List Frame} {meth : Method} {c : Code} {cells slots : Nat} {Q : State → Prop}
variable {P : ij_P} {M : ij_M} {Ts : List Cond} {cl : List vw_C} {nf : Nat → Nat} {ty : Nat → Nat → FieldType} {cn : Nat → String} {my : Nat → MethodName} {mb : Nat → ByteArray}
variable {D : va_G} {cA : Nat → ClassId} {ad : Nat → Nat} {K : ij_Ks} {A : Nat → Prop} {H0 : Heap} {mi : Nat} {Y : ik_E} {N : State → Prop}
theorem ik_blind (hN : ik_stays N A) {as : List Value} {σ : ij_S} : FrameBlind (ik_Pc N P cl nf D cA ad K A as σ) := fun a U g mk q => by
  obtain ⟨q0, qP, qK, qD, qN⟩ := q
  exact ⟨q0, qP, va_K.moved (u := U) (U := U.calling g mk a) (Vm.Alike.refl U.vm) qK, qD, hN.1 U g mk a qN⟩
/-- what a known call is: a contract of the machine, d deep -/
def ik_known (N : State → Prop) (l : Launch) (P : ij_P) (M : ij_M) (Ts : List Cond) (cl : List vw_C) (nf : Nat → Nat) (my : Nat → MethodName) (mb : Nat → ByteArray) (D : va_G) (cA : Nat → ClassId) (ad : Nat → Nat) (K : ij_Ks) (A : Nat → Prop) (C : ij_R) (d : Nat) : Prop :=
  ∀ j as σ v τ, C j as σ v τ → Met l (my j) (ij_ws P M Ts my mb j) (ij_rm d) (ik_Pc N P cl nf D cA ad K A as σ) (ij_Qc P cl nf D cA ad K A v τ) 0 0 A
set_option maxHeartbeats 4000000 in
set_option maxRecDepth 100000 in
theorem ik_evW (hst : ik_stays N A) (hNs : N s) {C : ij_R} {d : Nat} (hM : ik_known N l P M Ts cl nf my mb D cA ad K A C d) (hokm : ik_okm P M Y N ad Ts cl cn my mb) (hR : R = ij_rm (d + 1)) (hr : meth.sig.returnType = ij_mr M mi) (hlk : meth.locks = false) (hml : c.maxLocals = ij_ml P mi)
    (F : ij_fix p s m args c P Ts cl nf ty cn mb D cA mi) : ∀ (n : Nat) (q : ij_C) (v : Option Value) (τ : ij_S), ik_ev P M Y K C mi n q v τ →
    ∀ (H : Heap) (locs : List Loc) (ls : Array Slot), ij_at P cl nf D cA ad K A s.heap (ij_ml P mi) q.2.1 q.2.2.2 H locs ls →
      W p l e R s m args below meth c H locs 0 0 (MQ below (ij_Qc P cl nf D cA ad K A v τ) args s 0 0 A) (F0 m q.1 ls (q.2.2.1.map (ij_v ad))) := by
  intro n
  induction n with
  | zero => intro q v τ h; exact h.elim
  | succ n ih =>
    intro q v τ h H locs ls X
    obtain ⟨pc, L, st, σ⟩ := q
    rcases h with ⟨b, ⟨ins, len⟩, z, hdc, hs, hz, hn⟩ | ⟨⟨ins, len⟩, j, as, r, w, σ', hdc, hc, hC, hn⟩ | ⟨⟨ins, len⟩, z, hdc, hs, hz, hv, hτ⟩ | ⟨⟨ins, len⟩, j, as, r, w, σ', hdc, hc, hC, hn⟩ | ⟨⟨ins, len⟩, z, hdc, hc, hz, hn⟩ | ⟨i, pl, hdc, hsl, hn⟩ | ⟨L', hL, hn⟩
    · exact ij_one F hdc hs hz X (fun H locs ls X => ih z.2 v τ hn H locs ls X)
    · obtain ⟨hok, hx, hb, hts, hown, hK⟩ := id F
      obtain ⟨hd, hlk2⟩ := hok.1 mi pc _ hdc
      obtain ⟨hP, hD, hS, hl⟩ := id X
      have hgood : GoodIn Ts Ts := fun w hw => ⟨hw, good_of_word (hokm.1 w hw)⟩
      have hMet := hM j as σ w σ' hC
      have next : ∀ (H1 : Heap) (locs1 : List Loc), va_P D cl (ij_W P nf cA ad K σ') H1 → va_D A (ij_W P nf cA ad K σ') → va_S A s.heap H1 locs1 → W p l e R s m args below meth c H1 locs1 0 0 (MQ below (ij_Qc P cl nf D cA ad K A v τ) args s 0 0 A) (F0 m (pc + 3) ls ((w.map (ij_v ad)).toList ++ r.map (ij_v ad))) := by
        intro H1 locs1 hP1 hD1 hS1
        have := ih (pc + 3, L, w.toList ++ r, σ') v τ hn H1 locs1 ls ⟨hP1, hD1, hS1, hl⟩
        have he : (w.map (ij_v ad)).toList ++ r.map (ij_v ad) = (w.toList ++ r).map (ij_v ad) := by cases w <;> simp
        rw [he]
        exact this
      cases ins with
      | invokevirtual i =>
        obtain rfl := ij_beq hlk2
        obtain ⟨j', hj, hc⟩ := ij_bind hc
        split at hc
        · rename_i hcond
          unfold ij_cv at hc
          split at hc
          · rename_i b r' hst9
            split at hc
            · rename_i hcond2
              obtain ⟨rfl, rfl, rfl⟩ : j' = j ∧ .ref b :: (st.take (ij_mn M j')).reverse = as ∧ r' = r := by
                have := Option.some.inj hc
                exact ⟨congrArg Prod.fst this, congrArg (fun z => z.2.1) this, congrArg (fun z => z.2.2) this⟩
              obtain ⟨hlink, hcode, hini, -, hinst, hdd, hml40⟩ := hokm.2.1 _ _ _ hj
              obtain ⟨hins, hsel, qC, hqC, hqn⟩ := hinst hcond.1
              have hw := ij_W_get (P := P) (nf := nf) (cA := cA) (ad := ad) (σ := σ) (ij_obj_ok hcond2.1)
              have hrecv := va_recv hK hP hqC hw
              rw [hqn] at hrecv
              have hCB : CallB R s args (cn (ij_mo P mi)) i (my j') (mb j') (ij_ml P j') (ij_mr M j') (ij_ws P M Ts my mb j') (ij_rm d) 0 0 (ij_mn M j') :=
                callB_of (ws' := Ts) (ij_mn M j') hts (fun w hw => by
                  rcases List.mem_cons.mp hw with rfl | hw
                  · exact ⟨hcode, good_of_word (hokm.1 _ hcode)⟩
                  · exact hgood w hw) rfl rfl rfl (hts _ hini) (hts _ hlink) hdd (by rw [hR]; refine ⟨(by show d + 8 + 1 ≤ d + 1 + 8; omega), ?_⟩; show 8 + (ij_ml P j' + 11) + (64 * d + 600) ≤ 64 * (d + 1) + 600; omega)
              refine ij_callW (va_runV (As := ((st.take (ij_mn M j')).reverse).map (ij_v ad)) (rest := r'.map (ij_v ad)) ⟨hx, hb, hml, hown, hts⟩ hMet ⟨hCB, hts _ hins, hts _ hsel⟩ ⟨ik_blind hst, hrecv, fun U hU hW => ⟨rfl, by rw [hU]; exact hP, va_K.moved hW.alike hK, hD, hst.2 s U locs hNs hW (by rw [hU]; exact hS)⟩⟩ rfl (by simpa using hcond.2) hl.1.1 ?_ (lv_room (by rw [ij_cs_map]; exact hcond2.2)) hd ⟨by rw [hR]; exact Nat.le_refl _, by rw [hR]; exact Nat.le_refl _⟩) hS next
              show st.map (ij_v ad) = _
              rw [← List.map_reverse, List.reverse_reverse]
              have hsp : st = st.take (ij_mn M j') ++ .ref b :: r' := by rw [← hst9, List.take_append_drop]
              conv => lhs; rw [hsp]
              simp [ij_v]
            · cases hc
          · cases hc
        · cases hc
      | invokestatic i =>
        obtain rfl := ij_beq hlk2
        obtain ⟨j', hj, hc⟩ := ij_bind hc
        split at hc
        · rename_i hcond
          obtain ⟨rfl, rfl, rfl⟩ : j' = j ∧ (st.take (ij_mn M j')).reverse = as ∧ st.drop (ij_mn M j') = r := by
            have := Option.some.inj hc
            exact ⟨congrArg Prod.fst this, congrArg (fun z => z.2.1) this, congrArg (fun z => z.2.2) this⟩
          obtain ⟨hlink, hcode, hini, hstat, -, hdd, hml40⟩ := hokm.2.1 _ _ _ hj
          have hCB : CallB R s args (cn (ij_mo P mi)) i (my j') (mb j') (ij_ml P j') (ij_mr M j') (ij_ws P M Ts my mb j') (ij_rm d) 0 0 (ij_mn M j') :=
            callB_of (ws' := Ts) (ij_mn M j') hts (fun w hw => by
              rcases List.mem_cons.mp hw with rfl | hw
              · exact ⟨hcode, good_of_word (hokm.1 _ hcode)⟩
              · exact hgood w hw) rfl rfl rfl (hts _ hini) (hts _ hlink) hdd (by rw [hR]; refine ⟨(by show d + 8 + 1 ≤ d + 1 + 8; omega), ?_⟩; show 8 + (ij_ml P j' + 11) + (64 * d + 600) ≤ 64 * (d + 1) + 600; omega)
          refine ij_callW (va_runS (As := ((st.take (ij_mn M j')).reverse).map (ij_v ad)) (rest := (st.drop (ij_mn M j')).map (ij_v ad)) ⟨hx, hb, hml, hown, hts⟩ hMet ⟨hCB, hts _ (hstat hcond.1)⟩ ⟨ik_blind hst, fun U hU hW => ⟨rfl, by rw [hU]; exact hP, va_K.moved hW.alike hK, hD, hst.2 s U locs hNs hW (by rw [hU]; exact hS)⟩⟩ rfl (by simpa using hcond.2.1) hl.1.1 ?_ (lv_room (by rw [ij_cs_map]; exact hcond.2.2)) hd ⟨by rw [hR]; exact Nat.le_refl _, by rw [hR]; exact Nat.le_refl _⟩) hS next
          show st.map (ij_v ad) = _
          rw [← List.map_reverse, List.reverse_reverse, ← List.map_append, List.take_append_drop]
        · cases hc
      | _ => cases hc
    · obtain ⟨hok, hx, hb, hts, hown, hK⟩ := id F
      obtain ⟨hd, hlk2⟩ := hok.1 mi pc _ hdc
      obtain ⟨hP, hD, hS, hl⟩ := id X
      subst hv
      subst hτ
      cases ins with
      | ireturn =>
        obtain rfl := ij_beq hlk2
        unfold ij_ret at hs
        dsimp only at hs
        split at hs
        · rename_i x
          obtain rfl := Option.some.inj hs
          have hz : ij_rti (ij_mr M mi) x := hz
          have hq : ∀ t : State, t.heap = H → s.WarmedH t.vm → ij_Qc P cl nf D cA ad K A (some (.int x)) τ args s (.returned (some (.int x))) t := fun t ht hW => ⟨⟨rfl, by rw [ht]; exact hP, hD⟩, hS.F ht⟩
          unfold ij_rti at hz
          split at hz
          · rename_i hrt
            exact W.iret hx hb (hr.trans hrt) hq hS.2.2 hd hlk
          · rename_i hrt
            exact W.zret hx hb (hr.trans hrt) (by rcases hz with rfl | rfl <;> rfl) hq hS.2.2 hd hlk
          · exact hz.elim
        · cases hs
      | lreturn =>
        obtain rfl := ij_beq hlk2
        unfold ij_ret at hs
        dsimp only at hs
        split at hs
        · rename_i x
          obtain rfl := Option.some.inj hs
          have hq : ∀ t : State, t.heap = H → s.WarmedH t.vm → ij_Qc P cl nf D cA ad K A (some (.long x)) τ args s (.returned (some (.long x))) t := fun t ht hW => ⟨⟨rfl, by rw [ht]; exact hP, hD⟩, hS.F ht⟩
          exact W.lret hx hb (hr.trans hz) hq hS.2.2 hd hlk
        · cases hs
      | return_ =>
        obtain rfl := ij_beq hlk2
        unfold ij_ret at hs
        dsimp only at hs
        split at hs
        · obtain rfl := Option.some.inj hs
          have hq : ∀ t : State, t.heap = H → s.WarmedH t.vm → ij_Qc P cl nf D cA ad K A none τ args s (.returned none) t := fun t ht hW => ⟨⟨rfl, by rw [ht]; exact hP, hD⟩, hS.F ht⟩
          exact W.vret hx hb (hr.trans hz) hq hS.2.2 hd hlk
        · cases hs
      | _ => cases hs
    · obtain ⟨hok, hx, hb, hts, hown, hK⟩ := id F
      obtain ⟨hd, hlk2⟩ := hok.1 mi pc _ hdc
      obtain ⟨hP, hD, hS, hl⟩ := id X
      have hgood : GoodIn Ts Ts := fun w hw => ⟨hw, good_of_word (hokm.1 w hw)⟩
      have hMet := hM j as σ w σ' hC
      have next : ∀ (H1 : Heap) (locs1 : List Loc), va_P D cl (ij_W P nf cA ad K σ') H1 → va_D A (ij_W P nf cA ad K σ') → va_S A s.heap H1 locs1 → W p l e R s m args below meth c H1 locs1 0 0 (MQ below (ij_Qc P cl nf D cA ad K A v τ) args s 0 0 A) (F0 m (pc + 3) ls ((w.map (ij_v ad)).toList ++ r.map (ij_v ad))) := by
        intro H1 locs1 hP1 hD1 hS1
        have := ih (pc + 3, L, w.toList ++ r, σ') v τ hn H1 locs1 ls ⟨hP1, hD1, hS1, hl⟩
        have he : (w.map (ij_v ad)).toList ++ r.map (ij_v ad) = (w.toList ++ r).map (ij_v ad) := by cases w <;> simp
        rw [he]
        exact this
      cases ins with
      | invokestatic i =>
        obtain rfl := ij_beq hlk2
        obtain ⟨j', hj, hc⟩ := ij_bind hc
        split at hc
        · rename_i hcond
          obtain ⟨rfl, rfl, rfl⟩ : j' = j ∧ (st.take (ij_mn M j')).reverse = as ∧ st.drop (ij_mn M j') = r := by
            have := Option.some.inj hc
            exact ⟨congrArg Prod.fst this, congrArg (fun z => z.2.1) this, congrArg (fun z => z.2.2) this⟩
          obtain ⟨⟨host, hnest⟩, hcode, hini, hstat, hdd, hml40⟩ := hokm.2.2.2.1 _ _ _ hj
          have hCN : va_CN R s args (cn (ij_mo P mi)) i (my j') host (mb j') (ij_ml P j') (ij_mr M j') (ij_ws P M Ts my mb j') (ij_rm d) 0 0 (ij_mn M j') :=
            va_cnB (ws' := Ts) (ij_mn M j') hts (fun w hw => by
              rcases List.mem_cons.mp hw with rfl | hw
              · exact ⟨hcode, good_of_word (hokm.1 _ hcode)⟩
              · exact hgood w hw) rfl rfl rfl (hnest s hNs) (hts _ hini) hdd (by rw [hR]; refine ⟨(by show d + 8 + 1 ≤ d + 1 + 8; omega), ?_⟩; show 8 + (ij_ml P j' + 11) + (64 * d + 600) ≤ 64 * (d + 1) + 600; omega)
          refine ij_callW (va_runSN (As := ((st.take (ij_mn M j')).reverse).map (ij_v ad)) (rest := (st.drop (ij_mn M j')).map (ij_v ad)) ⟨hx, hb, hml, hown, hts⟩ hMet ⟨hCN, hts _ hstat, trivial⟩ ⟨ik_blind hst, fun U hU hW => ⟨rfl, by rw [hU]; exact hP, va_K.moved hW.alike hK, hD, hst.2 s U locs hNs hW (by rw [hU]; exact hS)⟩⟩ rfl (by simpa using hcond.2.1) hl.1.1 ?_ (lv_room (by rw [ij_cs_map]; exact hcond.2.2)) hd ⟨by rw [hR]; exact Nat.le_refl _, by rw [hR]; exact Nat.le_refl _⟩) hS next
          show st.map (ij_v ad) = _
          rw [← List.map_reverse, List.reverse_reverse, ← List.map_append, List.take_append_drop]
        · cases hc
      | _ => cases hc
    · obtain ⟨hok, hx, hb, hts, hown, hK⟩ := id F
      obtain ⟨hd, hlk2⟩ := hok.1 mi pc _ hdc
      obtain ⟨hP, hD, hS, hl⟩ := id X
      cases ins with
      | invokestatic i =>
        obtain rfl := ij_beq hlk2
        unfold ik_cpy at hc
        dsimp only at hc
        split at hc
        · rename_i hcp
          obtain ⟨hlink, hnat, hstat, hini⟩ := hokm.2.2.2.2.1 _ _ hcp
          split at hc
          · rename_i n9 dp b9 sp a9 r
            have hfr : 1 ≤ R.frames := by rw [hR]; show 1 ≤ d + 1 + 8; omega
            have hlo : ∀ r : List Value, ij_cs r ≤ 8 → ((r.map (ij_v ad)).map fun v => v.category).sum + (nativeFrameWords "java/lang/System" "arraycopy" 5 + 11) ≤ R.locals := by
              intro r hr
              rw [ij_cs_map, hR]
              have h9 : nativeFrameWords "java/lang/System" "arraycopy" 5 + 11 ≤ 56 := by decide +kernel
              show ij_cs r + _ ≤ 64 * (d + 1) + 600
              omega
            unfold ik_cpa at hc
            split at hc
            · rename_i n0 n1 hka hkb
              obtain rfl := Option.some.inj hc
              obtain ⟨h1, h2, h3, h4, h5, h6⟩ := hz
              have hwa := ij_W_get (P := P) (nf := nf) (cA := cA) (ad := ad) (σ := σ) hka
              have hwb := ij_W_get (P := P) (nf := nf) (cA := cA) (ad := ad) (σ := σ) hkb
              refine va_copyi hx hb (hml.trans hl.1.1.symm) hown (hts _ hlink) (hts _ hnat) (hts _ hstat) (hts _ hini) hK hP hD hS a9 b9 0 0 hwa hwb rfl rfl rfl h1 h2 h3 h4 h5 (fun _ _ => rfl) hfr (hlo r h6) hd (fun H1 locs1 hP1 hD1 hS1 => ?_)
              have he := ij_W_set (P := P) (nf := nf) (cA := cA) (ad := ad) (σ := σ) (σ' := (σ.1, ik_uA σ.2.1 b9 (va_cpy (σ.2.1 a9) (σ.2.1 b9) sp.toNatClampNeg dp.toNatClampNeg n9.toNatClampNeg), σ.2.2)) hkb (e := .inl (cA 0, n1, .inl (va_cpy (σ.2.1 a9) (σ.2.1 b9) sp.toNatClampNeg dp.toNatClampNeg n9.toNatClampNeg))) (by
                show Sum.inl (cA 0, n1, Sum.inl _) = Sum.inl (cA 0, n1, Sum.inl _)
                congr 4
                funext j
                simp [ik_uA]) (fun q' k' hne => by
                  cases k' with
                  | inl ci => simp only [ij_ce, ij_fv, ik_uA, if_neg hne]
                  | inr tn =>
                    have : ik_uA σ.2.1 b9 (va_cpy (σ.2.1 a9) (σ.2.1 b9) sp.toNatClampNeg dp.toNatClampNeg n9.toNatClampNeg) q' = σ.2.1 q' := by funext k; simp [ik_uA, hne]
                    simp only [ij_ce, this])
              rw [he] at hP1 hD1
              exact ih (pc + 3, L, r, _) v τ hn H1 locs1 ls ⟨hP1, hD1, hS1, hl⟩
            · rename_i n0 n1 hka hkb
              obtain rfl := Option.some.inj hc
              obtain ⟨h1, h2, h3, h4, h5, h6⟩ := hz
              have hwa := ij_W_get (P := P) (nf := nf) (cA := cA) (ad := ad) (σ := σ) hka
              have hwb := ij_W_get (P := P) (nf := nf) (cA := cA) (ad := ad) (σ := σ) hkb
              refine va_copyl hx hb (hml.trans hl.1.1.symm) hown (hts _ hlink) (hts _ hnat) (hts _ hstat) (hts _ hini) hK hP hD hS a9 b9 1 1 hwa hwb rfl rfl rfl h1 h2 h3 h4 h5 (fun _ _ => rfl) hfr (hlo r h6) hd (fun H1 locs1 hP1 hD1 hS1 => ?_)
              have he := ij_W_set (P := P) (nf := nf) (cA := cA) (ad := ad) (σ := σ) (σ' := (σ.1, σ.2.1, ik_uA σ.2.2 b9 (va_cpy (σ.2.2 a9) (σ.2.2 b9) sp.toNatClampNeg dp.toNatClampNeg n9.toNatClampNeg))) hkb (e := .inl (cA 1, n1, .inr (.inl (va_cpy (σ.2.2 a9) (σ.2.2 b9) sp.toNatClampNeg dp.toNatClampNeg n9.toNatClampNeg)))) (by
                show Sum.inl (cA 1, n1, Sum.inr (Sum.inl _)) = Sum.inl (cA 1, n1, Sum.inr (Sum.inl _))
                congr 5
                funext j
                simp [ik_uA]) (fun q' k' hne => by
                  cases k' with
                  | inl ci => simp only [ij_ce, ij_fv, ik_uA, if_neg hne]
                  | inr tn =>
                    have : ik_uA σ.2.2 b9 (va_cpy (σ.2.2 a9) (σ.2.2 b9) sp.toNatClampNeg dp.toNatClampNeg n9.toNatClampNeg) q' = σ.2.2 q' := by funext k; simp [ik_uA, hne]
                    simp only [ij_ce, this])
              rw [he] at hP1 hD1
              exact ih (pc + 3, L, r, _) v τ hn H1 locs1 ls ⟨hP1, hD1, hS1, hl⟩
            · cases hc
          · cases hc
        · cases hc
      | _ => cases hc
    · obtain ⟨hok, hx, hb, hts, hown, hK⟩ := id F
      obtain ⟨hd, hlk2⟩ := hok.1 mi pc _ hdc
      obtain ⟨tx, htx⟩ := hokm.2.2.2.2.2 _ _ _ hsl s hNs
      exact va_ldcS hx hb hown htx hd (ih (pc + 2, L, .ref pl :: st, σ) v τ hn H locs ls X)
    · obtain ⟨hP, hD, hS, hl⟩ := id X
      exact ih (pc, L', st, σ) v τ hn H locs ls ⟨hP, hD, hS, hl.1, fun i w hi => hl.2 i w (hL i w hi)⟩
theorem ik_ev_dc {C : ij_R} {n : Nat} {q : ij_C} {v : Option Value} {τ : ij_S} (h : ik_ev P M Y K C mi n q v τ) : ∃ x, ij_dc P mi q.1 = some x := by
  induction n generalizing q with
  | zero => exact h.elim
  | succ n ih =>
    rcases h with ⟨b, x, z, hdc, -⟩ | ⟨x, j, as, r, w, σ', hdc, -⟩ | ⟨x, z, hdc, -⟩ | ⟨x, j, as, r, w, σ', hdc, -⟩ | ⟨x, z, hdc, -⟩ | ⟨i, pl, hdc, -⟩ | ⟨L', -, hn⟩
    · exact ⟨x, hdc⟩
    · exact ⟨x, hdc⟩
    · exact ⟨x, hdc⟩
    · exact ⟨x, hdc⟩
    · exact ⟨x, hdc⟩
    · exact ⟨_, hdc⟩
    · exact ih (q := (q.1, L', q.2.2.1, q.2.2.2)) hn
set_option maxHeartbeats 4000000 in
set_option maxRecDepth 100000 in
/-- EVERY CALL OF THE PURE PICTURE IS A CONTRACT OF THE MACHINE -/
theorem ik_met (hst : ik_stays N A) {X : ij_R} (hok : ij_ok P Ts cl nf ty cn mb) (hokm : ik_okm P M Y N ad Ts cl cn my mb) (hX : ∀ d, ik_known N l P M Ts cl nf my mb D cA ad K A X (d + 1)) : ∀ d, ik_known N l P M Ts cl nf my mb D cA ad K A (ik_cr P M Y K X d) d := by
  intro d
  induction d with
  | zero => intro j as σ v τ h; exact h.elim
  | succ d ih =>
    intro j as σ v τ h
    rcases h with h | ⟨hlen, n, hn⟩
    · exact hX d j as σ v τ h
    · obtain ⟨x, hdc⟩ := ik_ev_dc hn
      obtain ⟨hpl, hcn⟩ := hokm.2.2.1 j x hdc
      refine ik_ofW (cc := mb j) (maxL := ij_ml P j) (ret := ij_mr M j) hpl rfl ?_
      intro p e s m args below meth c s₁ B hml hv
      obtain ⟨rfl, hP, hK, hD, hN⟩ := hv
      have hts : ∀ w ∈ Ts, w.before ((as.map (ij_v ad)).toArray) s = true := fun w hw => atoms_spec (ws := ij_ws P M Ts my mb j) B.pre w (List.mem_cons_of_mem _ hw)
      have hown : s.vm.findClass (my j).cls = some m.cls := findClass_of_methodNamed B.named
      have hl := lv_entry (as.map (ij_v ad)) (n := ij_ml P j) (by rw [ij_sl]; exact hlen)
      rw [lg_entry_eq]
      exact ik_evW hst hN ih hokm rfl B.returns B.notSynchronized hml ⟨hok, B.exec, B.bytes, hts, by rw [hcn]; exact hown, hK⟩ n (0, ij_in as (ij_ml P j), [], σ) v τ hn s.heap [] _ ⟨hP, hD, va_S.rf, ij_lh_in hl⟩
end IKC
