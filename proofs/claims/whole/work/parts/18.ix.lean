/-! ===== runs that may throw ===== -/
/-- how a call ends: an answer, or a throw of a class -/
abbrev ix_O : Type := Option Value ⊕ String
abbrev ix_R : Type := Nat → List Value → ij_S → ix_O → ij_S → Prop
/-- how many objects a method may make (all of them thrown ones); where it throws what; where a throw is caught; the methods' tables -/
abbrev ix_T : Type := (Nat → Nat) × (Nat → Nat → Option String) × (Nat → Nat → String → Option Nat) × (Nat → List (Nat × Nat × Nat × Nat))
abbrev ix_co (T : ix_T) := T.1
abbrev ix_th (T : ix_T) := T.2.1
abbrev ix_hx (T : ix_T) := T.2.2.1
abbrev ix_mh (T : ix_T) := T.2.2.2
def ix_as : Instr → Option (Nat × Nat)
  | .astore i => some (i, 2)
  | .astore_n i => some (i, 1)
  | _ => none
def ix_ev (P : ij_P) (M : ij_M) (K : ij_Ks) (T : ix_T) (C1 : ij_R) (C2 : ix_R) (mi : Nat) : Nat → Nat → ij_C → ix_O → ij_S → Prop
  | 0, _, _, _, _ => False
  | n + 1, b, c, o, τ => (∃ k x z, ij_dc P mi c.1 = some x ∧ ij_ins P K mi k c.1 c.2.1 c.2.2.1 c.2.2.2 x.1 = some z ∧ ij_all z.1 ∧ ix_ev P M K T C1 C2 mi n b z.2 o τ) ∨
      (∃ x j as r w σ', ij_dc P mi c.1 = some x ∧ ij_cal P M K mi c.2.2.1 x.1 = some (j, as, r) ∧ ix_mh T j = [] ∧ C1 j as c.2.2.2 w σ' ∧ ix_ev P M K T C1 C2 mi n b (c.1 + 3, c.2.1, w.toList ++ r, σ') o τ) ∨
      (∃ x j as r w σ', ij_dc P mi c.1 = some x ∧ ij_cal P M K mi c.2.2.1 x.1 = some (j, as, r) ∧ ix_co T j ≤ b ∧ C2 j as c.2.2.2 (.inl w) σ' ∧ ix_ev P M K T C1 C2 mi n (b - ix_co T j) (c.1 + 3, c.2.1, w.toList ++ r, σ') o τ) ∨
      (∃ x j as r E, ij_dc P mi c.1 = some x ∧ ij_cal P M K mi c.2.2.1 x.1 = some (j, as, r) ∧ ix_co T j ≤ b ∧ C2 j as c.2.2.2 (.inr E) τ ∧ ix_mh T mi = [] ∧ o = .inr E) ∨
      (∃ x j as r E σ' h y i len, ∃ L : ij_L, ij_dc P mi c.1 = some x ∧ ij_cal P M K mi c.2.2.1 x.1 = some (j, as, r) ∧ ix_co T j ≤ b ∧ C2 j as c.2.2.2 (.inr E) σ' ∧ ix_hx T mi c.1 E = some h ∧ ij_dc P mi h = some y ∧ ix_as y.1 = some (i, len) ∧ i < ij_ml P mi ∧ (∀ k w, ij_get L k = some w → ij_get c.2.1 k = some w ∧ k ≠ i ∧ ¬ (k + 1 = i ∧ w.category = 2)) ∧ ix_ev P M K T C1 C2 mi n (b - ix_co T j) (h + len, L, [], σ') o τ) ∨
      (∃ x z, ij_dc P mi c.1 = some x ∧ ij_ret M mi c.2.2.1 x.1 = some z ∧ z.1 ∧ o = .inl z.2 ∧ τ = c.2.2.2) ∨
      (∃ E, ix_th T mi c.1 = some E ∧ 1 ≤ b ∧ ij_cs c.2.2.1 ≤ 8 ∧ ix_mh T mi = [] ∧ o = .inr E ∧ τ = c.2.2.2) ∨
      (∃ L : ij_L, (∀ i w, ij_get L i = some w → ij_get c.2.1 i = some w) ∧ ix_ev P M K T C1 C2 mi n b (c.1, L, c.2.2.1, c.2.2.2) o τ)
/-- calls at most d deep; X: what is known of others -/
def ix_cr (P : ij_P) (M : ij_M) (K : ij_Ks) (T : ix_T) (C1 : Nat → ij_R) (X : ix_R) : Nat → ix_R
  | 0 => fun _ _ _ _ _ => False
  | d + 1 => fun j as σ o τ => X j as σ o τ ∨ 1 ≤ ix_co T j ∧ (lg_sl as).length ≤ ij_ml P j ∧ ∃ n, ix_ev P M K T (C1 d) (ix_cr P M K T C1 X d) j n (ix_co T j) (0, ij_in as (ij_ml P j), [], σ) o τ
def ix_code (P : ij_P) (M : ij_M) (T : ix_T) (my : Nat → MethodName) (mb : Nat → ByteArray) (j : Nat) : Cond := match ix_mh T j with
  | [] => Cond.code (my j) (mb j) (ij_ml P j) (ij_mr M j)
  | h :: t => Cond.codeWith (my j) (mb j) (ij_ml P j) (ij_mr M j) (h :: t)
def ix_ws (P : ij_P) (M : ij_M) (T : ix_T) (Ts : List Cond) (my : Nat → MethodName) (mb : Nat → ByteArray) (j : Nat) : List Cond := ix_code P M T my mb j :: Ts
def ix_rm (T : ix_T) (j d : Nat) : Room := { frames := d + 20, cells := ix_co T j, slots := 6 * ix_co T j, locals := 64 * d + 1000 }
def ix_okm (P : ij_P) (M : ij_M) (T : ix_T) (N : State → Prop) (A : Nat → Prop) (Ts : List Cond) (cl : List vw_C) (cn : Nat → String) (my : Nat → MethodName) (mb : Nat → ByteArray) : Prop :=
  (∀ w ∈ Ts, goodWord w = true) ∧
  (∀ o i j, ij_pm M o i = some j → Cond.methodLink (cn o) i (my j) ∈ Ts ∧ ix_code P M T my mb j ∈ Ts ∧ Cond.initialized (my j).cls ∈ Ts ∧ (ij_ms M j = true → Cond.static (my j) ∈ Ts) ∧ (ij_ms M j = false → ix_mh T j = [] ∧ Cond.instanceMethod (my j) ∈ Ts ∧ Cond.selects (my j).cls (my j) (my j) ∈ Ts ∧ ∃ q : vw_C, cl[ij_mo P j]? = some q ∧ q.1 = (my j).cls) ∧
    ((my j).cls ≠ "java/lang/invoke/MethodHandle" ∧ (my j).cls ≠ "java/lang/invoke/VarHandle" ∧ (parseMethodDescriptor (my j).desc).map (fun d => d.parameters.length) = some (ij_mn M j)) ∧ ij_ml P j ≤ 40) ∧
  (∀ mi x, ij_dc P mi 0 = some x → 1 ≤ ix_co T mi → plainName (my mi).cls = true ∧ cn (ij_mo P mi) = (my mi).cls) ∧
  (∀ s, N s → vx_Zq Bundle.tN "UNASSIGNED_STACK" Bundle.steD A s s.heap ∧ vx_Zq Bundle.tN "SUPPRESSED_SENTINEL" Bundle.listD A s s.heap) ∧
  (∀ mi pc E, ix_th T mi pc = some E → ∃ ik ic names, ij_dc P mi pc = some (.new ik, 3) ∧ ij_dc P mi (pc + 3) = some (.dup, 1) ∧ ij_dc P mi (pc + 4) = some (.invokespecial ic, 3) ∧ ij_dc P mi (pc + 7) = some (.athrow, 1) ∧ Bundle.fit E = true ∧ (∀ n ∈ names, Bundle.fit n = true) ∧ Cond.classLink (cn (ij_mo P mi)) ik E ∈ Ts ∧ Cond.initialized E ∈ Ts ∧ names.length ≤ 5 ∧
    (∀ w ∈ Cond.classLink (cn (ij_mo P mi)) ik E :: Cond.initialized E :: vx_at0 (cn (ij_mo P mi)) ic E names, vx_ot w = true) ∧
    ∀ (args : Array Value) (s : State), N s → (∀ w ∈ Ts, w.before args s = true) → ∀ w ∈ vx_at0 (cn (ij_mo P mi)) ic E names, w.before args s = true) ∧
  (∀ mi pc E h, ix_hx T mi pc E = some h → ∀ (args : Array Value) (s : State), N s → (∀ w ∈ Ts, w.before args s = true) → ∃ (pre : List ExceptionTableEntry) (x : ExceptionTableEntry) (suf : List ExceptionTableEntry) (name : String), tableOf (ix_mh T mi) = pre ++ x :: suf ∧
    (∀ z ∈ pre, covers z pc = false ∨ (z.catchType ≠ 0 ∧ ∃ nm : String, (Cond.classLink (cn (ij_mo P mi)) z.catchType nm).before args s = true ∧ va_Nc E nm s)) ∧ covers x pc = true ∧ x.catchType ≠ 0 ∧ (Cond.classLink (cn (ij_mo P mi)) x.catchType name).before args s = true ∧ (Cond.castable E name).before args s = true ∧ x.handlerPc = h)
def ix_Qc (P : ij_P) (cl : List vw_C) (nf : Nat → Nat) (D : va_G) (cA : Nat → ClassId) (ad : Nat → Nat) (K : ij_Ks) (A : Nat → Prop) (o : ix_O) (τ : ij_S) : Array Value → State → Outcome → State → Prop := fun a st oc t => ∃ v, o = .inl v ∧ ij_Qc P cl nf D cA ad K A v τ a st oc t
def ix_XC (P : ij_P) (cl : List vw_C) (nf : Nat → Nat) (D : va_G) (cA : Nat → ClassId) (ad : Nat → Nat) (K : ij_Ks) (A : Nat → Prop) (o : ix_O) (τ : ij_S) : String → State → State → Prop := fun E st t => o = .inr E ∧ va_P D cl (ij_W P nf cA ad K τ) t.heap ∧ va_D A (ij_W P nf cA ad K τ) ∧ va_F A st t
def ix_known (N : State → Prop) (l : Launch) (P : ij_P) (M : ij_M) (T : ix_T) (Ts : List Cond) (cl : List vw_C) (nf : Nat → Nat) (my : Nat → MethodName) (mb : Nat → ByteArray) (D : va_G) (cA : Nat → ClassId) (ad : Nat → Nat) (K : ij_Ks) (A : Nat → Prop) (C : ix_R) (d : Nat) : Prop :=
  ∀ j as σ o τ, C j as σ o τ → vx_Met l (my j) (ix_ws P M T Ts my mb j) (ix_rm T j d) (ik_Pc N P cl nf D cA ad K A as σ) (ix_Qc P cl nf D cA ad K A o τ) (ix_XC P cl nf D cA ad K A o τ) (ix_co T j) (6 * ix_co T j) A
section IXC
variable {p : Program} {l : Launch} {e : Env} {R : Room} {s : State} {m : MethodId} {args : Array Value} {below : List Frame} {meth : Method} {c : Code} {cells slots mc ms : Nat} {Q : State → Prop}
variable {P : ij_P} {M : ij_M} {T : ix_T} {Ts : List Cond} {cl : List vw_C} {nf : Nat → Nat} {ty : Nat → Nat → FieldType} {cn : Nat → String} {my : Nat → MethodName} {mb : Nat → ByteArray}
variable {D : va_G} {cA : Nat → ClassId} {ad : Nat → Nat} {K : ij_Ks} {A : Nat → Prop} {H0 : Heap} {mi : Nat} {N : State → Prop}
theorem ix_callR {H : Heap} {locs : List Loc} {pc : Nat} {ls : Array Slot} {st0 rest : List Value} {v : Option Value} {τ : ij_S} {a : Array Value}
    (hr : vx_Run p l e R s m args below meth c H locs cells slots mc ms (F0 m pc ls st0) rest (ix_Qc P cl nf D cA ad K A (.inl v) τ a) (ix_XC P cl nf D cA ad K A (.inl v) τ) A) (hS : va_S A H0 H locs)
    (kk : ∀ (H1 : Heap) (locs1 : List Loc), va_P D cl (ij_W P nf cA ad K τ) H1 → va_D A (ij_W P nf cA ad K τ) → va_S A H0 H1 locs1 → W p l e R s m args below meth c H1 locs1 (cells + mc) (slots + ms) Q (F0 m (pc + 3) ls ((v.map (ij_v ad)).toList ++ rest))) :
    W p l e R s m args below meth c H locs cells slots Q (F0 m pc ls st0) := by
  intro T hT X
  rcases hr T hT X with ⟨v', st₀, t, T', L, h0, X', hL, e1, e2, ⟨v1, hv1, ⟨hv, hPt, hDt⟩, hz, hk⟩, st⟩ | ⟨q, st₀, t, T', L, E, ce, h0, X', hL, e1, e2, ⟨hE, -⟩, -⟩
  · cases hv1
    cases hv
    rw [h0] at hz hk
    obtain ⟨t2, a1, b1⟩ := kk T'.heap (locs ++ L) (by rw [e1]; exact hPt) hDt
      ⟨Nat.le_trans hS.1 (by rw [e1]; exact hz), fun q h1 h2 => by rw [e1, hk q (Nat.lt_of_lt_of_le h1 hS.1) h2]; exact hS.2.1 q h1 h2, fun q hq => by
        rcases List.mem_append.mp hq with h | h
        · exact hS.2.2 q h
        · exact hL q h⟩ T' rfl X'
    exact ⟨t2, st t2 a1, b1⟩
  · cases hE
theorem ix_callT {H : Heap} {locs : List Loc} {pc : Nat} {ls : Array Slot} {st0 rest : List Value} {E : String} {τ : ij_S} {a : Array Value}
    (hr : vx_Run p l e R s m args below meth c H locs cells slots mc ms (F0 m pc ls st0) rest (ix_Qc P cl nf D cA ad K A (.inr E) τ a) (ix_XC P cl nf D cA ad K A (.inr E) τ) A) (hS : va_S A H0 H locs)
    (kx : ∀ (ce : Cell) (q : Addr) (H1 : Heap) (locs1 : List Loc), va_P D cl (ij_W P nf cA ad K τ) H1 → va_D A (ij_W P nf cA ad K τ) → va_S A H0 H1 locs1 → H1[q]? = some ce → ce.vm = .none → s.vm.findClass E = some ce.cls → vx_W p l e R s m args below meth c H1 locs1 (cells + mc) (slots + ms) Q (F0 m pc ls rest) q) :
    W p l e R s m args below meth c H locs cells slots Q (F0 m pc ls st0) := by
  intro T hT X
  rcases hr T hT X with ⟨v', st₀, t, T', L, h0, X', hL, e1, e2, ⟨v1, hv1, -⟩, -⟩ | ⟨q, st₀, t, T', L, E', ce, h0, X', hL, e1, e2, ⟨hE, hPt, hDt, hz, hk⟩, hc1, hc2, hc3, st⟩
  · cases hv1
  · cases hE
    rw [h0] at hz hk
    obtain ⟨t2, a1, b1⟩ := kx ce q T'.heap (locs ++ L) (by rw [e1]; exact hPt) hDt
      ⟨Nat.le_trans hS.1 (by rw [e1]; exact hz), fun q h1 h2 => by rw [e1, hk q (Nat.lt_of_lt_of_le h1 hS.1) h2]; exact hS.2.1 q h1 h2, fun q hq => by
        rcases List.mem_append.mp hq with h | h
        · exact hS.2.2 q h
        · exact hL q h⟩ (by rw [e1]; exact hc1) hc2 hc3 T' rfl X'
    exact ⟨t2, st.trans a1, b1⟩
theorem ix_code_nil {j : Nat} (h : ix_mh T j = []) : ix_code P M T my mb j = Cond.code (my j) (mb j) (ij_ml P j) (ij_mr M j) := by
  unfold ix_code
  rw [h]
theorem ix_code_cons {j : Nat} {h9 : Nat × Nat × Nat × Nat} {t9 : List (Nat × Nat × Nat × Nat)} (h : ix_mh T j = h9 :: t9) : ix_code P M T my mb j = Cond.codeWith (my j) (mb j) (ij_ml P j) (ij_mr M j) (h9 :: t9) := by
  unfold ix_code
  rw [h]
set_option maxHeartbeats 4000000 in
set_option maxRecDepth 100000 in
/-- a call of a method that may throw -/
theorem ix_run (hst : ik_stays N A) (hNs : N s) (hokm : ix_okm P M T N A Ts cl cn my mb) {d : Nat} (hR1 : d + 21 ≤ R.frames) (hR2 : 64 * d + 1064 ≤ R.locals) (hml : c.maxLocals = ij_ml P mi) (F : ij_fix p s m args c P Ts cl nf ty cn mb D cA mi)
    {pc : Nat} {L : ij_L} {st as r : List Value} {σ : ij_S} {ins : Instr} {len j : Nat} (hdc : ij_dc P mi pc = some (ins, len)) (hc : ij_cal P M K mi st ins = some (j, as, r)) {Qc : Array Value → State → Outcome → State → Prop} {XC : String → State → State → Prop}
    (hMet : vx_Met l (my j) (ix_ws P M T Ts my mb j) (ix_rm T j d) (ik_Pc N P cl nf D cA ad K A as σ) Qc XC (ix_co T j) (6 * ix_co T j) A)
    {H : Heap} {locs : List Loc} {ls : Array Slot} (X : ij_at P cl nf D cA ad K A s.heap (ij_ml P mi) L σ H locs ls) (hf : cells + ix_co T j ≤ R.cells ∧ slots + 6 * ix_co T j ≤ R.slots) :
    vx_Run p l e R s m args below meth c H locs cells slots (ix_co T j) (6 * ix_co T j) (F0 m pc ls (st.map (ij_v ad))) (r.map (ij_v ad)) (Qc (as.map (ij_v ad)).toArray) XC A := by
  obtain ⟨hok, hx, hb, hts, hown, hK⟩ := id F
  obtain ⟨hd, hlk2⟩ := hok.1 mi pc _ hdc
  obtain ⟨hP, hD, hS, hl⟩ := id X
  have hgood : GoodIn Ts Ts := fun w hw => ⟨hw, good_of_word (hokm.1 w hw)⟩
  cases ins with
  | invokevirtual i =>
    obtain rfl := ij_beq hlk2
    obtain ⟨j', hj, hc⟩ := ij_bind hc
    split at hc
    · rename_i hcond
      unfold ij_cv at hc
      split at hc
      · rename_i b r' hst9
        split at hc
        · rename_i hcond2
          obtain ⟨rfl, rfl, rfl⟩ : j' = j ∧ .ref b :: (st.take (ij_mn M j')).reverse = as ∧ r' = r := by
            have := Option.some.inj hc
            exact ⟨congrArg Prod.fst this, congrArg (fun z => z.2.1) this, congrArg (fun z => z.2.2) this⟩
          obtain ⟨hlink, hcode, hini, -, hinst, hdd, hml40⟩ := hokm.2.1 _ _ _ hj
          obtain ⟨hmh, hins, hsel, qC, hqC, hqn⟩ := hinst hcond.1
          have hw := ij_W_get (P := P) (nf := nf) (cA := cA) (ad := ad) (σ := σ) (ij_obj_ok hcond2.1)
          have hrecv := va_recv hK hP hqC hw
          rw [hqn] at hrecv
          have hce := ix_code_nil (P := P) (M := M) (my := my) (mb := mb) hmh
          have hCB : CallB R s args (cn (ij_mo P mi)) i (my j') (mb j') (ij_ml P j') (ij_mr M j') (ix_ws P M T Ts my mb j') (ix_rm T j' d) (ix_co T j') (6 * ix_co T j') (ij_mn M j') :=
            callB_of (ws' := Ts) (ij_mn M j') hts (fun w hw => by
              rcases List.mem_cons.mp hw with rfl | hw
              · exact ⟨hcode, good_of_word (hokm.1 _ hcode)⟩
              · exact hgood w hw) (by unfold ix_ws; rw [hce]) rfl rfl (hts _ hini) (hts _ hlink) hdd (by refine ⟨hR1, ?_⟩; show 8 + (ij_ml P j' + 11) + (64 * d + 1000) ≤ R.locals; omega)
          refine vx_runV (As := ((st.take (ij_mn M j')).reverse).map (ij_v ad)) (rest := r'.map (ij_v ad)) ⟨hx, hb, hml, hown, hts⟩ hMet ⟨hCB, hts _ hins, hts _ hsel⟩ ⟨ik_blind hst, hrecv, fun U hU hW => ⟨rfl, by rw [hU]; exact hP, va_K.moved hW.alike hK, hD, hst.2 s U locs hNs hW (by rw [hU]; exact hS)⟩⟩ rfl (by simpa using hcond.2) hl.1.1 ?_ (lv_room (by rw [ij_cs_map]; exact hcond2.2)) hd hf
          show st.map (ij_v ad) = _
          rw [← List.map_reverse, List.reverse_reverse]
          have hsp : st = st.take (ij_mn M j') ++ .ref b :: r' := by rw [← hst9, List.take_append_drop]
          conv => lhs; rw [hsp]
          simp [ij_v]
        · cases hc
      · cases hc
    · cases hc
  | invokestatic i =>
    obtain rfl := ij_beq hlk2
    obtain ⟨j', hj, hc⟩ := ij_bind hc
    split at hc
    · rename_i hcond
      obtain ⟨rfl, rfl, rfl⟩ : j' = j ∧ (st.take (ij_mn M j')).reverse = as ∧ st.drop (ij_mn M j') = r := by
        have := Option.some.inj hc
        exact ⟨congrArg Prod.fst this, congrArg (fun z => z.2.1) this, congrArg (fun z => z.2.2) this⟩
      obtain ⟨hlink, hcode, hini, hstat, -, hdd, hml40⟩ := hokm.2.1 _ _ _ hj
      have hPre : PreS s H (ik_Pc N P cl nf D cA ad K A (st.take (ij_mn M j')).reverse σ) (((st.take (ij_mn M j')).reverse).map (ij_v ad)) := ⟨ik_blind hst, fun U hU hW => ⟨rfl, by rw [hU]; exact hP, va_K.moved hW.alike hK, hD, hst.2 s U locs hNs hW (by rw [hU]; exact hS)⟩⟩
      have hstk : (F0 m pc ls (st.map (ij_v ad))).stack = (((st.take (ij_mn M j')).reverse).map (ij_v ad)).reverse ++ (st.drop (ij_mn M j')).map (ij_v ad) := by
        show st.map (ij_v ad) = _
        rw [← List.map_reverse, List.reverse_reverse, ← List.map_append, List.take_append_drop]
      cases hmh : ix_mh T j' with
      | nil =>
        have hce := ix_code_nil (P := P) (M := M) (my := my) (mb := mb) hmh
        have hCB : CallB R s args (cn (ij_mo P mi)) i (my j') (mb j') (ij_ml P j') (ij_mr M j') (ix_ws P M T Ts my mb j') (ix_rm T j' d) (ix_co T j') (6 * ix_co T j') (ij_mn M j') :=
          callB_of (ws' := Ts) (ij_mn M j') hts (fun w hw => by
            rcases List.mem_cons.mp hw with rfl | hw
            · exact ⟨hcode, good_of_word (hokm.1 _ hcode)⟩
            · exact hgood w hw) (by unfold ix_ws; rw [hce]) rfl rfl (hts _ hini) (hts _ hlink) hdd (by refine ⟨hR1, ?_⟩; show 8 + (ij_ml P j' + 11) + (64 * d + 1000) ≤ R.locals; omega)
        exact vx_runS (As := ((st.take (ij_mn M j')).reverse).map (ij_v ad)) (rest := (st.drop (ij_mn M j')).map (ij_v ad)) ⟨hx, hb, hml, hown, hts⟩ hMet ⟨hCB, hts _ (hstat hcond.1)⟩ hPre rfl (by simpa using hcond.2.1) hl.1.1 hstk (lv_room (by rw [ij_cs_map]; exact hcond.2.2)) hd hf
      | cons h9 t9 =>
        have hce := ix_code_cons (P := P) (M := M) (my := my) (mb := mb) hmh
        have hCS : vx_CSW R s args (cn (ij_mo P mi)) i (my j') (mb j') (ij_ml P j') (ij_mr M j') (h9 :: t9) (ix_ws P M T Ts my mb j') (ix_rm T j' d) (ix_co T j') (6 * ix_co T j') (ij_mn M j') :=
          vx_cwSW (Ts := Ts) (ws' := Ts) (ij_mn M j') hts (fun w hw => by
            unfold va_wsS at hw
            rcases List.mem_append.mp hw with hw | hw
            · simp only [List.mem_cons, List.not_mem_nil, or_false] at hw
              rcases hw with rfl | rfl | rfl
              · exact hgood _ hlink
              · exact hgood _ (hstat hcond.1)
              · exact hgood _ hini
            · rcases List.mem_cons.mp hw with rfl | hw
              · exact hgood _ hcode
              · exact hgood w hw) (by unfold ix_ws; rw [hce]) rfl rfl hdd (by refine ⟨hR1, ?_⟩; show 8 + (ij_ml P j' + 11) + (64 * d + 1000) ≤ R.locals; omega)
        exact vx_runSX (As := ((st.take (ij_mn M j')).reverse).map (ij_v ad)) (rest := (st.drop (ij_mn M j')).map (ij_v ad)) ⟨hx, hb, hml, hown, hts⟩ hMet hCS hPre rfl (by simpa using hcond.2.1) hl.1.1 hstk (lv_room (by rw [ij_cs_map]; exact hcond.2.2)) hd hf
    · cases hc
  | _ => cases hc
end IXC
