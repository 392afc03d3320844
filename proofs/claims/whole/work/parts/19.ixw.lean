/-! ===== that runs that may throw are runs of the machine ===== -/
section IXD
variable {p : Program} {l : Launch} {e : Env} {R : Room} {s : State} {m : MethodId} {args : Array Value} {below : List Frame} {meth : Method} {c : Code} {cells slots mc ms : Nat} {Q : State → Prop}
variable {P : ij_P} {M : ij_M} {T : ix_T} {Ts : List Cond} {cl : List vw_C} {nf : Nat → Nat} {ty : Nat → Nat → FieldType} {cn : Nat → String} {my : Nat → MethodName} {mb : Nat → ByteArray}
variable {D : va_G} {cA : Nat → ClassId} {ad : Nat → Nat} {K : ij_Ks} {A : Nat → Prop} {H0 : Heap} {mi : Nat} {N : State → Prop}
set_option maxHeartbeats 4000000 in
set_option maxRecDepth 100000 in
/-- a call of a method that doesn't throw -/
theorem ix_run1 (hst : ik_stays N A) (hNs : N s) (hokm : ix_okm P M T N A Ts cl cn my mb) {d : Nat} (hR1 : d + 21 ≤ R.frames) (hR2 : 64 * d + 1064 ≤ R.locals) (hml : c.maxLocals = ij_ml P mi) (F : ij_fix p s m args c P Ts cl nf ty cn mb D cA mi)
    {pc : Nat} {L : ij_L} {st as r : List Value} {σ : ij_S} {ins : Instr} {len j : Nat} (hdc : ij_dc P mi pc = some (ins, len)) (hc : ij_cal P M K mi st ins = some (j, as, r)) {Qc : Array Value → State → Outcome → State → Prop}
    (hMet : Met l (my j) (ij_ws P M Ts my mb j) (ij_rm d) (ik_Pc N P cl nf D cA ad K A as σ) Qc 0 0 A) (hmh : ix_mh T j = [])
    {H : Heap} {locs : List Loc} {ls : Array Slot} (X : ij_at P cl nf D cA ad K A s.heap (ij_ml P mi) L σ H locs ls) (hf : cells ≤ R.cells ∧ slots ≤ R.slots) :
    va_Run p l e R s m args below meth c H locs cells slots 0 0 (F0 m pc ls (st.map (ij_v ad))) (r.map (ij_v ad)) (Qc (as.map (ij_v ad)).toArray) A := by
  obtain ⟨hok, hx, hb, hts, hown, hK⟩ := id F
  obtain ⟨hd, hlk2⟩ := hok.1 mi pc _ hdc
  obtain ⟨hP, hD, hS, hl⟩ := id X
  have hgood : GoodIn Ts Ts := fun w hw => ⟨hw, good_of_word (hokm.1 w hw)⟩
  cases ins with
  | invokevirtual i =>
    obtain rfl := ij_beq hlk2
    obtain ⟨j', hj, hc⟩ := ij_bind hc
    split at hc
    · rename_i hcond
      unfold ij_cv at hc
      split at hc
      · rename_i b r' hst9
        split at hc
        · rename_i hcond2
          obtain ⟨rfl, rfl, rfl⟩ : j' = j ∧ .ref b :: (st.take (ij_mn M j')).reverse = as ∧ r' = r := by
            have := Option.some.inj hc
            exact ⟨congrArg Prod.fst this, congrArg (fun z => z.2.1) this, congrArg (fun z => z.2.2) this⟩
          obtain ⟨hlink, hcode, hini, -, hinst, hdd, hml40⟩ := hokm.2.1 _ _ _ hj
          obtain ⟨-, hins, hsel, qC, hqC, hqn⟩ := hinst hcond.1
          have hw := ij_W_get (P := P) (nf := nf) (cA := cA) (ad := ad) (σ := σ) (ij_obj_ok hcond2.1)
          have hrecv := va_recv hK hP hqC hw
          rw [hqn] at hrecv
          have hce := ix_code_nil (P := P) (M := M) (my := my) (mb := mb) hmh
          have hCB : CallB R s args (cn (ij_mo P mi)) i (my j') (mb j') (ij_ml P j') (ij_mr M j') (ij_ws P M Ts my mb j') (ij_rm d) 0 0 (ij_mn M j') :=
            callB_of (ws' := Ts) (ij_mn M j') hts (fun w hw => by
              rcases List.mem_cons.mp hw with rfl | hw
              · rw [hce] at hcode; exact ⟨hcode, good_of_word (hokm.1 _ hcode)⟩
              · exact hgood w hw) rfl rfl rfl (hts _ hini) (hts _ hlink) hdd (by refine ⟨by show d + 8 + 1 ≤ R.frames; omega, ?_⟩; show 8 + (ij_ml P j' + 11) + (64 * d + 600) ≤ R.locals; omega)
          refine va_runV (As := ((st.take (ij_mn M j')).reverse).map (ij_v ad)) (rest := r'.map (ij_v ad)) ⟨hx, hb, hml, hown, hts⟩ hMet ⟨hCB, hts _ hins, hts _ hsel⟩ ⟨ik_blind hst, hrecv, fun U hU hW => ⟨rfl, by rw [hU]; exact hP, va_K.moved hW.alike hK, hD, hst.2 s U locs hNs hW (by rw [hU]; exact hS)⟩⟩ rfl (by simpa using hcond.2) hl.1.1 ?_ (lv_room (by rw [ij_cs_map]; exact hcond2.2)) hd hf
          show st.map (ij_v ad) = _
          rw [← List.map_reverse, List.reverse_reverse]
          have hsp : st = st.take (ij_mn M j') ++ .ref b :: r' := by rw [← hst9, List.take_append_drop]
          conv => lhs; rw [hsp]
          simp [ij_v]
        · cases hc
      · cases hc
    · cases hc
  | invokestatic i =>
    obtain rfl := ij_beq hlk2
    obtain ⟨j', hj, hc⟩ := ij_bind hc
    split at hc
    · rename_i hcond
      obtain ⟨rfl, rfl, rfl⟩ : j' = j ∧ (st.take (ij_mn M j')).reverse = as ∧ st.drop (ij_mn M j') = r := by
        have := Option.some.inj hc
        exact ⟨congrArg Prod.fst this, congrArg (fun z => z.2.1) this, congrArg (fun z => z.2.2) this⟩
      obtain ⟨hlink, hcode, hini, hstat, -, hdd, hml40⟩ := hokm.2.1 _ _ _ hj
      have hPre : PreS s H (ik_Pc N P cl nf D cA ad K A (st.take (ij_mn M j')).reverse σ) (((st.take (ij_mn M j')).reverse).map (ij_v ad)) := ⟨ik_blind hst, fun U hU hW => ⟨rfl, by rw [hU]; exact hP, va_K.moved hW.alike hK, hD, hst.2 s U locs hNs hW (by rw [hU]; exact hS)⟩⟩
      have hstk : (F0 m pc ls (st.map (ij_v ad))).stack = (((st.take (ij_mn M j')).reverse).map (ij_v ad)).reverse ++ (st.drop (ij_mn M j')).map (ij_v ad) := by
        show st.map (ij_v ad) = _
        rw [← List.map_reverse, List.reverse_reverse, ← List.map_append, List.take_append_drop]
      have hce := ix_code_nil (P := P) (M := M) (my := my) (mb := mb) hmh
      have hCB : CallB R s args (cn (ij_mo P mi)) i (my j') (mb j') (ij_ml P j') (ij_mr M j') (ij_ws P M Ts my mb j') (ij_rm d) 0 0 (ij_mn M j') :=
        callB_of (ws' := Ts) (ij_mn M j') hts (fun w hw => by
          rcases List.mem_cons.mp hw with rfl | hw
          · rw [hce] at hcode; exact ⟨hcode, good_of_word (hokm.1 _ hcode)⟩
          · exact hgood w hw) rfl rfl rfl (hts _ hini) (hts _ hlink) hdd (by refine ⟨by show d + 8 + 1 ≤ R.frames; omega, ?_⟩; show 8 + (ij_ml P j' + 11) + (64 * d + 600) ≤ R.locals; omega)
      exact va_runS (As := ((st.take (ij_mn M j')).reverse).map (ij_v ad)) (rest := (st.drop (ij_mn M j')).map (ij_v ad)) ⟨hx, hb, hml, hown, hts⟩ hMet ⟨hCB, hts _ (hstat hcond.1)⟩ hPre rfl (by simpa using hcond.2.1) hl.1.1 hstk (lv_room (by rw [ij_cs_map]; exact hcond.2.2)) hd hf
    · cases hc
  | _ => cases hc

set_option maxHeartbeats 4000000 in
set_option maxRecDepth 100000 in
theorem ix_evW (hlt : l.stackTraces = false) (hst : ik_stays N A) (hNs : N s) {C1 : ij_R} {C2 : ix_R} {d : Nat} (hM1 : ik_known N l P M Ts cl nf my mb D cA ad K A C1 d) (hM2 : ix_known N l P M T Ts cl nf my mb D cA ad K A C2 d) (hokm : ix_okm P M T N A Ts cl cn my mb) (hR : R = ix_rm T mi (d + 1)) (hr : meth.sig.returnType = ij_mr M mi) (hlk : meth.locks = false) (hml : c.maxLocals = ij_ml P mi) (hET : c.exceptionTable.toList = tableOf (ix_mh T mi))
    (F : ij_fix p s m args c P Ts cl nf ty cn mb D cA mi) : ∀ (n b : Nat) (q : ij_C) (o : ix_O) (τ : ij_S), b ≤ ix_co T mi → ix_ev P M K T C1 C2 mi n b q o τ →
    ∀ (H : Heap) (locs : List Loc) (ls : Array Slot), ij_at P cl nf D cA ad K A s.heap (ij_ml P mi) q.2.1 q.2.2.2 H locs ls →
      W p l e R s m args below meth c H locs (ix_co T mi - b) (6 * (ix_co T mi - b)) (vx_MQ below (ix_Qc P cl nf D cA ad K A o τ) (ix_XC P cl nf D cA ad K A o τ) args s (ix_co T mi) (6 * ix_co T mi) A) (F0 m q.1 ls (q.2.2.1.map (ij_v ad))) := by
  have hR1 : d + 21 ≤ R.frames := by rw [hR]; exact Nat.le_refl _
  have hR2 : 64 * d + 1064 ≤ R.locals := by rw [hR]; show 64 * d + 1064 ≤ 64 * (d + 1) + 1000; omega
  have hR3 : R.cells = ix_co T mi := by rw [hR]; rfl
  have hR4 : R.slots = 6 * ix_co T mi := by rw [hR]; rfl
  intro n
  induction n with
  | zero => intro b q o τ _ h; exact h.elim
  | succ n ih =>
    intro b q o τ hb9 h H locs ls X
    obtain ⟨pc, L, st, σ⟩ := q
    rcases h with ⟨k, ⟨ins, len⟩, z, hdc, hs, hz, hn⟩ | ⟨⟨ins, len⟩, j, as, r, w, σ', hdc, hc, hmh, hC, hn⟩ | ⟨⟨ins, len⟩, j, as, r, w, σ', hdc, hc, hco, hC, hn⟩ | ⟨⟨ins, len⟩, j, as, r, E, hdc, hc, hco, hC, hmh, ho⟩ | ⟨⟨ins, len⟩, j, as, r, E, σ', h9, ⟨y9, len9⟩, i9, k9, L9, hdc, hc, hco, hC, hhx, hdy, has, hi9, hL9, hn⟩ | ⟨⟨ins, len⟩, z, hdc, hs, hz, hv, hτ⟩ | ⟨E, hth, hb1, hcs, hmh, ho, hτ⟩ | ⟨L', hL, hn⟩
    · exact ij_one F hdc hs hz X (fun H locs ls X => ih b z.2 o τ hb9 hn H locs ls X)
    · obtain ⟨hP, hD, hS, hl⟩ := id X
      refine ij_callW (ix_run1 hst hNs hokm hR1 hR2 hml F hdc hc (hM1 j as σ w σ' hC) hmh X ⟨by rw [hR3]; omega, by rw [hR4]; omega⟩) hS (fun H1 locs1 hP1 hD1 hS1 => ?_)
      have := ih b (pc + 3, L, w.toList ++ r, σ') o τ hb9 hn H1 locs1 ls ⟨hP1, hD1, hS1, hl⟩
      have he : (w.map (ij_v ad)).toList ++ r.map (ij_v ad) = (w.toList ++ r).map (ij_v ad) := by cases w <;> simp
      rw [he]
      exact this
    · obtain ⟨hP, hD, hS, hl⟩ := id X
      have hco : ix_co T j ≤ b := hco
      refine ix_callR (ix_run hst hNs hokm hR1 hR2 hml F hdc hc (hM2 j as σ (.inl w) σ' hC) X ⟨by rw [hR3]; omega, by rw [hR4]; omega⟩) hS (fun H1 locs1 hP1 hD1 hS1 => ?_)
      have := ih (b - ix_co T j) (pc + 3, L, w.toList ++ r, σ') o τ (by omega) hn H1 locs1 ls ⟨hP1, hD1, hS1, hl⟩
      have he : (w.map (ij_v ad)).toList ++ r.map (ij_v ad) = (w.toList ++ r).map (ij_v ad) := by cases w <;> simp
      rw [he]
      exact W.cs (by omega) (by omega) this
    · obtain ⟨hP, hD, hS, hl⟩ := id X
      have hco : ix_co T j ≤ b := hco
      refine ix_callT (ix_run hst hNs hokm hR1 hR2 hml F hdc hc (hM2 j as σ (.inr E) τ hC) X ⟨by rw [hR3]; omega, by rw [hR4]; omega⟩) hS (fun ce q9 H1 locs1 hP1 hD1 hS1 hc1 hc2 hc3 => ?_)
      refine vx_out (fun x hx => ?_) hlk hc1 hc2 hc3 (fun t ht hW => ⟨ho, by rw [ht]; exact hP1, hD1, hS1.F ht⟩) hS1.2.2 (by omega) (by omega)
      rw [hET, hmh] at hx
      cases hx
    · obtain ⟨hok, hx, hb, hts, hown, hK⟩ := id F
      obtain ⟨hP, hD, hS, hl⟩ := id X
      have hco : ix_co T j ≤ b := hco
      refine ix_callT (ix_run hst hNs hokm hR1 hR2 hml F hdc hc (hM2 j as σ (.inr E) σ' hC) X ⟨by rw [hR3]; omega, by rw [hR4]; omega⟩) hS (fun ce q9 H1 locs1 hP1 hD1 hS1 hc1 hc2 hc3 => ?_)
      obtain ⟨pre, x, suf, name, ht1, ht2, ht3, ht4, ht5, ht6, ht7⟩ := hokm.2.2.2.2.2 mi pc E h9 hhx args s hNs hts
      have hW : W p l e R s m args below meth c H1 locs1 (ix_co T mi - b + ix_co T j) (6 * (ix_co T mi - b) + 6 * ix_co T j) (vx_MQ below (ix_Qc P cl nf D cA ad K A o τ) (ix_XC P cl nf D cA ad K A o τ) args s (ix_co T mi) (6 * ix_co T mi) A) (F0 m h9 ls [.ref q9]) := by
        obtain ⟨hd9, hlk9⟩ := hok.1 mi h9 _ hdy
        have fin : ∀ (ls' : Array Slot), lv_has ls' (ij_ml P mi) ((i9, Value.ref q9) :: (ij_al ad L).filter (fun q => !(q.1 == i9) && !(q.1 + 1 == i9 && q.2.category == 2))) → W p l e R s m args below meth c H1 locs1 (ix_co T mi - b + ix_co T j) (6 * (ix_co T mi - b) + 6 * ix_co T j) (vx_MQ below (ix_Qc P cl nf D cA ad K A o τ) (ix_XC P cl nf D cA ad K A o τ) args s (ix_co T mi) (6 * ix_co T mi) A) (F0 m (h9 + k9) ls' []) := by
          intro ls' hl'
          refine W.cs (by omega) (by omega) (ih (b - ix_co T j) (h9 + k9, L9, [], σ') o τ (by omega) hn H1 locs1 ls' ⟨hP1, hD1, hS1, ⟨hl'.1, hl'.2.1, fun q hq => by cases hq⟩, fun k w hk => ?_⟩)
          obtain ⟨g1, g2, g3⟩ := hL9 k w hk
          refine hl'.2.2 (k, ij_v ad w) (List.mem_cons_of_mem _ (List.mem_filter.mpr ⟨ij_al_in g1, ?_⟩))
          simp only [ij_v_cat]
          by_cases hq : k + 1 = i9
          · have hc' : ¬ w.category = 2 := fun q => g3 ⟨hq, q⟩
            simp [g2, hc']
          · simp [g2, hq]
        cases y9 with
        | astore i =>
          obtain rfl := ij_beq hlk9
          cases has
          exact lv_astore hx hb hd9 (ij_lh_al hl) hi9 rfl fin
        | astore_n i =>
          obtain rfl := ij_beq hlk9
          cases has
          exact lv_astore_n hx hb hd9 rfl (ij_lh_al hl) hi9 rfl fin
        | _ => cases has
      refine vx_catch hown pre x suf (hET.trans ht1) ht2 ht3 ht4 ht5 ht6 hc1 hc2 hc3 ?_
      rw [ht7]
      exact hW
    · obtain ⟨hok, hx, hb, hts, hown, hK⟩ := id F
      obtain ⟨hd, hlk2⟩ := hok.1 mi pc _ hdc
      obtain ⟨hP, hD, hS, hl⟩ := id X
      subst hv
      subst hτ
      refine W.widen (k := ix_co T mi) (n := 6 * ix_co T mi) (by omega) (by omega) (vx_ret ?_)
      cases ins with
      | ireturn =>
        obtain rfl := ij_beq hlk2
        unfold ij_ret at hs
        dsimp only at hs
        split at hs
        · rename_i x
          obtain rfl := Option.some.inj hs
          have hz : ij_rti (ij_mr M mi) x := hz
          have hq : ∀ t : State, t.heap = H → s.WarmedH t.vm → ix_Qc P cl nf D cA ad K A (.inl (some (.int x))) τ args s (.returned (some (.int x))) t := fun t ht hW => ⟨_, rfl, ⟨rfl, by rw [ht]; exact hP, hD⟩, hS.F ht⟩
          unfold ij_rti at hz
          split at hz
          · rename_i hrt
            exact W.iret hx hb (hr.trans hrt) hq hS.2.2 hd hlk
          · rename_i hrt
            exact W.zret hx hb (hr.trans hrt) (by rcases hz with rfl | rfl <;> rfl) hq hS.2.2 hd hlk
          · exact hz.elim
        · cases hs
      | lreturn =>
        obtain rfl := ij_beq hlk2
        unfold ij_ret at hs
        dsimp only at hs
        split at hs
        · rename_i x
          obtain rfl := Option.some.inj hs
          have hq : ∀ t : State, t.heap = H → s.WarmedH t.vm → ix_Qc P cl nf D cA ad K A (.inl (some (.long x))) τ args s (.returned (some (.long x))) t := fun t ht hW => ⟨_, rfl, ⟨rfl, by rw [ht]; exact hP, hD⟩, hS.F ht⟩
          exact W.lret hx hb (hr.trans hz) hq hS.2.2 hd hlk
        · cases hs
      | return_ =>
        obtain rfl := ij_beq hlk2
        unfold ij_ret at hs
        dsimp only at hs
        split at hs
        · obtain rfl := Option.some.inj hs
          have hq : ∀ t : State, t.heap = H → s.WarmedH t.vm → ix_Qc P cl nf D cA ad K A (.inl none) τ args s (.returned none) t := fun t ht hW => ⟨_, rfl, ⟨rfl, by rw [ht]; exact hP, hD⟩, hS.F ht⟩
          exact W.vret hx hb (hr.trans hz) hq hS.2.2 hd hlk
        · cases hs
      | _ => cases hs
    · obtain ⟨hok, hx, hb, hts, hown, hK⟩ := id F
      obtain ⟨hP, hD, hS, hl⟩ := id X
      obtain ⟨ik, ic, names, e0, e3, e4, e7, hfE, hfn, hkl, hini, hnl, hgood, hat⟩ := hokm.2.2.2.2.1 mi pc E hth
      have e0 := (hok.1 mi _ _ e0).1
      have e3 := (hok.1 mi _ _ e3).1
      have e4 := (hok.1 mi _ _ e4).1
      have e7 := (hok.1 mi _ _ e7).1
      obtain ⟨hU, hN9⟩ := hokm.2.2.2.1 s hNs
      have hτ : τ = σ := hτ
      have hcs : ij_cs st ≤ 8 := hcs
      subst hτ
      refine vx_throw0 hx hb hlt hown hfE hfn (hts _ hkl) (hts _ hini) (hat args s hNs hts) hgood hU hN9 hS (hl.1.1.trans hml.symm) e0 e3 e4 e7 (fun x hx => ?_) (by omega) (by rw [ij_cs_map]; omega) (by rw [hR3]; omega) (by rw [hR4]; omega) hlk (fun t hW h1 h2 => ?_) hS.2.2 (by omega) (by omega)
      · rw [hET, hmh] at hx
        cases hx
      · refine ⟨ho, ?_, hD, Nat.le_trans hS.1 h1, fun q h3 h4 => ?_⟩
        · exact hP.kept (fun k q hk => h2 q.1 ((hP k q hk).lt))
        · rw [h2 q (Nat.lt_of_lt_of_le h3 hS.1)]
          exact hS.2.1 q h3 h4
    · obtain ⟨hP, hD, hS, hl⟩ := id X
      exact ih b (pc, L', st, σ) o τ hb9 hn H locs ls ⟨hP, hD, hS, hl.1, fun i w hi => hl.2 i w (hL i w hi)⟩
theorem ix_ev_dc {C1 : ij_R} {C2 : ix_R} (hokm : ix_okm P M T N A Ts cl cn my mb) {n b : Nat} {q : ij_C} {o : ix_O} {τ : ij_S} (h : ix_ev P M K T C1 C2 mi n b q o τ) : ∃ x, ij_dc P mi q.1 = some x := by
  induction n generalizing q b with
  | zero => exact h.elim
  | succ n ih =>
    rcases h with ⟨k, x, z, hdc, -⟩ | ⟨x, j, as, r, w, σ', hdc, -⟩ | ⟨x, j, as, r, w, σ', hdc, -⟩ | ⟨x, j, as, r, E, hdc, -⟩ | ⟨x, j, as, r, E, σ', h9, y9, i9, k9, L9, hdc, -⟩ | ⟨x, z, hdc, -⟩ | ⟨E, hth, -⟩ | ⟨L', -, hn⟩
    · exact ⟨x, hdc⟩
    · exact ⟨x, hdc⟩
    · exact ⟨x, hdc⟩
    · exact ⟨x, hdc⟩
    · exact ⟨x, hdc⟩
    · exact ⟨x, hdc⟩
    · obtain ⟨ik, ic, names, e0, -⟩ := hokm.2.2.2.2.1 mi q.1 E hth
      exact ⟨_, e0⟩
    · exact ih (q := (q.1, L', q.2.2.1, q.2.2.2)) hn
set_option maxHeartbeats 4000000 in
set_option maxRecDepth 100000 in
/-- EVERY CALL THAT MAY THROW IS A CONTRACT OF THE MACHINE -/
theorem ix_met (hlt : l.stackTraces = false) (hst : ik_stays N A) {C1 : Nat → ij_R} (hM1 : ∀ d, ik_known N l P M Ts cl nf my mb D cA ad K A (C1 d) d) {X2 : ix_R} (hX2 : ∀ d, ix_known N l P M T Ts cl nf my mb D cA ad K A X2 (d + 1)) (hok : ij_ok P Ts cl nf ty cn mb) (hokm : ix_okm P M T N A Ts cl cn my mb) : ∀ d, ix_known N l P M T Ts cl nf my mb D cA ad K A (ix_cr P M K T C1 X2 d) d := by
  intro d
  induction d with
  | zero => intro j as σ o τ h; exact h.elim
  | succ d ih =>
    intro j as σ o τ h
    rcases h with h | ⟨hco1, hlen, n, hn⟩
    · exact hX2 d j as σ o τ h
    obtain ⟨x, hdc⟩ := ix_ev_dc hokm hn
    obtain ⟨hpl, hcn⟩ := hokm.2.2.1 j x hdc hco1
    cases hmh : ix_mh T j with
    | nil =>
      have hce := ix_code_nil (P := P) (M := M) (my := my) (mb := mb) hmh
      refine vx_ofW (cc := mb j) (maxL := ij_ml P j) (ret := ij_mr M j) hpl (by unfold ix_ws; rw [hce]) ?_
      intro p e s m args below meth c s₁ B hml hET hv
      obtain ⟨rfl, hP, hK, hD, hN⟩ := hv
      have hts : ∀ w ∈ Ts, w.before ((as.map (ij_v ad)).toArray) s = true := fun w hw => atoms_spec (ws := ix_ws P M T Ts my mb j) B.pre w (List.mem_cons_of_mem _ hw)
      have hown : s.vm.findClass (my j).cls = some m.cls := findClass_of_methodNamed B.named
      have hl := lv_entry (as.map (ij_v ad)) (n := ij_ml P j) (by rw [ij_sl]; exact hlen)
      have hET : c.exceptionTable.toList = tableOf (ix_mh T j) := by
        rw [hmh]
        cases hx : c.exceptionTable.toList with
        | nil => rfl
        | cons y ys => exact (hET y (by rw [hx]; exact List.mem_cons_self)).elim
      rw [lg_entry_eq]
      exact W.cs (by omega) (by omega) (ix_evW hlt hst hN (hM1 d) ih hokm rfl B.returns B.notSynchronized hml hET ⟨hok, B.exec, B.bytes, hts, by rw [hcn]; exact hown, hK⟩ n (ix_co T j) (0, ij_in as (ij_ml P j), [], σ) o τ (Nat.le_refl _) hn s.heap [] _ ⟨hP, hD, va_S.rf, ij_lh_in hl⟩)
    | cons h9 t9 =>
      have hce := ix_code_cons (P := P) (M := M) (my := my) (mb := mb) hmh
      refine vx_ofWH (cc := mb j) (maxL := ij_ml P j) (ret := ij_mr M j) (hh := h9 :: t9) hpl (by unfold ix_ws; rw [hce]) ?_
      intro p e s m args below meth c s₁ B hml hv
      obtain ⟨rfl, hP, hK, hD, hN⟩ := hv
      have hts : ∀ w ∈ Ts, w.before ((as.map (ij_v ad)).toArray) s = true := fun w hw => atoms_spec (ws := ix_ws P M T Ts my mb j) B.pre w (List.mem_cons_of_mem _ hw)
      have hown : s.vm.findClass (my j).cls = some m.cls := findClass_of_methodNamed B.named
      have hl := lv_entry (as.map (ij_v ad)) (n := ij_ml P j) (by rw [ij_sl]; exact hlen)
      have hET : c.exceptionTable.toList = tableOf (ix_mh T j) := by
        rw [hmh]
        exact vx_table (x := my j) B (atoms_spec (ws := ix_ws P M T Ts my mb j) B.pre _ (by unfold ix_ws; rw [hce]; exact List.mem_cons_self))
      rw [lg_entry_eq]
      exact W.cs (by omega) (by omega) (ix_evW hlt hst hN (hM1 d) ih hokm rfl B.returns B.notSynchronized hml hET ⟨hok, B.exec, B.bytes, hts, by rw [hcn]; exact hown, hK⟩ n (ix_co T j) (0, ij_in as (ij_ml P j), [], σ) o τ (Nat.le_refl _) hn s.heap [] _ ⟨hP, hD, va_S.rf, ij_lh_in hl⟩)
end IXD
