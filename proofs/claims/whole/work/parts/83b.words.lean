/-! ===== isWord and forbiddenAt, by hand ===== -/
section XW0
variable {p : Program} {l : Launch} {e : Env} {R : Room} {s : State} {m : MethodId} {args : Array Value} {below : List Frame} {meth : Method} {c : Code} {cells slots : Nat} {Q : State → Prop}
variable {P : ij_P} {Ts : List Cond} {cl : List vw_C} {nf : Nat → Nat} {ty : Nat → Nat → FieldType} {cn : Nat → String} {mb : Nat → ByteArray}
variable {D : va_G} {cA : Nat → ClassId} {ad : Nat → Nat} {K : ij_Ks} {A : Nat → Prop} {mi : Nat}
/-- a path of the pure picture is a run of the machine -/
theorem ij_pathW (F : ij_fix p s m args c P Ts cl nf ty cn mb D cA mi) : ∀ (bs : List Nat) {q q' : ij_C} {φ : List Prop}, ij_path P K mi bs q = some (φ, q') → ij_all φ → ∀ {H : Heap} {locs : List Loc} {ls : Array Slot}, ij_at P cl nf D cA ad K A s.heap (ij_ml P mi) q.2.1 q.2.2.2 H locs ls →
    (∀ (H : Heap) (locs : List Loc) (ls : Array Slot), ij_at P cl nf D cA ad K A s.heap (ij_ml P mi) q'.2.1 q'.2.2.2 H locs ls → W p l e R s m args below meth c H locs cells slots Q (F0 m q'.1 ls (q'.2.2.1.map (ij_v ad)))) → W p l e R s m args below meth c H locs cells slots Q (F0 m q.1 ls (q.2.2.1.map (ij_v ad))) := by
  intro bs
  induction bs with
  | nil => intro q q' φ h _ H locs ls X kk; cases h; exact kk H locs ls X
  | cons b bs ih =>
    intro q q' φ h hz H locs ls X kk
    obtain ⟨x, hx, h⟩ := ij_bind h
    obtain ⟨z1, hz1, h⟩ := ij_bind h
    obtain ⟨⟨φ2, q2⟩, hy, h⟩ := ij_bind h
    cases h
    obtain ⟨g1, g2⟩ := ij_all_app hz
    exact ij_one F hx hz1 g1 X (fun H locs ls X => ih hy g2 X kk)
end XW0
theorem xw_in {x : Int32} {n : Nat} (hn : n < 2 ^ 31) (h0 : ¬ x < 0) (h1 : ¬ Int32.ofNat n ≤ x) : vp_in x n := by
  intro h
  rcases h with h | h
  · exact h0 h
  · apply h1
    rw [Int32.le_iff_toInt_le, Int32.toInt_ofNat_of_lt hn]
    have e1 : x.toNatClampNeg = x.toInt.toNat := rfl
    have h3 : 0 ≤ x.toInt := by have := Int32.not_lt.mp h0; simpa using Int32.le_iff_toInt_le.mp this
    omega
/-- byteAt(i) of the tape -/
def xw_by (I : Nat → Nat → Int32) (i : Int32) : Int32 := if i < 0 then 0 else if (200 : Int32) ≤ i then 0 else I 2 i.toNatClampNeg
/-- isWord of constant i -/
def xw_w (I : Nat → Nat → Int32) (i : Nat) : Int32 := if I 3 8 = 1 ∧ I 3 7 - I 3 5 = nI (jx_len.getD i 0) ∧ ∀ k, k < jx_len.getD i 0 → xw_by I (I 3 5 + nI k) = jx_ch i k then 1 else 0
def xw_nd : List Int32 := [0, 124, 120, 116, 104, 92, 48, 124, 104, 116]
/-- forbiddenAt(c) -/
def xw_f (c : Int32) : Int32 := if c < 0 then 126 else if (10 : Int32) ≤ c then 126 else xw_nd.getD c.toNatClampNeg 0
/-- the table that nobody writes -/
def xw_N (A : Nat → Prop) (s : State) : Prop := ∃ t : Nat, va_Z "FarBoard$Draft" "NOT_DIVIDING" "[I" (.ref t) A s s.heap ∧ va_T .int t 10 (fun j => .int (xw_nd.getD j 0)) A s s.heap
theorem jx_N.narrow {A B : Nat → Prop} {adK adV : Nat → Nat} {s : State} (h : jx_N A adK adV s) (hAB : ∀ q, B q → A q) : jx_N B adK adV s := ⟨h.1.narrow hAB, h.2.1.narrow hAB, h.2.2.narrow hAB⟩
theorem xw_N.narrow {A B : Nat → Prop} {s : State} (h : xw_N A s) (hAB : ∀ q, B q → A q) : xw_N B s := by
  obtain ⟨t, h1, h2⟩ := h
  exact ⟨t, h1.narrow hAB, h2.narrow hAB⟩
theorem xw_N.kept {A : Nat → Prop} {u U : State} (hvm : u.vm.Alike U.vm) (hh : ∀ q : Nat, q < u.heap.size → ¬ A q → U.heap[q]? = u.heap[q]?) (h : xw_N A u) : xw_N A U := by
  obtain ⟨t, h1, h2⟩ := h
  exact ⟨t, va_Z.moved hvm (h1.kept hh), va_T.moved hvm (h2.kept hh)⟩
/-- the calls told by hand -/
def xw_X : ij_R := fun j as σ w τ => (j = 13 ∧ ∃ c, as = [.int c] ∧ w = some (.int (xw_f c)) ∧ τ = σ) ∨ (j = 64 ∧ ∃ i b I J, i < 2 ∧ as = [.ref 3, .ref (1001 + i)] ∧ σ = (xk_R b, I, J) ∧ w = some (.int (xw_w I i)) ∧ τ = σ)
section XW
variable {l : Launch} {cl : List vw_C} {D : va_G} {Ts : List Cond} {N : State → Prop} {cA : Nat → ClassId} {ad : Nat → Nat} {A : Nat → Prop} {adK adV : Nat → Nat}
theorem xw_d13_0 : decode (xk_mb 13) 0 = .ok (.iload_n 0, 1) := by decide +kernel
theorem xw_d13_1 : decode (xk_mb 13) 1 = .ok (.ifCond .lt 19, 3) := by decide +kernel
theorem xw_d13_4 : decode (xk_mb 13) 4 = .ok (.iload_n 0, 1) := by decide +kernel
theorem xw_d13_5 : decode (xk_mb 13) 5 = .ok (.getstatic 53, 3) := by decide +kernel
theorem xw_d13_8 : decode (xk_mb 13) 8 = .ok (.arraylength, 1) := by decide +kernel
theorem xw_d13_9 : decode (xk_mb 13) 9 = .ok (.if_icmp .ge 11, 3) := by decide +kernel
theorem xw_d13_12 : decode (xk_mb 13) 12 = .ok (.getstatic 53, 3) := by decide +kernel
theorem xw_d13_15 : decode (xk_mb 13) 15 = .ok (.iload_n 0, 1) := by decide +kernel
theorem xw_d13_16 : decode (xk_mb 13) 16 = .ok (.iaload, 1) := by decide +kernel
theorem xw_d13_17 : decode (xk_mb 13) 17 = .ok (.goto 5, 3) := by decide +kernel
theorem xw_d13_20 : decode (xk_mb 13) 20 = .ok (.bipush 126, 2) := by decide +kernel
theorem xw_d13_22 : decode (xk_mb 13) 22 = .ok (.ireturn, 1) := by decide +kernel
theorem xw_d64_18 : decode (xk_mb 64) 18 = .ok (.invokevirtual 90, 3) := by decide +kernel
theorem xw_d64_30 : decode (xk_mb 64) 30 = .ok (.invokevirtual 90, 3) := by decide +kernel
theorem xw_d64_46 : decode (xk_mb 64) 46 = .ok (.invokevirtual 65, 3) := by decide +kernel
theorem xw_d64_51 : decode (xk_mb 64) 51 = .ok (.invokevirtual 94, 3) := by decide +kernel
theorem xw_d64_25 : decode (xk_mb 64) 25 = .ok (.ireturn, 1) := by decide +kernel
theorem xw_d64_58 : decode (xk_mb 64) 58 = .ok (.ireturn, 1) := by decide +kernel
theorem xw_d64_66 : decode (xk_mb 64) 66 = .ok (.ireturn, 1) := by decide +kernel
theorem xw_d102_23 : decode (xk_mb 102) 23 = .ok (.ireturn, 1) := by decide +kernel
set_option maxRecDepth 100000 in
theorem xw_forbid (hj : ∀ w ∈ jx_Ts, w ∈ Ts) (hN : ∀ s, N s → xw_N A s) (K : ij_Ks) (c : Int32) (σ : ij_S) (d : Nat) : Met l (xk_my 13) (ij_ws xk_P xk_M Ts xk_my xk_mb 13) (ij_rm (d + 1)) (ik_Pc N xk_P cl xk_nf D cA ad K A [.int c] σ) (ij_Qc xk_P cl xk_nf D cA ad K A (some (.int (xw_f c))) σ) 0 0 A := by
  refine Met.ofW (cc := xk_mb 13) (maxL := 1) (ret := some .int) (by decide +kernel) rfl ?_
  intro p e s m args below meth c0 s₁ B hml hv
  obtain ⟨rfl, hP, hK, hD, hNs⟩ := hv
  obtain ⟨t, hZ, hT⟩ := hN s hNs
  have hx := B.exec
  have hb := B.bytes
  have hts : ∀ w ∈ Ts, w.before (([Value.int c].map (ij_v ad)).toArray) s = true := fun w hw => atoms_spec (ws := ij_ws xk_P xk_M Ts xk_my xk_mb 13) B.pre w (List.mem_cons_of_mem _ hw)
  have hown : s.vm.findClass RX1 = some m.cls := findClass_of_methodNamed B.named
  have hl := lv_entry [.int c] (n := 1) (Nat.le_of_ble_eq_true rfl)
  rw [lg_entry_eq]
  have hl : lv_has ((lg_sl ([Value.int c].map (ij_v ad)) ++ List.replicate (1 - (lg_sl ([Value.int c].map (ij_v ad))).length) Slot.unset).toArray) 1 [(0, .int c)] := hl
  generalize (lg_sl ([Value.int c].map (ij_v ad)) ++ List.replicate (1 - (lg_sl ([Value.int c].map (ij_v ad))).length) Slot.unset).toArray = ls at hl ⊢
  have fin : ∀ v : Int32, xw_f c = v → W p l e (headSpec (ij_ws xk_P xk_M Ts xk_my xk_mb 13) (ij_rm (d + 1))).room s m (([Value.int c].map (ij_v ad)).toArray) below meth c0 s.heap [] 0 0 (MQ below (ij_Qc xk_P cl xk_nf D cA ad K A (some (.int (xw_f c))) σ) (([Value.int c].map (ij_v ad)).toArray) s 0 0 A) (F0 m 22 ls [.int v]) := by
    intro v hv
    subst hv
    exact W.iret hx hb B.returns (fun t ht _ => ⟨⟨rfl, by rw [ht]; exact hP, hD⟩, va_S.rf.F ht⟩) (fun _ h => nomatch h) xw_d13_22
  refine lv_iload_n hx hb xw_d13_0 rfl (lv_at hl 0 rfl) ?_
  refine lv_if_lt hx hb xw_d13_1 (tgt := 20) rfl (fun h => ?_) (fun h => ?_)
  · refine lv_bipush hx hb xw_d13_20 rfl ?_
    exact fin _ (by unfold xw_f; rw [if_pos h]; rfl)
  · refine lv_iload_n hx hb xw_d13_4 rfl (lv_at hl 0 rfl) ?_
    refine va_gets hx hb hZ va_S.rf hown (hts _ (jx_in (k := 32) hj rfl)) (fun _ h => h) xw_d13_5 ?_
    refine va_tlen hx hb hT va_S.rf rfl xw_d13_8 ?_
    refine lv_icmp_ge hx hb xw_d13_9 (tgt := 20) rfl (fun h2 => ?_) (fun h2 => ?_)
    · refine lv_bipush hx hb xw_d13_20 rfl ?_
      exact fin _ (by unfold xw_f; rw [if_neg h, if_pos (show (10 : Int32) ≤ c from h2)]; rfl)
    · refine va_gets hx hb hZ va_S.rf hown (hts _ (jx_in (k := 32) hj rfl)) (fun _ h => h) xw_d13_12 ?_
      refine lv_iload_n hx hb xw_d13_15 rfl (lv_at hl 0 rfl) ?_
      refine va_ti hx hb hT va_S.rf (xw_in (by decide) h h2) (v := .int (xw_nd.getD c.toNatClampNeg 0)) rfl xw_d13_16 ?_
      refine lv_goto hx hb xw_d13_17 (tgt := 22) rfl ?_
      exact fin _ (by unfold xw_f; rw [if_neg h, if_neg (show ¬ (10 : Int32) ≤ c from h2)])
set_option maxRecDepth 100000 in
theorem xw_byteAt (hok : ij_ok xk_P Ts cl xk_nf xk_ty xk_cn xk_mb) (b : Bool) (I : Nat → Nat → Int32) (J : Nat → Nat → Int64) (x1 : Int32) : Met l (xk_my 102) (ij_ws xk_P xk_M Ts xk_my xk_mb 102) (jx_rm 1) (ik_Pc N xk_P cl xk_nf D cA ad xk_K A [.ref 1, .int x1] (xk_R b, I, J)) (ij_Qc xk_P cl xk_nf D cA ad xk_K A (some (.int (xw_by I x1))) (xk_R b, I, J)) 0 0 A := by
  refine Met.ofW (cc := xk_mb 102) (maxL := 2) (ret := some .int) (by decide +kernel) rfl ?_
  intro p e s m args below meth c0 s₁ B hml hv
  obtain ⟨rfl, hP, hK, hD, hNs⟩ := hv
  have hts : ∀ w ∈ Ts, w.before (([Value.ref 1, .int x1].map (ij_v ad)).toArray) s = true := fun w hw => atoms_spec (ws := ij_ws xk_P xk_M Ts xk_my xk_mb 102) B.pre w (List.mem_cons_of_mem _ hw)
  have hown : s.vm.findClass (xk_my 102).cls = some m.cls := findClass_of_methodNamed B.named
  have hl := lv_entry ([Value.ref 1, .int x1].map (ij_v ad)) (n := 2) (Nat.le_of_ble_eq_true rfl)
  rw [lg_entry_eq]
  have F : ij_fix p s m (([Value.ref 1, .int x1].map (ij_v ad)).toArray) c0 xk_P Ts cl xk_nf xk_ty xk_cn xk_mb D cA 102 := ⟨hok, B.exec, B.bytes, hts, hown, hK⟩
  have X0 : ij_at xk_P cl xk_nf D cA ad xk_K A s.heap (ij_ml xk_P 102) (ij_in [.ref 1, .int x1] 2) (xk_R b, I, J) s.heap [] _ := ⟨hP, hD, va_S.rf, ij_lh_in hl⟩
  have fin : ∀ v : Int32, xw_by I x1 = v → ∀ (H : Heap) (locs : List Loc) (ls : Array Slot) (L : ij_L), ij_at xk_P cl xk_nf D cA ad xk_K A s.heap (ij_ml xk_P 102) L (xk_R b, I, J) H locs ls → W p l e (headSpec (ij_ws xk_P xk_M Ts xk_my xk_mb 102) (jx_rm 1)).room s m (([Value.ref 1, .int x1].map (ij_v ad)).toArray) below meth c0 H locs 0 0 (MQ below (ij_Qc xk_P cl xk_nf D cA ad xk_K A (some (.int (xw_by I x1))) (xk_R b, I, J)) (([Value.ref 1, .int x1].map (ij_v ad)).toArray) s 0 0 A) (F0 m 23 ls [.int v]) := by
    intro v hv H locs ls L X
    subst hv
    exact W.iret B.exec B.bytes B.returns (fun t ht _ => ⟨⟨rfl, by rw [ht]; exact X.1, X.2.1⟩, X.2.2.1.F ht⟩) X.2.2.1.2.2 xw_d102_23
  by_cases h0 : x1 < 0
  · exact ij_pathW F [0, 1, 0] (q := (0, ij_in [.ref 1, .int x1] 2, [], (xk_R b, I, J))) (q' := (23, [some (.ref 1), some (.int x1)], [.int 0], (xk_R b, I, J))) (φ := [x1 < 0]) rfl h0 X0 (fun H locs ls X => fin 0 (by unfold xw_by; rw [if_pos h0]) H locs ls _ X)
  · by_cases h1 : (200 : Int32) ≤ x1
    · exact ij_pathW F [0, 0, 0, 0, 0, 0, 1, 0] (q := (0, ij_in [.ref 1, .int x1] 2, [], (xk_R b, I, J))) (q' := (23, [some (.ref 1), some (.int x1)], [.int 0], (xk_R b, I, J))) (φ := [¬ x1 < 0, 0 < 3, (200 : Int32) ≤ x1]) rfl ⟨h0, by decide, h1⟩ X0 (fun H locs ls X => fin 0 (by unfold xw_by; rw [if_neg h0, if_pos h1]) H locs ls _ X)
    · exact ij_pathW F [0, 0, 0, 0, 0, 0, 0, 0, 0, 0, 0, 0] (q := (0, ij_in [.ref 1, .int x1] 2, [], (xk_R b, I, J))) (q' := (23, [some (.ref 1), some (.int x1)], [.int (I 2 x1.toNatClampNeg)], (xk_R b, I, J))) (φ := [¬ x1 < 0, 0 < 3, ¬ (200 : Int32) ≤ x1, vp_in x1 200]) rfl ⟨h0, by decide, h1, xw_in (by decide) h0 h1⟩ X0 (fun H locs ls X => fin _ (by unfold xw_by; rw [if_neg h0, if_neg h1]) H locs ls _ X)
end XW
section XW2
variable {l : Launch} {cl : List vw_C} {D : va_G} {Ts : List Cond} {N : State → Prop} {cA : Nat → ClassId} {ad : Nat → Nat} {A : Nat → Prop} {adK adV : Nat → Nat}
/-- a call of the JDK's own that changes nothing, seen from a world -/
theorem xw_kept {P : ij_P} {nf : Nat → Nat} {K : ij_Ks} {L : ij_L} {σ : ij_S} {H0 H H1 : Heap} {locs locs1 : List Loc} {nL : Nat} {ls : Array Slot} (X : ij_at P cl nf D cA ad K A H0 nL L σ H locs ls) (h1 : H.size ≤ H1.size) (h2 : ∀ q : Nat, q < H.size → H1[q]? = H[q]?) (h3 : ∀ q ∈ locs1, q ∈ locs) : ij_at P cl nf D cA ad K A H0 nL L σ H1 locs1 ls :=
  ⟨fun i x hx => (X.1 i x hx).kept (h2 _ (X.1 i x hx).lt), X.2.1, ⟨Nat.le_trans X.2.2.1.1 h1, fun q hq hA => (h2 q (Nat.lt_of_lt_of_le hq X.2.2.1.1)).trans (X.2.2.1.2.1 q hq hA), fun q hq => X.2.2.1.2.2 q (h3 q hq)⟩, X.2.2.2⟩
set_option maxHeartbeats 4000000 in
set_option maxRecDepth 100000 in
theorem xw_isWord (hok : ij_ok xk_P Ts cl xk_nf xk_ty xk_cn xk_mb) (hokm : ik_okm xk_P xk_M xk_Y N ad Ts cl xk_cn xk_my xk_mb) (hst : ik_stays N A) (hj : ∀ w ∈ jx_Ts, w ∈ Ts) (hg : ∀ w ∈ Ts, goodWord w = true) (hN : ∀ s, N s → jx_N A adK adV s) {i : Nat} (hi : i < 2) (had : ad (1001 + i) = adK i) (b : Bool) (I : Nat → Nat → Int32) (J : Nat → Nat → Int64) (d : Nat) :
    Met l (xk_my 64) (ij_ws xk_P xk_M Ts xk_my xk_mb 64) (ij_rm (d + 1)) (ik_Pc N xk_P cl xk_nf D cA ad xk_K A [.ref 3, .ref (1001 + i)] (xk_R b, I, J)) (ij_Qc xk_P cl xk_nf D cA ad xk_K A (some (.int (xw_w I i))) (xk_R b, I, J)) 0 0 A := by
  refine Met.ofW (cc := xk_mb 64) (maxL := 3) (ret := some .boolean) (by decide +kernel) rfl ?_
  intro p e s m args below meth c0 s₁ B hml hv
  obtain ⟨rfl, hP, hK, hD, hNs⟩ := hv
  obtain ⟨hZ, hS, hF⟩ := hN s hNs
  have hx := B.exec
  have hb := B.bytes
  have hts : ∀ w ∈ Ts, w.before (([Value.ref 3, .ref (1001 + i)].map (ij_v ad)).toArray) s = true := fun w hw => atoms_spec (ws := ij_ws xk_P xk_M Ts xk_my xk_mb 64) B.pre w (List.mem_cons_of_mem _ hw)
  have hgood : GoodIn Ts Ts := fun w hw => ⟨hw, good_of_word (hg w hw)⟩
  have hown : s.vm.findClass (xk_my 64).cls = some m.cls := findClass_of_methodNamed B.named
  have hown3 : s.vm.findClass RX3 = some m.cls := hown
  have hl := lv_entry ([Value.ref 3, .ref (1001 + i)].map (ij_v ad)) (n := 3) (Nat.le_of_ble_eq_true rfl)
  rw [lg_entry_eq]
  have F : ij_fix p s m (([Value.ref 3, .ref (1001 + i)].map (ij_v ad)).toArray) c0 xk_P Ts cl xk_nf xk_ty xk_cn xk_mb D cA 64 := ⟨hok, B.exec, B.bytes, hts, hown, hK⟩
  have X0 : ij_at xk_P cl xk_nf D cA ad xk_K A s.heap (ij_ml xk_P 64) (ij_in [.ref 3, .ref (1001 + i)] 3) (xk_R b, I, J) s.heap [] _ := ⟨hP, hD, va_S.rf, ij_lh_in hl⟩
  have hR1 : 9 ≤ (headSpec (ij_ws xk_P xk_M Ts xk_my xk_mb 64) (ij_rm (d + 1))).room.frames := by show 9 ≤ d + 1 + 8; omega
  have hR2 : 664 ≤ (headSpec (ij_ws xk_P xk_M Ts xk_my xk_mb 64) (ij_rm (d + 1))).room.locals := by show 664 ≤ 64 * (d + 1) + 600; omega
  have fin : ∀ (v : Int32) (pc : Nat), xw_w I i = v → (v = 0 ∨ v = 1) → decode (xk_mb 64) pc = .ok (.ireturn, 1) → ∀ (H : Heap) (locs : List Loc) (ls : Array Slot) (L : ij_L), ij_at xk_P cl xk_nf D cA ad xk_K A s.heap (ij_ml xk_P 64) L (xk_R b, I, J) H locs ls → W p l e (headSpec (ij_ws xk_P xk_M Ts xk_my xk_mb 64) (ij_rm (d + 1))).room s m (([Value.ref 3, .ref (1001 + i)].map (ij_v ad)).toArray) below meth c0 H locs 0 0 (MQ below (ij_Qc xk_P cl xk_nf D cA ad xk_K A (some (.int (xw_w I i))) (xk_R b, I, J)) (([Value.ref 3, .ref (1001 + i)].map (ij_v ad)).toArray) s 0 0 A) (F0 m pc ls [.int v]) := by
    intro v pc hv hv01 hpc H locs ls L X
    subst hv
    exact W.zret B.exec B.bytes B.returns (by rcases hv01 with h | h <;> rw [h] <;> rfl) (fun t ht _ => ⟨⟨rfl, by rw [ht]; exact X.1, X.2.1⟩, X.2.2.1.F ht⟩) X.2.2.1.2.2 hpc
  have hNU : ∀ (U : State) (H : Heap) (locs : List Loc), U.heap = H → s.WarmedH U.vm → va_S A s.heap H locs → N U := fun U H locs hU hW hS9 => hst.2 s U locs hNs hW (by rw [hU]; exact hS9)
  -- length()
  have len : ∀ (pc : Nat), decode (xk_mb 64) pc = .ok (.invokevirtual 90, 3) → ∀ (H : Heap) (locs : List Loc) (ls : Array Slot) (L : ij_L) (r : List Value), ij_cs r ≤ 8 → ij_at xk_P cl xk_nf D cA ad xk_K A s.heap (ij_ml xk_P 64) L (xk_R b, I, J) H locs ls →
      (∀ (H : Heap) (locs : List Loc), ij_at xk_P cl xk_nf D cA ad xk_K A s.heap (ij_ml xk_P 64) L (xk_R b, I, J) H locs ls → W p l e (headSpec (ij_ws xk_P xk_M Ts xk_my xk_mb 64) (ij_rm (d + 1))).room s m (([Value.ref 3, .ref (1001 + i)].map (ij_v ad)).toArray) below meth c0 H locs 0 0 (MQ below (ij_Qc xk_P cl xk_nf D cA ad xk_K A (some (.int (xw_w I i))) (xk_R b, I, J)) (([Value.ref 3, .ref (1001 + i)].map (ij_v ad)).toArray) s 0 0 A) (F0 m (pc + 3) ls (.int (nI (jx_len.getD i 0)) :: r.map (ij_v ad)))) →
      W p l e (headSpec (ij_ws xk_P xk_M Ts xk_my xk_mb 64) (ij_rm (d + 1))).room s m (([Value.ref 3, .ref (1001 + i)].map (ij_v ad)).toArray) below meth c0 H locs 0 0 (MQ below (ij_Qc xk_P cl xk_nf D cA ad xk_K A (some (.int (xw_w I i))) (xk_R b, I, J)) (([Value.ref 3, .ref (1001 + i)].map (ij_v ad)).toArray) s 0 0 A) (F0 m pc ls (.ref (ad (1001 + i)) :: r.map (ij_v ad))) := by
    intro pc hpc H locs ls L r hr X kk
    rw [had]
    have hCB : CallB (headSpec (ij_ws xk_P xk_M Ts xk_my xk_mb 64) (ij_rm (d + 1))).room s (([Value.ref 3, .ref (1001 + i)].map (ij_v ad)).toArray) RX3 90 yJ0_length_8abf5 cJ0_length_8abf5 1 (some .int) (Cond.code yJ0_length_8abf5 cJ0_length_8abf5 1 (some .int) :: Ts) (jx_rm 3) 0 0 0 :=
      callB_of (ws' := Ts) 0 hts (fun w hw => by
        rcases List.mem_cons.mp hw with rfl | hw
        · exact ⟨jx_in (k := 4) hj rfl, good_of_word (hg _ (jx_in (k := 4) hj rfl))⟩
        · exact hgood w hw) rfl rfl rfl (hts _ (jx_in (k := 3) hj rfl)) (hts _ (jx_in (k := 0) hj rfl)) ⟨by decide +kernel, by decide +kernel, by decide +kernel⟩ ⟨by show 3 + 1 ≤ _; omega, by show 8 + (1 + 11) + 64 * 3 ≤ _; omega⟩
    exact jx_callW (va_runV (As := []) (rest := r.map (ij_v ad)) ⟨hx, hb, hml, hown3, hts⟩ (jx_length (A := A) (adV := adV) hj hg hi) ⟨hCB, hts _ (jx_in (k := 1) hj rfl), hts _ (jx_in (k := 2) hj rfl)⟩ ⟨jx_blind, vk_recv hS hi X.2.2.1, fun U hU hW => ⟨rfl, hN U (hNU U H locs hU hW X.2.2.1)⟩⟩ rfl rfl X.2.2.2.1.1 rfl (lv_room (by rw [ij_cs_map]; exact hr)) hpc ⟨Nat.zero_le _, Nat.zero_le _⟩) (fun H1 locs1 h1 h2 h3 => kk H1 locs1 (xw_kept X h1 h2 h3))
  -- the loop
  have loop : I 3 8 = 1 → I 3 7 - I 3 5 = nI (jx_len.getD i 0) → ∀ (n k : Nat), k + n = jx_len.getD i 0 → (∀ k', k' < k → xw_by I (I 3 5 + nI k') = jx_ch i k') → ∀ (H : Heap) (locs : List Loc) (ls : Array Slot), ij_at xk_P cl xk_nf D cA ad xk_K A s.heap (ij_ml xk_P 64) [some (.ref 3), some (.ref (1001 + i)), some (.int (nI k))] (xk_R b, I, J) H locs ls →
      W p l e (headSpec (ij_ws xk_P xk_M Ts xk_my xk_mb 64) (ij_rm (d + 1))).room s m (([Value.ref 3, .ref (1001 + i)].map (ij_v ad)).toArray) below meth c0 H locs 0 0 (MQ below (ij_Qc xk_P cl xk_nf D cA ad xk_K A (some (.int (xw_w I i))) (xk_R b, I, J)) (([Value.ref 3, .ref (1001 + i)].map (ij_v ad)).toArray) s 0 0 A) (F0 m 28 ls []) := by
    intro hk1 hk2 n
    have hlen := jx_lens i hi
    induction n with
    | zero =>
      intro k hkn hall H locs ls X
      refine ij_pathW F [0, 0] (q := (28, [some (.ref 3), some (.ref (1001 + i)), some (.int (nI k))], [], (xk_R b, I, J))) (q' := (30, [some (.ref 3), some (.ref (1001 + i)), some (.int (nI k))], [.ref (1001 + i), .int (nI k)], (xk_R b, I, J))) (φ := []) rfl trivial X (fun H locs ls X => ?_)
      refine len 30 xw_d64_30 H locs ls _ [.int (nI k)] (Nat.le_of_ble_eq_true rfl) X (fun H locs X => ?_)
      exact ij_pathW F [1, 0] (q := (33, [some (.ref 3), some (.ref (1001 + i)), some (.int (nI k))], [.int (nI (jx_len.getD i 0)), .int (nI k)], (xk_R b, I, J))) (q' := (66, [some (.ref 3), some (.ref (1001 + i)), some (.int (nI k))], [.int 1], (xk_R b, I, J))) (φ := [nI (jx_len.getD i 0) ≤ nI k]) rfl (nI_le (by omega) (by omega)) X (fun H locs ls X => fin 1 66 (by unfold xw_w; rw [if_pos ⟨hk1, hk2, fun k' hk' => hall k' (by omega)⟩]) (Or.inr rfl) xw_d64_66 H locs ls _ X)
    | succ n ih =>
      intro k hkn hall H locs ls X
      refine ij_pathW F [0, 0] (q := (28, [some (.ref 3), some (.ref (1001 + i)), some (.int (nI k))], [], (xk_R b, I, J))) (q' := (30, [some (.ref 3), some (.ref (1001 + i)), some (.int (nI k))], [.ref (1001 + i), .int (nI k)], (xk_R b, I, J))) (φ := []) rfl trivial X (fun H locs ls X => ?_)
      refine len 30 xw_d64_30 H locs ls _ [.int (nI k)] (Nat.le_of_ble_eq_true rfl) X (fun H locs X => ?_)
      refine ij_pathW F [0, 0, 0, 0, 0, 0, 0] (q := (33, [some (.ref 3), some (.ref (1001 + i)), some (.int (nI k))], [.int (nI (jx_len.getD i 0)), .int (nI k)], (xk_R b, I, J))) (q' := (46, [some (.ref 3), some (.ref (1001 + i)), some (.int (nI k))], [.int (I 3 5 + nI k), .ref 1], (xk_R b, I, J))) (φ := [¬ nI (jx_len.getD i 0) ≤ nI k]) rfl (nI_ge (by omega) (by omega)) X (fun H locs ls X => ?_)
      obtain ⟨hlink, hcode, hini, -, hinst, hdd, -⟩ := hokm.2.1 3 65 102 (by decide +kernel)
      obtain ⟨hins, hsel, qC, hqC, hqn⟩ := hinst (by decide +kernel)
      have hrecv := va_recv hK X.1 hqC (ij_W_get (P := xk_P) (nf := xk_nf) (cA := cA) (ad := ad) (σ := (xk_R b, I, J)) (K := xk_K) (p := 1) rfl)
      rw [hqn] at hrecv
      have hCB : CallB (headSpec (ij_ws xk_P xk_M Ts xk_my xk_mb 64) (ij_rm (d + 1))).room s (([Value.ref 3, .ref (1001 + i)].map (ij_v ad)).toArray) RX3 65 (xk_my 102) (xk_mb 102) 2 (some .int) (ij_ws xk_P xk_M Ts xk_my xk_mb 102) (jx_rm 1) 0 0 1 :=
        callB_of (ws' := Ts) 1 hts (fun w hw => by
          rcases List.mem_cons.mp hw with rfl | hw
          · exact ⟨hcode, good_of_word (hg _ hcode)⟩
          · exact hgood w hw) rfl rfl rfl (hts _ hini) (hts _ hlink) hdd ⟨by show 1 + 1 ≤ _; omega, by show 8 + (2 + 11) + 64 * 1 ≤ _; omega⟩
      refine ij_callW (va_runV (As := [.int (I 3 5 + nI k)]) (rest := []) ⟨hx, hb, hml, hown3, hts⟩ (xw_byteAt (N := N) hok b I J (I 3 5 + nI k)) ⟨hCB, hts _ hins, hts _ hsel⟩ ⟨ik_blind hst, hrecv, fun U hU hW => ⟨rfl, by rw [hU]; exact X.1, va_K.moved hW.alike hK, X.2.1, hNU U H locs hU hW X.2.2.1⟩⟩ rfl rfl X.2.2.2.1.1 rfl (lv_room (Nat.zero_le _)) xw_d64_46 ⟨Nat.zero_le _, Nat.zero_le _⟩) X.2.2.1 (fun H1 locs1 hP1 hD1 hS1 => ?_)
      refine ij_pathW F [0, 0] (q := (49, [some (.ref 3), some (.ref (1001 + i)), some (.int (nI k))], [.int (xw_by I (I 3 5 + nI k))], (xk_R b, I, J))) (q' := (51, [some (.ref 3), some (.ref (1001 + i)), some (.int (nI k))], [.int (nI k), .ref (1001 + i), .int (xw_by I (I 3 5 + nI k))], (xk_R b, I, J))) (φ := []) rfl trivial (⟨hP1, hD1, hS1, X.2.2.2⟩ : ij_at xk_P cl xk_nf D cA ad xk_K A s.heap (ij_ml xk_P 64) _ (xk_R b, I, J) H1 locs1 ls) (fun H locs ls X => ?_)
      have hCB2 : CallB (headSpec (ij_ws xk_P xk_M Ts xk_my xk_mb 64) (ij_rm (d + 1))).room s (([Value.ref 3, .ref (1001 + i)].map (ij_v ad)).toArray) RX3 94 yJ0_charAt_5068e cJ0_charAt_5068e 2 (some .char) (Cond.code yJ0_charAt_5068e cJ0_charAt_5068e 2 (some .char) :: Ts) (jx_rm 7) 0 0 1 :=
        callB_of (ws' := Ts) 1 hts (fun w hw => by
          rcases List.mem_cons.mp hw with rfl | hw
          · exact ⟨jx_in (k := 15) hj rfl, good_of_word (hg _ (jx_in (k := 15) hj rfl))⟩
          · exact hgood w hw) rfl rfl rfl (hts _ (jx_in (k := 3) hj rfl)) (hts _ (jx_in (k := 12) hj rfl)) ⟨by decide +kernel, by decide +kernel, by decide +kernel⟩ ⟨by show 7 + 1 ≤ _; omega, by show 8 + (2 + 11) + 64 * 7 ≤ _; omega⟩
      have hchar := jx_charAt (l := l) (A := A) (adK := adK) (adV := adV) hj hg hi (show k < jx_len.getD i 0 by omega)
      rw [← had] at hchar
      have hrec2 := vk_recv hS hi X.2.2.1
      rw [← had] at hrec2
      refine jx_callW (va_runV (As := [.int (nI k)]) (b := ad (1001 + i)) (rest := [.int (xw_by I (I 3 5 + nI k))]) ⟨hx, hb, hml, hown3, hts⟩ hchar ⟨hCB2, hts _ (jx_in (k := 13) hj rfl), hts _ (jx_in (k := 14) hj rfl)⟩ ⟨jx_blind, hrec2, fun U hU hW => ⟨rfl, hN U (hNU U H locs hU hW X.2.2.1)⟩⟩ rfl rfl X.2.2.2.1.1 rfl (lv_room (Nat.le_of_ble_eq_true rfl)) xw_d64_51 ⟨Nat.zero_le _, Nat.zero_le _⟩) (fun H1 locs1 h1 h2 h3 => ?_)
      have X2 := xw_kept X h1 h2 h3
      by_cases hc : xw_by I (I 3 5 + nI k) = jx_ch i k
      · refine ij_pathW F [1, 0, 0] (q := (54, [some (.ref 3), some (.ref (1001 + i)), some (.int (nI k))], [.int (jx_ch i k), .int (xw_by I (I 3 5 + nI k))], (xk_R b, I, J))) (q' := (28, [some (.ref 3), some (.ref (1001 + i)), some (.int (nI k + 1))], [], (xk_R b, I, J))) (φ := [xw_by I (I 3 5 + nI k) = jx_ch i k]) rfl hc X2 (fun H locs ls X => ?_)
        have e9 : nI k + 1 = nI (k + 1) := nI_1 k
        rw [e9] at X
        exact ih (k + 1) (by omega) (fun k' hk' => by
          by_cases he : k' = k
          · rw [he]; exact hc
          · exact hall k' (by omega)) H locs ls X
      · exact ij_pathW F [0, 0] (q := (54, [some (.ref 3), some (.ref (1001 + i)), some (.int (nI k))], [.int (jx_ch i k), .int (xw_by I (I 3 5 + nI k))], (xk_R b, I, J))) (q' := (58, [some (.ref 3), some (.ref (1001 + i)), some (.int (nI k))], [.int 0], (xk_R b, I, J))) (φ := [¬ xw_by I (I 3 5 + nI k) = jx_ch i k]) rfl hc X2 (fun H locs ls X => fin 0 58 (by unfold xw_w; rw [if_neg (fun h => hc (h.2.2 k (by omega)))]) (Or.inl rfl) xw_d64_58 H locs ls _ X)
  by_cases hk : I 3 8 = 1
  · refine ij_pathW F [0, 0, 0, 0, 0, 0, 0, 0, 0, 0] (q := (0, ij_in [.ref 3, .ref (1001 + i)] 3, [], (xk_R b, I, J))) (q' := (18, [some (.ref 3), some (.ref (1001 + i)), none], [.ref (1001 + i), .int (I 3 7 - I 3 5)], (xk_R b, I, J))) (φ := [I 3 8 = 1]) rfl hk X0 (fun H locs ls X => ?_)
    refine len 18 xw_d64_18 H locs ls _ [.int (I 3 7 - I 3 5)] (Nat.le_of_ble_eq_true rfl) X (fun H locs X => ?_)
    by_cases h2 : I 3 7 - I 3 5 = nI (jx_len.getD i 0)
    · refine ij_pathW F [1, 0, 0] (q := (21, [some (.ref 3), some (.ref (1001 + i)), none], [.int (nI (jx_len.getD i 0)), .int (I 3 7 - I 3 5)], (xk_R b, I, J))) (q' := (28, [some (.ref 3), some (.ref (1001 + i)), some (.int (nI 0))], [], (xk_R b, I, J))) (φ := [I 3 7 - I 3 5 = nI (jx_len.getD i 0)]) rfl h2 X (fun H locs ls X => ?_)
      exact loop hk h2 (jx_len.getD i 0) 0 (by omega) (fun k' h => absurd h (by omega)) H locs ls X
    · exact ij_pathW F [0, 0] (q := (21, [some (.ref 3), some (.ref (1001 + i)), none], [.int (nI (jx_len.getD i 0)), .int (I 3 7 - I 3 5)], (xk_R b, I, J))) (q' := (25, [some (.ref 3), some (.ref (1001 + i)), none], [.int 0], (xk_R b, I, J))) (φ := [¬ I 3 7 - I 3 5 = nI (jx_len.getD i 0)]) rfl h2 X (fun H locs ls X => fin 0 25 (by unfold xw_w; rw [if_neg (fun h => h2 h.2.1)]) (Or.inl rfl) xw_d64_25 H locs ls _ X)
  · exact ij_pathW F [0, 0, 0, 1, 0] (q := (0, ij_in [.ref 3, .ref (1001 + i)] 3, [], (xk_R b, I, J))) (q' := (25, [some (.ref 3), some (.ref (1001 + i)), none], [.int 0], (xk_R b, I, J))) (φ := [¬ I 3 8 = 1]) rfl hk X0 (fun H locs ls X => fin 0 25 (by unfold xw_w; rw [if_neg (fun h => hk h.1)]) (Or.inl rfl) xw_d64_25 H locs ls _ X)
end XW2
