/-! ===== what the tables say of the law ===== -/
section LKM
variable {l : Launch} {P : ij_P} {M : ij_M} {T : ix_T} {Ts : List Cond} {cl : List vw_C} {nf : Nat → Nat} {ty : Nat → Nat → FieldType} {cn : Nat → String} {my : Nat → MethodName} {mb : Nat → ByteArray}
variable {D : va_G} {cA : Nat → ClassId} {ad : Nat → Nat} {K : ij_Ks} {A : Nat → Prop} {N : State → Prop}
/-- one call that may throw, over known calls -/
def ix_c1 (P : ij_P) (M : ij_M) (K : ij_Ks) (T : ix_T) (C1 : ij_R) (C2 : ix_R) : ix_R := fun j as σ o τ => 1 ≤ ix_co T j ∧ (lg_sl as).length ≤ ij_ml P j ∧ ix_go P M K T C1 C2 j (ix_co T j) (0, ij_in as (ij_ml P j), [], σ) o τ
set_option maxHeartbeats 4000000 in
set_option maxRecDepth 100000 in
theorem ix_met1 (hlt : l.stackTraces = false) (hst : ik_stays N A) {C1 : ij_R} {C2 : ix_R} {d : Nat} (hM1 : ik_known N l P M Ts cl nf my mb D cA ad K A C1 d) (hM2 : ix_known N l P M T Ts cl nf my mb D cA ad K A C2 d) (hok : ij_ok P Ts cl nf ty cn mb) (hokm : ix_okm P M T N A Ts cl cn my mb) : ix_known N l P M T Ts cl nf my mb D cA ad K A (ix_c1 P M K T C1 C2) (d + 1) := by
  intro j as σ o τ h
  obtain ⟨hco1, hlen, n, hn⟩ := h
  obtain ⟨x, hdc⟩ := ix_ev_dc hokm hn
  obtain ⟨hpl, hcn⟩ := hokm.2.2.1 j x hdc hco1
  cases hmh : ix_mh T j with
  | nil =>
    have hce := ix_code_nil (P := P) (M := M) (my := my) (mb := mb) hmh
    refine vx_ofW (cc := mb j) (maxL := ij_ml P j) (ret := ij_mr M j) hpl (by unfold ix_ws; rw [hce]) ?_
    intro p e s m args below meth c s₁ B hml hET hv
    obtain ⟨rfl, hP, hK, hD, hN⟩ := hv
    have hts : ∀ w ∈ Ts, w.before ((as.map (ij_v ad)).toArray) s = true := fun w hw => atoms_spec (ws := ix_ws P M T Ts my mb j) B.pre w (List.mem_cons_of_mem _ hw)
    have hown : s.vm.findClass (my j).cls = some m.cls := findClass_of_methodNamed B.named
    have hl := lv_entry (as.map (ij_v ad)) (n := ij_ml P j) (by rw [ij_sl]; exact hlen)
    have hET : c.exceptionTable.toList = tableOf (ix_mh T j) := by
      rw [hmh]
      cases hx : c.exceptionTable.toList with
      | nil => rfl
      | cons y ys => exact (hET y (by rw [hx]; exact List.mem_cons_self)).elim
    rw [lg_entry_eq]
    exact W.cs (by omega) (by omega) (ix_evW hlt hst hN hM1 hM2 hokm rfl B.returns B.notSynchronized hml hET ⟨hok, B.exec, B.bytes, hts, by rw [hcn]; exact hown, hK⟩ n (ix_co T j) (0, ij_in as (ij_ml P j), [], σ) o τ (Nat.le_refl _) hn s.heap [] _ ⟨hP, hD, va_S.rf, ij_lh_in hl⟩)
  | cons h9 t9 =>
    have hce := ix_code_cons (P := P) (M := M) (my := my) (mb := mb) hmh
    refine vx_ofWH (cc := mb j) (maxL := ij_ml P j) (ret := ij_mr M j) (hh := h9 :: t9) hpl (by unfold ix_ws; rw [hce]) ?_
    intro p e s m args below meth c s₁ B hml hv
    obtain ⟨rfl, hP, hK, hD, hN⟩ := hv
    have hts : ∀ w ∈ Ts, w.before ((as.map (ij_v ad)).toArray) s = true := fun w hw => atoms_spec (ws := ix_ws P M T Ts my mb j) B.pre w (List.mem_cons_of_mem _ hw)
    have hown : s.vm.findClass (my j).cls = some m.cls := findClass_of_methodNamed B.named
    have hl := lv_entry (as.map (ij_v ad)) (n := ij_ml P j) (by rw [ij_sl]; exact hlen)
    have hET : c.exceptionTable.toList = tableOf (ix_mh T j) := by
      rw [hmh]
      exact vx_table (x := my j) B (atoms_spec (ws := ix_ws P M T Ts my mb j) B.pre _ (by unfold ix_ws; rw [hce]; exact List.mem_cons_self))
    rw [lg_entry_eq]
    exact W.cs (by omega) (by omega) (ix_evW hlt hst hN hM1 hM2 hokm rfl B.returns B.notSynchronized hml hET ⟨hok, B.exec, B.bytes, hts, by rw [hcn]; exact hown, hK⟩ n (ix_co T j) (0, ij_in as (ij_ml P j), [], σ) o τ (Nat.le_refl _) hn s.heap [] _ ⟨hP, hD, va_S.rf, ij_lh_in hl⟩)
end LKM
theorem lk_chk : ∀ i, ∀ t ∈ ij_nth [] lk_tbl i, ij_chk (lk_wb i) t.2 = true
  | 0 => lkD_law
  | 1 => lkD_board
  | 2 => lkD_count
  | 3 => lkD_corner
  | 4 => lkD_tile
  | 5 => lkD_across
  | 6 => lkD_name
  | 7 => lkD_ways
  | 8 => lkD_ring
  | 9 => lkD_growth
  | 10 => lkD_walks
  | 11 => lkD_home
  | 12 => lkD_far
  | 13 => lkD_walk
  | 14 => lkD_move
  | 15 => lkD_order
  | 16 => lkD_back
  | 17 => lkD_apart
  | 18 => lkD_side
  | 19 => lkD_closed
  | 20 => lkD_first
  | 21 => lkD_steps
  | 22 => lkD_ant
  | _ + 23 => fun _ h => nomatch h
theorem lk_find_mem : ∀ {l : List (Nat × List (Nat × Instr × Nat))} {pc : Nat} {x : Instr × Nat}, lk_find l pc = some x → ∃ q ∈ l, ij_look q.2 pc = some x
  | [], _, _, h => nomatch h
  | q :: r, pc, x, h => by
    have h : (bif Nat.blt pc q.1 then ij_look q.2 pc else lk_find r pc) = some x := h
    cases hb : Nat.blt pc q.1 with
    | true => rw [hb, cond_true] at h; exact ⟨q, List.mem_cons_self, h⟩
    | false =>
      rw [hb, cond_false] at h
      obtain ⟨q', hq, h'⟩ := lk_find_mem h
      exact ⟨q', List.mem_cons_of_mem _ hq, h'⟩
theorem lk_nth_mem {α : Type} {d : α} : ∀ {l : List α} {i : Nat}, ij_nth d l i = d ∨ ij_nth d l i ∈ l
  | [], _ => Or.inl rfl
  | _ :: _, 0 => Or.inr List.mem_cons_self
  | _ :: l, i + 1 => (lk_nth_mem (l := l) (i := i)).imp id (fun h => List.mem_cons_of_mem _ h)
theorem lk_b1 {α : Type} {f g h : Nat → α} {j : Nat} (hj : j < 163) : lk_b f g h j = f j := by
  unfold lk_b
  rw [show Nat.blt j 163 = true from Nat.ble_eq_true_of_le hj]
  rfl
theorem lk_bf {j n : Nat} (hj : n ≤ j) : Nat.blt j n = false := by
  cases h9 : Nat.blt j n with
  | false => rfl
  | true => exact absurd (Nat.le_of_ble_eq_true h9) (by omega)
theorem lk_b2 {α : Type} {f g h : Nat → α} {j : Nat} (hj : j < 76) : lk_b f g h (163 + j) = g j := by
  unfold lk_b
  rw [lk_bf (n := 163) (by omega), show Nat.blt (163 + j) 239 = true from Nat.ble_eq_true_of_le (by omega), show 163 + j - 163 = j by omega]
  rfl
theorem lk_b3 {α : Type} {f g h : Nat → α} {j : Nat} : lk_b f g h (239 + j) = h j := by
  unfold lk_b
  rw [lk_bf (n := 163) (by omega), lk_bf (n := 239) (by omega), show 239 + j - 239 = j by omega]
  rfl
theorem lk_ok {Ts : List Cond} (hTl : Cond.constantLong RL 142 4294967295 ∈ Ts) {cl : List vw_C} : ij_ok lk_P Ts cl lk_nf lk_ty lk_cn lk_mb := by
  refine ⟨fun mi pc x h => ?_, fun o i q h => (nomatch h), fun o i v h => ?_, fun o i v h => (nomatch h)⟩
  · have h : (bif Nat.ble 239 mi then lk_find (ij_nth [] lk_tbl (mi - 239)) pc else none) = some x := h
    cases hb : Nat.ble 239 mi with
    | false => rw [hb] at h; cases h
    | true =>
      rw [hb, cond_true] at h
      have hm := Nat.le_of_ble_eq_true hb
      have e1 : lk_mb mi = lk_wb (mi - 239) := by
        have := lk_b3 (f := xk_mb) (g := rc_mb) (h := lk_wb) (j := mi - 239)
        rw [show 239 + (mi - 239) = mi by omega] at this
        exact this
      rw [e1]
      obtain ⟨q9, hq9, h9⟩ := lk_find_mem h
      exact ij_chk_ok (lk_chk _ _ hq9) h9
  · have h : (bif Nat.beq o 22 && Nat.beq i 142 then some (4294967295 : Int64) else none) = some v := h
    cases hb : (Nat.beq o 22 && Nat.beq i 142) with
    | false => rw [hb] at h; cases h
    | true =>
      rw [hb] at h
      cases h
      rw [Bool.and_eq_true] at hb
      rw [Nat.eq_of_beq_eq_true hb.1, Nat.eq_of_beq_eq_true hb.2]
      exact hTl
def lk_ws : List Nat := (List.range 22).map (fun i => i + 1)
def lk_Tm : List Cond := lk_pml.map (fun e => Cond.methodLink RL e.1 (lk_my e.2))
def lk_Tw : List Cond := lk_ws.map (fun i => Cond.codeWith (lk_wy i) (lk_wb i) (lk_wl i) (lk_wr i) (lk_wh i))
def lk_Ts0 : List Cond := lk_ws.map (fun i => Cond.static (lk_wy i))
def lk_Tz : List Cond := [Cond.initialized RL, Cond.constantLong RL 142 4294967295, Cond.classLink RL 8 RX10, Cond.classLink RL 86 RX11, Cond.instantiable RX10 11, Cond.instantiable RX11 72, Cond.methodLink RL 85 yX10_init, Cond.methodLink RL 88 yX11_init, Cond.instanceMethod yX11_init, Cond.classLink RL 18 "java/util/NoSuchElementException", Cond.classLink RL 13 "java/lang/IllegalArgumentException"]
/-- the law's own words -/
def lk_Tl : List Cond := lk_Tm ++ (lk_Tw ++ (lk_Ts0 ++ lk_Tz))
theorem lk_c1 : lk_pml.all (fun e => (Nat.blt e.2 152) || ((Nat.ble 163 e.2 && Nat.blt e.2 238) || (Nat.ble 240 e.2 && Nat.blt e.2 262))) = true := by decide +kernel
theorem lk_c2 : lk_ws.all (fun i => decide ((parseMethodDescriptor (lk_wy i).desc).map (fun d => d.parameters.length) = some (lk_wn i)) && (Nat.ble (lk_wl i) 40 && (decide ((lk_wy i).cls = RL) && !(lk_wh i).isEmpty))) = true := by decide +kernel
set_option maxRecDepth 100000 in
theorem lk_good : lk_Tl.all goodWord = true := by decide +kernel
