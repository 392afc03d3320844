/-! ===== the pure picture over the heap ===== -/
/-- an address for each place -/
def ij_v (ad : Nat → Nat) : Value → Value
  | .ref p => .ref (ad p)
  | v => v
def ij_r (ad : Nat → Nat) (L : ij_L) : ij_L := L.map (fun q => (q.1, ij_v ad q.2))
theorem ij_v_cat (ad : Nat → Nat) (v : Value) : (ij_v ad v).category = v.category := by cases v <;> rfl
def ij_ce (P : ij_P) (nf : Nat → Nat) (cA : Nat → ClassId) (ad : Nat → Nat) (σ : ij_S) (p : Nat) : (Nat ⊕ (Nat × Nat)) → va_E
  | .inl ci => .inr (ci, (List.range (nf ci)).map (fun k => ij_v ad (ij_fv P σ ci p k)))
  | .inr (t, n) => .inl (cA t, n, if t = 1 then .inr (.inl (σ.2.2 p)) else .inl (σ.2.1 p))
def ij_W (P : ij_P) (nf : Nat → Nat) (cA : Nat → ClassId) (ad : Nat → Nat) (K : ij_Ks) (σ : ij_S) : va_W := K.mapIdx (fun p k => (ad p, ij_ce P nf cA ad σ p k))
theorem ij_W_get {P : ij_P} {nf : Nat → Nat} {cA : Nat → ClassId} {ad : Nat → Nat} {K : ij_Ks} {σ : ij_S} {p : Nat} {k : Nat ⊕ (Nat × Nat)} (h : K[p]? = some k) : (ij_W P nf cA ad K σ)[p]? = some (ad p, ij_ce P nf cA ad σ p k) := by
  unfold ij_W
  rw [List.getElem?_mapIdx, h]
  rfl
theorem ij_W_set {P : ij_P} {nf : Nat → Nat} {cA : Nat → ClassId} {ad : Nat → Nat} {K : ij_Ks} {σ σ' : ij_S} {p : Nat} {k : Nat ⊕ (Nat × Nat)} (h : K[p]? = some k) {e : va_E} (he : ij_ce P nf cA ad σ' p k = e)
    (ho : ∀ q k', q ≠ p → ij_ce P nf cA ad σ q k' = ij_ce P nf cA ad σ' q k') : (ij_W P nf cA ad K σ).set p (ad p, e) = ij_W P nf cA ad K σ' := by
  subst he
  apply List.ext_getElem?
  intro i
  by_cases hi : i = p
  · subst hi
    have hlt : i < K.length := (List.getElem?_eq_some_iff.mp h).1
    have hlt' : i < (ij_W P nf cA ad K σ).length := by simpa [ij_W] using hlt
    rw [List.getElem?_set_self hlt', ij_W_get h]
  · rw [List.getElem?_set_ne (fun q => hi q.symm)]
    unfold ij_W
    rw [List.getElem?_mapIdx, List.getElem?_mapIdx]
    cases hk : K[i]? with
    | none => rfl
    | some k' => simp [ho i k' hi]
theorem ij_u_ne {α : Type} {f : Nat → Nat → α} {p k : Nat} {v : α} {q : Nat} (h : q ≠ p) : ij_u f p k v q = f q := by
  funext b
  simp [ij_u, h]
theorem ij_u_same {α : Type} (f : Nat → Nat → α) (p k : Nat) (v : α) : ij_u f p k v p k = v := by simp [ij_u]
theorem ij_u_other {α : Type} (f : Nat → Nat → α) (p k : Nat) (v : α) {j : Nat} (h : j ≠ k) : ij_u f p k v p j = f p j := by simp [ij_u, h]
/-- a field that is set -/
theorem ij_fs_set {n k : Nat} {f g : Nat → Value} {v : Value} (hg : g k = v) (ho : ∀ j, j ≠ k → g j = f j) : ((List.range n).map f).set k v = (List.range n).map g := by
  apply List.ext_getElem?
  intro i
  by_cases hi : i = k
  · subst hi
    by_cases hl : i < n
    · rw [List.getElem?_set_self (by simpa using hl)]
      simp [hl, hg]
    · rw [List.getElem?_eq_none (by simp; omega), List.getElem?_eq_none (by simp; omega)]
  · rw [List.getElem?_set_ne (fun q => hi q.symm)]
    by_cases hl : i < n
    · simp [hl, ho i hi]
    · rw [List.getElem?_eq_none (by simp; omega), List.getElem?_eq_none (by simp; omega)]
theorem ij_get_mem {L : ij_L} {i : Nat} {v : Value} (h : ij_get L i = some v) : (i, v) ∈ L := by
  induction L with
  | nil => cases h
  | cons q r ih =>
    unfold ij_get at h
    by_cases hq : q.1 = i
    · rw [if_pos hq] at h
      cases h
      rw [← hq]
      exact List.mem_cons_self
    · rw [if_neg hq] at h
      exact List.mem_cons_of_mem _ (ih h)
theorem ij_has {ls : Array Slot} {nL : Nat} {ad : Nat → Nat} {L : ij_L} (hl : lv_has ls nL (ij_r ad L)) {i : Nat} {v : Value} (h : ij_get L i = some v) : ls[i]? = some (.val (ij_v ad v)) := hl.2.2 (i, ij_v ad v) (List.mem_map.mpr ⟨(i, v), ij_get_mem h, rfl⟩)
theorem ij_has_k {ad : Nat → Nat} {L : ij_L} {i : Nat} {v : Value} (h : ij_get L i = some v) : ∃ k : Nat, (ij_r ad L)[k]? = some (i, ij_v ad v) := List.mem_iff_getElem?.mp (List.mem_map.mpr ⟨(i, v), ij_get_mem h, rfl⟩)
theorem ij_r_st1 (ad : Nat → Nat) (L : ij_L) (i : Nat) (v : Value) : (i, ij_v ad v) :: (ij_r ad L).filter (fun q => !(q.1 == i) && !(q.1 + 1 == i && q.2.category == 2)) = ij_r ad (ij_st1 L i v) := by
  unfold ij_r ij_st1
  rw [List.filter_map, List.map_cons]
  congr 2
  apply List.filter_congr
  intro q _
  simp [ij_v_cat]
theorem ij_r_st2 (ad : Nat → Nat) (L : ij_L) (i : Nat) (v : Value) : (i, ij_v ad v) :: (ij_r ad L).filter (fun q => !(q.1 == i) && (!(q.1 == i + 1) && !(q.1 + 1 == i && q.2.category == 2))) = ij_r ad (ij_st2 L i v) := by
  unfold ij_r ij_st2
  rw [List.filter_map, List.map_cons]
  congr 2
  apply List.filter_congr
  intro q _
  simp [ij_v_cat]
/-- the lengths of instructions -/
def ij_lok : Instr → Nat → Bool
  | .iconst _, n | .lconst _, n | .iload_n _, n | .lload_n _, n | .aload_n _, n | .istore_n _, n | .lstore_n _, n | .astore_n _, n => Nat.beq n 1
  | .iadd, n | .isub, n | .imul, n | .iand, n | .ior, n | .ixor, n | .idiv, n | .irem, n | .ishl, n | .ishr, n | .iushr, n | .ineg, n => Nat.beq n 1
  | .ladd, n | .lsub, n | .lmul, n | .land, n | .lor, n | .lxor, n | .ldiv, n | .lrem, n | .lshl, n | .lshr, n | .lushr, n | .lcmp, n | .i2l, n | .l2i, n => Nat.beq n 1
  | .dup, n | .pop, n | .dup2, n | .iaload, n | .laload, n | .baload, n | .iastore, n | .lastore, n | .bastore, n | .arraylength, n => Nat.beq n 1
  | .ireturn, n | .lreturn, n | .return_, n => Nat.beq n 1
  | .bipush _, n | .ldc _, n | .iload _, n | .lload _, n | .aload _, n | .istore _, n | .lstore _, n | .astore _, n => Nat.beq n 2
  | .sipush _, n | .ldc2_w _, n | .ldc_w _, n | .iinc _ _, n | .goto _, n | .ifCond _ _, n | .if_icmp _ _, n | .getfield _, n | .putfield _, n | .invokevirtual _, n | .invokestatic _, n => Nat.beq n 3
  | _, _ => true
def ij_tok : Nat → FieldType → Bool
  | 0, .int => true
  | 1, .long => true
  | 2, .boolean => true
  | 3, .object _ => true
  | 3, .array _ => true
  | _, _ => false
/-- what the tables say of the program -/
def ij_ok (P : ij_P) (Ts : List Cond) (cl : List vw_C) (nf : Nat → Nat) (ty : Nat → Nat → FieldType) (cn : Nat → String) (mb : Nat → ByteArray) : Prop :=
  (∀ mi pc x, ij_dc P mi pc = some x → decode (mb mi) pc = .ok x ∧ ij_lok x.1 x.2 = true) ∧
  (∀ o i q, ij_pf P o i = some q → ∃ (C : String) (T : u_T), cl[q.1]? = some (C, T, nf q.1) ∧ q.2 < nf q.1 ∧ Cond.fieldLink (cn o) i (T q.2).1 (T q.2).2.1 (T q.2).2.2.1 ∈ Ts ∧ (∀ w ∈ u_ws C T (nf q.1), w ∈ Ts) ∧ (∀ k, k < nf q.1 → parseFieldDescriptor (T k).2.2.1 = some (ty q.1 k)) ∧ (∀ a, a < nf q.1 → ∀ b, b < nf q.1 → a ≠ b → (T a).2.1 ≠ (T b).2.1) ∧ (ij_fw P q.1 q.2 = true → (T q.2).2.2.2 = false) ∧ ij_tok (ij_ft P q.1 q.2) (ty q.1 q.2) = true) ∧
  (∀ o i v, ij_pl P o i = some v → Cond.constantLong (cn o) i v ∈ Ts) ∧
  (∀ o i v, ij_pi P o i = some v → Cond.constant (cn o) i v ∈ Ts)
theorem ij_beq {n k : Nat} (h : Nat.beq n k = true) : n = k := Nat.eq_of_beq_eq_true h
theorem ij_tg_ok {pc : Nat} {off : Int} {t : Nat} (h : ij_tg pc off = some t) : (pc : Int) + off = (t : Int) := by
  unfold ij_tg at h
  split at h
  · rename_i n hn
    cases h
    exact hn
  · cases h
theorem ij_bind {α β : Type} {x : Option α} {f : α → Option β} {z : β} (h : x.bind f = some z) : ∃ a, x = some a ∧ f a = some z := by
  cases x with
  | none => cases h
  | some a => exact ⟨a, rfl, h⟩
theorem ij_obj_ok {K : ij_Ks} {a ci : Nat} (h : ij_obj K a ci = true) : K[a]? = some (.inl ci) := by
  unfold ij_obj at h
  split at h
  · rename_i c hc
    rw [hc, ij_beq h]
  · cases h
theorem ij_arr_ok {K : ij_Ks} {a t n : Nat} (h : ij_arr K a t = some n) : K[a]? = some (.inr (t, n)) := by
  unfold ij_arr at h
  split at h
  · rename_i u n' hc
    split at h
    · rename_i hu
      cases h
      rw [hc, ij_beq hu]
    · cases h
  · cases h
theorem ij_len_ok {K : ij_Ks} {a : Nat} {q : Nat × Nat} (h : ij_len K a = some q) : K[a]? = some (.inr q) := by
  unfold ij_len at h
  split at h
  · rename_i u hc
    cases h
    exact hc
  · cases h
