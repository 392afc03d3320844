/-! ===== the pure picture over the heap ===== -/
/-- an address for each place -/
def ij_v (ad : Nat → Nat) : Value → Value
  | .ref p => .ref (ad p)
  | v => v
/-- the machine's locals hold these -/
def ij_lh (ls : Array Slot) (nL : Nat) (ad : Nat → Nat) (L : ij_L) : Prop := lv_has ls nL [] ∧ ∀ i v, ij_get L i = some v → ls[i]? = some (.val (ij_v ad v))
theorem ij_v_cat (ad : Nat → Nat) (v : Value) : (ij_v ad v).category = v.category := by cases v <;> rfl
def ij_ce (P : ij_P) (nf : Nat → Nat) (cA : Nat → ClassId) (ad : Nat → Nat) (σ : ij_S) (p : Nat) : (Nat ⊕ (Nat × Nat)) → va_E
  | .inl ci => .inr (ci, (List.range (nf ci)).map (fun k => ij_v ad (ij_fv P σ ci p k)))
  | .inr (t, n) => .inl (cA t, n, if t = 1 then .inr (.inl (σ.2.2 p)) else .inl (σ.2.1 p))
def ij_W (P : ij_P) (nf : Nat → Nat) (cA : Nat → ClassId) (ad : Nat → Nat) (K : ij_Ks) (σ : ij_S) : va_W := K.mapIdx (fun p k => (ad p, ij_ce P nf cA ad σ p k))
theorem ij_W_get {P : ij_P} {nf : Nat → Nat} {cA : Nat → ClassId} {ad : Nat → Nat} {K : ij_Ks} {σ : ij_S} {p : Nat} {k : Nat ⊕ (Nat × Nat)} (h : K[p]? = some k) : (ij_W P nf cA ad K σ)[p]? = some (ad p, ij_ce P nf cA ad σ p k) := by
  unfold ij_W
  rw [List.getElem?_mapIdx, h]
  rfl
theorem ij_W_set {P : ij_P} {nf : Nat → Nat} {cA : Nat → ClassId} {ad : Nat → Nat} {K : ij_Ks} {σ σ' : ij_S} {p : Nat} {k : Nat ⊕ (Nat × Nat)} (h : K[p]? = some k) {e : va_E} (he : ij_ce P nf cA ad σ' p k = e)
    (ho : ∀ q k', q ≠ p → ij_ce P nf cA ad σ q k' = ij_ce P nf cA ad σ' q k') : (ij_W P nf cA ad K σ).set p (ad p, e) = ij_W P nf cA ad K σ' := by
  subst he
  apply List.ext_getElem?
  intro i
  by_cases hi : i = p
  · subst hi
    have hlt : i < K.length := (List.getElem?_eq_some_iff.mp h).1
    have hlt' : i < (ij_W P nf cA ad K σ).length := by simpa [ij_W] using hlt
    rw [List.getElem?_set_self hlt', ij_W_get h]
  · rw [List.getElem?_set_ne (fun q => hi q.symm)]
    unfold ij_W
    rw [List.getElem?_mapIdx, List.getElem?_mapIdx]
    cases hk : K[i]? with
    | none => rfl
    | some k' => simp [ho i k' hi]
theorem ij_u_ne {α : Type} {f : Nat → Nat → α} {p k : Nat} {v : α} {q : Nat} (h : q ≠ p) : ij_u f p k v q = f q := by
  funext b
  simp [ij_u, h]
theorem ij_u_same {α : Type} (f : Nat → Nat → α) (p k : Nat) (v : α) : ij_u f p k v p k = v := by simp [ij_u]
theorem ij_u_other {α : Type} (f : Nat → Nat → α) (p k : Nat) (v : α) {j : Nat} (h : j ≠ k) : ij_u f p k v p j = f p j := by simp [ij_u, h]
/-- a field that is set -/
theorem ij_fs_set {n k : Nat} {f g : Nat → Value} {v : Value} (hg : g k = v) (ho : ∀ j, j ≠ k → g j = f j) : ((List.range n).map f).set k v = (List.range n).map g := by
  apply List.ext_getElem?
  intro i
  by_cases hi : i = k
  · subst hi
    by_cases hl : i < n
    · rw [List.getElem?_set_self (by simpa using hl)]
      simp [hl, hg]
    · rw [List.getElem?_eq_none (by simp; omega), List.getElem?_eq_none (by simp; omega)]
  · rw [List.getElem?_set_ne (fun q => hi q.symm)]
    by_cases hl : i < n
    · simp [hl, ho i hi]
    · rw [List.getElem?_eq_none (by simp; omega), List.getElem?_eq_none (by simp; omega)]
theorem ij_get_nil (i : Nat) : ij_get [] i = none := by cases i <;> rfl
theorem ij_cut (x : Option Value) {v : Value} (h : (match x with
    | some (.long _) => none
    | some (.double _) => none
    | y => y) = some v) : x = some v ∧ ¬ v.category = 2 := by
  cases x with
  | none => cases h
  | some w => cases w <;> first | (cases h; done) | (cases h; exact ⟨rfl, by decide⟩) | (cases h; exact ⟨rfl, fun q => by cases q⟩)
theorem ij_st1_get : ∀ (L : ij_L) (i : Nat) (v : Value) (j : Nat) (w : Value), ij_get (ij_st1 L i v) j = some w → (j = i ∧ w = v) ∨ (j ≠ i ∧ ij_get L j = some w ∧ ¬ (j + 1 = i ∧ w.category = 2)) := by
  intro L
  induction L with
  | nil => intro i v j w h; rw [ij_st1, ij_get_nil] at h; cases h
  | cons x r ih =>
    intro i v j w h
    match i, j, h with
    | 0, 0, h => cases h; exact Or.inl ⟨rfl, rfl⟩
    | 0, j + 1, h => exact Or.inr ⟨by omega, h, fun q => by omega⟩
    | 1, 0, h =>
      obtain ⟨h1, h2⟩ := ij_cut x h
      exact Or.inr ⟨by omega, h1, fun q => h2 q.2⟩
    | 1, j + 1, h =>
      rcases ih 0 v j w h with ⟨h1, h2⟩ | ⟨h1, h2, h3⟩
      · exact Or.inl ⟨by omega, h2⟩
      · exact Or.inr ⟨by omega, h2, fun q => by omega⟩
    | i + 2, 0, h => exact Or.inr ⟨by omega, h, fun q => by omega⟩
    | i + 2, j + 1, h =>
      rcases ih (i + 1) v j w h with ⟨h1, h2⟩ | ⟨h1, h2, h3⟩
      · exact Or.inl ⟨by omega, h2⟩
      · exact Or.inr ⟨by omega, h2, fun q => h3 ⟨by omega, q.2⟩⟩
theorem ij_off_get (L : ij_L) (j : Nat) (w : Value) (h : ij_get (ij_off L) j = some w) : j ≠ 0 ∧ ij_get L j = some w := by
  cases L with
  | nil => rw [ij_off, ij_get_nil] at h; cases h
  | cons x r =>
    cases j with
    | zero => cases h
    | succ j => exact ⟨by omega, h⟩
theorem ij_st2_get : ∀ (L : ij_L) (i : Nat) (v : Value) (j : Nat) (w : Value), ij_get (ij_st2 L i v) j = some w → (j = i ∧ w = v) ∨ (j ≠ i ∧ j ≠ i + 1 ∧ ij_get L j = some w ∧ ¬ (j + 1 = i ∧ w.category = 2)) := by
  intro L
  induction L with
  | nil => intro i v j w h; rw [ij_st2, ij_get_nil] at h; cases h
  | cons x r ih =>
    intro i v j w h
    match i, j, h with
    | 0, 0, h => cases h; exact Or.inl ⟨rfl, rfl⟩
    | 0, j + 1, h =>
      obtain ⟨h1, h2⟩ := ij_off_get r j w h
      exact Or.inr ⟨by omega, by omega, h2, fun q => by omega⟩
    | 1, 0, h =>
      obtain ⟨h1, h2⟩ := ij_cut x h
      exact Or.inr ⟨by omega, by omega, h1, fun q => h2 q.2⟩
    | 1, j + 1, h =>
      rcases ih 0 v j w h with ⟨h1, h2⟩ | ⟨h1, h0, h2, h3⟩
      · exact Or.inl ⟨by omega, h2⟩
      · exact Or.inr ⟨by omega, by omega, h2, fun q => by omega⟩
    | i + 2, 0, h => exact Or.inr ⟨by omega, by omega, h, fun q => by omega⟩
    | i + 2, j + 1, h =>
      rcases ih (i + 1) v j w h with ⟨h1, h2⟩ | ⟨h1, h0, h2, h3⟩
      · exact Or.inl ⟨by omega, h2⟩
      · exact Or.inr ⟨by omega, by omega, h2, fun q => h3 ⟨by omega, q.2⟩⟩
theorem ij_has {ls : Array Slot} {nL : Nat} {ad : Nat → Nat} {L : ij_L} (hl : ij_lh ls nL ad L) {i : Nat} {v : Value} (h : ij_get L i = some v) : ls[i]? = some (.val (ij_v ad v)) := hl.2 i v h
/-- the listed locals, as the kit's rows have them: all that the pure ones say, up to a bound -/
def ij_al (ad : Nat → Nat) (L : ij_L) : List (Nat × Value) := (List.range L.length).filterMap (fun i => (ij_get L i).map (fun v => (i, ij_v ad v)))
theorem ij_get_lt {L : ij_L} {i : Nat} {v : Value} (h : ij_get L i = some v) : i < L.length := by
  induction L generalizing i with
  | nil => rw [ij_get_nil] at h; cases h
  | cons x r ih =>
    cases i with
    | zero => simp
    | succ i => have := ih h; simp; omega
theorem ij_al_in {ad : Nat → Nat} {L : ij_L} {i : Nat} {v : Value} (h : ij_get L i = some v) : (i, ij_v ad v) ∈ ij_al ad L := List.mem_filterMap.mpr ⟨i, List.mem_range.mpr (ij_get_lt h), by rw [h]; rfl⟩
theorem ij_al_of {ad : Nat → Nat} {L : ij_L} {q : Nat × Value} (h : q ∈ ij_al ad L) : ∃ v, ij_get L q.1 = some v ∧ q.2 = ij_v ad v := by
  obtain ⟨i, -, h⟩ := List.mem_filterMap.mp h
  obtain ⟨v, hv, rfl⟩ := Option.map_eq_some_iff.mp h
  exact ⟨v, hv, rfl⟩
theorem ij_lh_al {ls : Array Slot} {nL : Nat} {ad : Nat → Nat} {L : ij_L} (hl : ij_lh ls nL ad L) : lv_has ls nL (ij_al ad L) := ⟨hl.1.1, hl.1.2.1, fun q hq => by
  obtain ⟨v, h1, h2⟩ := ij_al_of hq
  rw [h2]
  exact hl.2 _ _ h1⟩
theorem ij_has_k {ad : Nat → Nat} {L : ij_L} {i : Nat} {v : Value} (h : ij_get L i = some v) : ∃ k : Nat, (ij_al ad L)[k]? = some (i, ij_v ad v) := List.mem_iff_getElem?.mp (ij_al_in h)
theorem ij_lh_st1 {ls : Array Slot} {nL : Nat} {ad : Nat → Nat} {L : ij_L} {i : Nat} {v : Value} (h : lv_has ls nL ((i, ij_v ad v) :: (ij_al ad L).filter (fun q => !(q.1 == i) && !(q.1 + 1 == i && q.2.category == 2)))) : ij_lh ls nL ad (ij_st1 L i v) := by
  refine ⟨⟨h.1, h.2.1, fun q hq => by cases hq⟩, fun j w hj => ?_⟩
  rcases ij_st1_get L i v j w hj with ⟨rfl, rfl⟩ | ⟨h1, h2, h3⟩
  · exact h.2.2 _ List.mem_cons_self
  · refine h.2.2 (j, ij_v ad w) (List.mem_cons_of_mem _ (List.mem_filter.mpr ⟨ij_al_in h2, ?_⟩))
    simp only [ij_v_cat]
    by_cases hq : j + 1 = i
    · have hc : ¬ w.category = 2 := fun q => h3 ⟨hq, q⟩
      simp [h1, hc]
    · simp [h1, hq]
theorem ij_lh_st2 {ls : Array Slot} {nL : Nat} {ad : Nat → Nat} {L : ij_L} {i : Nat} {v : Value} (h : lv_has ls nL ((i, ij_v ad v) :: (ij_al ad L).filter (fun q => !(q.1 == i) && (!(q.1 == i + 1) && !(q.1 + 1 == i && q.2.category == 2))))) : ij_lh ls nL ad (ij_st2 L i v) := by
  refine ⟨⟨h.1, h.2.1, fun q hq => by cases hq⟩, fun j w hj => ?_⟩
  rcases ij_st2_get L i v j w hj with ⟨rfl, rfl⟩ | ⟨h1, h0, h2, h3⟩
  · exact h.2.2 _ List.mem_cons_self
  · refine h.2.2 (j, ij_v ad w) (List.mem_cons_of_mem _ (List.mem_filter.mpr ⟨ij_al_in h2, ?_⟩))
    simp only [ij_v_cat]
    by_cases hq : j + 1 = i
    · have hc : ¬ w.category = 2 := fun q => h3 ⟨hq, q⟩
      simp [h1, h0, hc]
    · simp [h1, h0, hq]
/-- the locals at a method's entry -/
def ij_ent : List Value → ij_L
  | [] => []
  | v :: vs => if v.category = 2 then some v :: none :: ij_ent vs else some v :: ij_ent vs
def ij_in (as : List Value) (n : Nat) : ij_L := ij_ent as ++ List.replicate (n - (ij_ent as).length) none
theorem ij_get_app_none (L : ij_L) (n i : Nat) (v : Value) (h : ij_get (L ++ List.replicate n none) i = some v) : ij_get L i = some v := by
  induction L generalizing i with
  | nil =>
    have : ∀ (n i : Nat), ij_get (List.replicate n none) i = none := by
      intro n
      induction n with
      | zero => intro i; exact ij_get_nil i
      | succ n ih => intro i; cases i with
        | zero => rfl
        | succ i => exact ih i
    rw [List.nil_append, this] at h
    cases h
  | cons x r ih =>
    cases i with
    | zero => exact h
    | succ i => exact ih i h
theorem ij_ent_args (as : List Value) : ∀ (i j : Nat) (v : Value), ij_get (ij_ent as) j = some v → (i + j, v) ∈ lv_args i as := by
  induction as with
  | nil => intro i j v h; rw [ij_ent, ij_get_nil] at h; cases h
  | cons x r ih =>
    intro i j v h
    unfold ij_ent at h
    by_cases hx : x.category = 2
    · rw [if_pos hx] at h
      match j, h with
      | 0, h => cases h; exact List.mem_cons_self
      | 1, h => cases h
      | j + 2, h =>
        have := ih (i + 2) j v h
        show _ ∈ (i, x) :: lv_args (if x.category = 2 then i + 2 else i + 1) r
        rw [if_pos hx]
        exact List.mem_cons_of_mem _ (by rw [show i + (j + 2) = i + 2 + j by omega]; exact this)
    · rw [if_neg hx] at h
      match j, h with
      | 0, h => cases h; exact List.mem_cons_self
      | j + 1, h =>
        have := ih (i + 1) j v h
        show _ ∈ (i, x) :: lv_args (if x.category = 2 then i + 2 else i + 1) r
        rw [if_neg hx]
        exact List.mem_cons_of_mem _ (by rw [show i + (j + 1) = i + 1 + j by omega]; exact this)
/-- the lengths of instructions -/
def ij_lok : Instr → Nat → Bool
  | .iconst _, n | .lconst _, n | .iload_n _, n | .lload_n _, n | .aload_n _, n | .istore_n _, n | .lstore_n _, n | .astore_n _, n => Nat.beq n 1
  | .iadd, n | .isub, n | .imul, n | .iand, n | .ior, n | .ixor, n | .idiv, n | .irem, n | .ishl, n | .ishr, n | .iushr, n | .ineg, n => Nat.beq n 1
  | .ladd, n | .lsub, n | .lmul, n | .land, n | .lor, n | .lxor, n | .ldiv, n | .lrem, n | .lshl, n | .lshr, n | .lushr, n | .lcmp, n | .i2l, n | .l2i, n => Nat.beq n 1
  | .dup, n | .pop, n | .dup2, n | .iaload, n | .laload, n | .baload, n | .iastore, n | .lastore, n | .bastore, n | .arraylength, n => Nat.beq n 1
  | .ireturn, n | .lreturn, n | .return_, n => Nat.beq n 1
  | .bipush _, n | .ldc _, n | .iload _, n | .lload _, n | .aload _, n | .istore _, n | .lstore _, n | .astore _, n => Nat.beq n 2
  | .sipush _, n | .ldc2_w _, n | .ldc_w _, n | .iinc _ _, n | .goto _, n | .ifCond _ _, n | .if_icmp _ _, n | .getfield _, n | .putfield _, n | .invokevirtual _, n | .invokestatic _, n => Nat.beq n 3
  | _, _ => true
def ij_tok : Nat → FieldType → Bool
  | 0, .int => true
  | 1, .long => true
  | 2, .boolean => true
  | 3, .object _ => true
  | 3, .array _ => true
  | _, _ => false
/-- what the tables say of the program -/
def ij_ok (P : ij_P) (Ts : List Cond) (cl : List vw_C) (nf : Nat → Nat) (ty : Nat → Nat → FieldType) (cn : Nat → String) (mb : Nat → ByteArray) : Prop :=
  (∀ mi pc x, ij_dc P mi pc = some x → decode (mb mi) pc = .ok x ∧ ij_lok x.1 x.2 = true) ∧
  (∀ o i q, ij_pf P o i = some q → ∃ (C : String) (T : u_T), cl[q.1]? = some (C, T, nf q.1) ∧ q.2 < nf q.1 ∧ Cond.fieldLink (cn o) i (T q.2).1 (T q.2).2.1 (T q.2).2.2.1 ∈ Ts ∧ (∀ w ∈ u_ws C T (nf q.1), w ∈ Ts) ∧ (∀ k, k < nf q.1 → parseFieldDescriptor (T k).2.2.1 = some (ty q.1 k)) ∧ (∀ a, a < nf q.1 → ∀ b, b < nf q.1 → a ≠ b → (T a).2.1 ≠ (T b).2.1) ∧ (ij_fw P q.1 q.2 = true → (T q.2).2.2.2 = false) ∧ ij_tok (ij_ft P q.1 q.2) (ty q.1 q.2) = true) ∧
  (∀ o i v, ij_pl P o i = some v → Cond.constantLong (cn o) i v ∈ Ts) ∧
  (∀ o i v, ij_pi P o i = some v → Cond.constant (cn o) i v ∈ Ts)
theorem ij_beq {n k : Nat} (h : Nat.beq n k = true) : n = k := Nat.eq_of_beq_eq_true h
theorem ij_tg_ok {pc : Nat} {off : Int} {t : Nat} (h : ij_tg pc off = some t) : (pc : Int) + off = (t : Int) := by
  unfold ij_tg at h
  split at h
  · rename_i n hn
    cases h
    exact hn
  · cases h
theorem ij_bind {α β : Type} {x : Option α} {f : α → Option β} {z : β} (h : x.bind f = some z) : ∃ a, x = some a ∧ f a = some z := by
  cases x with
  | none => cases h
  | some a => exact ⟨a, rfl, h⟩
theorem ij_obj_ok {K : ij_Ks} {a ci : Nat} (h : ij_obj K a ci = true) : K[a]? = some (.inl ci) := by
  unfold ij_obj at h
  split at h
  · rename_i c hc
    rw [hc, ij_beq h]
  · cases h
theorem ij_arr_ok {K : ij_Ks} {a t n : Nat} (h : ij_arr K a t = some n) : K[a]? = some (.inr (t, n)) := by
  unfold ij_arr at h
  split at h
  · rename_i u n' hc
    split at h
    · rename_i hu
      cases h
      rw [hc, ij_beq hu]
    · cases h
  · cases h
theorem ij_len_ok {K : ij_Ks} {a : Nat} {q : Nat × Nat} (h : ij_len K a = some q) : K[a]? = some (.inr q) := by
  unfold ij_len at h
  split at h
  · rename_i u hc
    cases h
    exact hc
  · cases h
