/-! ===== runs that make objects: constructors, and the law's beginning ===== -/
/-- a constructor called: arguments, the kinds of places and the state before and behind -/
abbrev iy_R : Type := Nat → List Value → ij_Ks → ij_S → ij_Ks → ij_S → Prop
/-- the class number of a kind; the kind of an object behind a write of a field; the kind of a new object; what a constructor makes (cells, slots); pools: classes, constructors, Object's own -/
abbrev iy_D : Type := (Nat → Nat) × (Nat → Nat → Option Nat) × (Nat → Nat) × (Nat → Nat × Nat) × (Nat → Nat → Option Nat) × (Nat → Nat → Option Nat) × (Nat → Nat → Bool)
abbrev iy_kc (Z : iy_D) := Z.1
abbrev iy_nk (Z : iy_D) := Z.2.1
abbrev iy_fk (Z : iy_D) := Z.2.2.1
abbrev iy_co (Z : iy_D) := Z.2.2.2.1
abbrev iy_pn (Z : iy_D) := Z.2.2.2.2.1
abbrev iy_pc (Z : iy_D) := Z.2.2.2.2.2.1
abbrev iy_po (Z : iy_D) := Z.2.2.2.2.2.2
def iy_z (σ : ij_S) (p : Nat) : ij_S := (σ.1, fun a b => if a = p then 0 else σ.2.1 a b, fun a b => if a = p then 0 else σ.2.2 a b)
def iy_vok (n : Nat) : Value → Bool
  | .ref p => Nat.blt p n || Nat.ble 1000 p
  | _ => true
/-- places from 1000 on are no places of the world: what lies outside it and stays. No place at n or behind it (but those) stands in the locals, on the stack, in a field -/
def iy_wf (P : ij_P) (nf : Nat → Nat) (K : ij_Ks) (c : ij_C) : Bool :=
  (c.2.1.all (fun x => match x with
    | some v => iy_vok K.length v
    | none => true) && c.2.2.1.all (iy_vok K.length)) && (K.zipIdx).all (fun x => match x.1 with
    | .inl ki => (List.range (nf ki)).all (fun k => iy_vok K.length (ij_fv P c.2.2.2 ki x.2 k))
    | .inr _ => true)
def iy_at : ArrayType → Option Nat
  | .int => some 0
  | .long => some 1
  | .boolean => some 2
  | _ => none
def iy_ty : Nat → FieldType
  | 0 => .int
  | 1 => .long
  | _ => .boolean
def iy_dv : Nat → Option Value
  | 0 => some (.int 0)
  | 1 => some (.long 0)
  | 2 => some (.int 0)
  | 4 => some .null
  | _ => none
/-- the locals that go on: those that the machine still holds -/
def iy_put (σ : ij_S) (a k : Nat) : Nat → Value → Option ij_S
  | 0, .int x => some (σ.1, ij_u σ.2.1 a k x, σ.2.2)
  | 3, .ref x => some (ij_u σ.1 a k x, σ.2.1, σ.2.2)
  | _, _ => none
section IYA
variable {P : ij_P} {nf : Nat → Nat} {cA : Nat → ClassId} {ad ad' : Nat → Nat} {K : ij_Ks} {c : ij_C}
theorem iy_v_same {n : Nat} (h : ∀ p, p < n ∨ 1000 ≤ p → ad' p = ad p) {v : Value} (hv : iy_vok n v = true) : ij_v ad' v = ij_v ad v := by
  cases v with
  | ref p =>
    show Value.ref (ad' p) = Value.ref (ad p)
    have hv : (Nat.blt p n || Nat.ble 1000 p) = true := hv
    rw [Bool.or_eq_true] at hv
    rw [h p (hv.imp (fun q => Nat.le_of_ble_eq_true q) (fun q => Nat.le_of_ble_eq_true q))]
  | _ => rfl
theorem iy_st_same (hw : iy_wf P nf K c = true) (h : ∀ p, p < K.length ∨ 1000 ≤ p → ad' p = ad p) : c.2.2.1.map (ij_v ad') = c.2.2.1.map (ij_v ad) := by
  unfold iy_wf at hw
  simp only [Bool.and_eq_true] at hw
  exact List.map_congr_left (fun v hv => iy_v_same h (List.all_eq_true.mp hw.1.2 v hv))
theorem iy_get_mem {L : ij_L} {i : Nat} {v : Value} (h : ij_get L i = some v) : some v ∈ L := by
  induction L generalizing i with
  | nil => rw [ij_get_nil] at h; cases h
  | cons x r ih =>
    cases i with
    | zero => cases h; exact List.mem_cons_self
    | succ i => exact List.mem_cons_of_mem _ (ih h)
theorem iy_lh_same (hw : iy_wf P nf K c = true) (h : ∀ p, p < K.length ∨ 1000 ≤ p → ad' p = ad p) {ls : Array Slot} {nL : Nat} (hl : ij_lh ls nL ad c.2.1) : ij_lh ls nL ad' c.2.1 := by
  refine ⟨hl.1, fun i v hi => ?_⟩
  unfold iy_wf at hw
  simp only [Bool.and_eq_true] at hw
  have h1 := List.all_eq_true.mp hw.1.1 _ (iy_get_mem hi)
  rw [iy_v_same h h1]
  exact hl.2 i v hi
theorem iy_ce_same (hw : iy_wf P nf K c = true) (h : ∀ p, p < K.length ∨ 1000 ≤ p → ad' p = ad p) {p : Nat} {k : Nat ⊕ (Nat × Nat)} (hk : K[p]? = some k) : ij_ce P nf cA ad' c.2.2.2 p k = ij_ce P nf cA ad c.2.2.2 p k := by
  cases k with
  | inr tn => rfl
  | inl ki =>
    unfold iy_wf at hw
    simp only [Bool.and_eq_true] at hw
    have hm : ((.inl ki : Nat ⊕ (Nat × Nat)), p) ∈ K.zipIdx := by
      rw [List.mem_zipIdx_iff_getElem?]
      exact hk
    have h1 := List.all_eq_true.mp hw.2 _ hm
    show Sum.inr (ki, _) = Sum.inr (ki, _)
    congr 2
    exact List.map_congr_left (fun k hk => iy_v_same h (List.all_eq_true.mp h1 k hk))
theorem iy_W_same (hw : iy_wf P nf K c = true) (h : ∀ p, p < K.length ∨ 1000 ≤ p → ad' p = ad p) : ij_W P nf cA ad' K c.2.2.2 = ij_W P nf cA ad K c.2.2.2 := by
  apply List.ext_getElem?
  intro i
  cases hk : K[i]? with
  | none =>
    unfold ij_W
    rw [List.getElem?_mapIdx, List.getElem?_mapIdx, hk]
    rfl
  | some k =>
    rw [ij_W_get hk, ij_W_get hk, iy_ce_same hw h hk, h i (Or.inl (List.getElem?_eq_some_iff.mp hk).1)]
/-- one place more -/
theorem iy_W_push (hw : iy_wf P nf K c = true) (hKl : K.length < 1000) {q : Nat} {k : Nat ⊕ (Nat × Nat)} {e : va_E} (had : ad' = fun p => if p = K.length then q else ad p) (he : ij_ce P nf cA ad' (iy_z c.2.2.2 K.length) K.length k = e) :
    ij_W P nf cA ad' (K ++ [k]) (iy_z c.2.2.2 K.length) = ij_W P nf cA ad K c.2.2.2 ++ [(q, e)] := by
  have h : ∀ p, p < K.length ∨ 1000 ≤ p → ad' p = ad p := fun p hp => by rw [had]; exact if_neg (by omega)
  have hs : ∀ p k', p ≠ K.length → ij_ce P nf cA ad' (iy_z c.2.2.2 K.length) p k' = ij_ce P nf cA ad' c.2.2.2 p k' := by
    intro p k' hp
    cases k' with
    | inl ki => simp only [ij_ce, ij_fv, iy_z, if_neg hp]
    | inr tn => simp only [ij_ce, iy_z, if_neg hp]
  rw [← iy_W_same hw h]
  unfold ij_W
  rw [List.mapIdx_append]
  congr 1
  · apply List.ext_getElem?
    intro i
    rw [List.getElem?_mapIdx, List.getElem?_mapIdx]
    cases hk : K[i]? with
    | none => rfl
    | some k' => simp [hs i k' (Nat.ne_of_lt (List.getElem?_eq_some_iff.mp hk).1)]
  · simp [List.mapIdx, List.mapIdx.go, had]
    rw [← he, had]
end IYA
