/-! ===== one instruction of the pure picture is one of the machine ===== -/
section IJ
variable {p : Program} {l : Launch} {e : Env} {R : Room} {s : State} {m : MethodId} {args : Array Value} {below : List Frame} {meth : Method} {c : Code} {cells slots : Nat} {Q : State → Prop}
variable {P : ij_P} {Ts : List Cond} {cl : List vw_C} {nf : Nat → Nat} {ty : Nat → Nat → FieldType} {cn : Nat → String} {mb : Nat → ByteArray}
variable {D : va_G} {cA : Nat → ClassId} {ad : Nat → Nat} {K : ij_Ks} {A : Nat → Prop} {H0 : Heap} {mi : Nat}
/-- what stays while a method runs -/
def ij_fix (p : Program) (s : State) (m : MethodId) (args : Array Value) (c : Code) (P : ij_P) (Ts : List Cond) (cl : List vw_C) (nf : Nat → Nat) (ty : Nat → Nat → FieldType) (cn : Nat → String) (mb : Nat → ByteArray) (D : va_G) (cA : Nat → ClassId) (mi : Nat) : Prop :=
  ij_ok P Ts cl nf ty cn mb ∧ p.tables.exec = Jvm.exec ∧ c.code = mb mi ∧ (∀ w ∈ Ts, w.before args s = true) ∧ s.vm.findClass (cn (ij_mo P mi)) = some m.cls ∧ va_K D cl [(cA 0, .int), (cA 1, .long), (cA 2, .boolean)] s
/-- the world at a point -/
def ij_at (P : ij_P) (cl : List vw_C) (nf : Nat → Nat) (D : va_G) (cA : Nat → ClassId) (ad : Nat → Nat) (K : ij_Ks) (A : Nat → Prop) (H0 : Heap) (nL : Nat) (L : ij_L) (σ : ij_S) (H : Heap) (locs : List Loc) (ls : Array Slot) : Prop :=
  va_P D cl (ij_W P nf cA ad K σ) H ∧ va_D A (ij_W P nf cA ad K σ) ∧ va_S A H0 H locs ∧ ij_lh ls nL ad L
set_option maxHeartbeats 4000000 in
set_option maxRecDepth 100000 in
theorem ij_one (F : ij_fix p s m args c P Ts cl nf ty cn mb D cA mi) {ins : Instr} {len : Nat} {b : Nat} {pc : Nat} {L : ij_L} {st : List Value} {σ : ij_S} {z : List Prop × ij_C} (hdc : ij_dc P mi pc = some (ins, len)) (h : ij_ins P K mi b pc L st σ ins = some z) (hz : ij_all z.1)
    {H : Heap} {locs : List Loc} {ls : Array Slot} (X : ij_at P cl nf D cA ad K A H0 (ij_ml P mi) L σ H locs ls)
    (kk : ∀ (H : Heap) (locs : List Loc) (ls : Array Slot), ij_at P cl nf D cA ad K A H0 (ij_ml P mi) z.2.2.1 z.2.2.2.2 H locs ls → W p l e R s m args below meth c H locs cells slots Q (F0 m z.2.1 ls (z.2.2.2.1.map (ij_v ad)))) :
    W p l e R s m args below meth c H locs cells slots Q (F0 m pc ls (st.map (ij_v ad))) := by
  obtain ⟨hok, hx, hb, hts, hown, hK⟩ := id F
  obtain ⟨hd, hlk⟩ := hok.1 mi pc _ hdc
  obtain ⟨hP, hD, hS, hl⟩ := id X
  cases ins with
  | iconst n =>
    obtain rfl := ij_beq hlk
    obtain rfl := Option.some.inj h
    exact lv_iconst hx hb hd rfl (kk H locs ls X)
  | bipush n =>
    obtain rfl := ij_beq hlk
    obtain rfl := Option.some.inj h
    exact lv_bipush hx hb hd rfl (kk H locs ls X)
  | sipush n =>
    obtain rfl := ij_beq hlk
    obtain rfl := Option.some.inj h
    exact lv_sipush hx hb hd rfl (kk H locs ls X)
  | lconst n =>
    obtain rfl := ij_beq hlk
    obtain rfl := Option.some.inj h
    exact lv_lconst hx hb hd rfl (kk H locs ls X)
  | ldc i =>
    obtain rfl := ij_beq hlk
    obtain ⟨v, hv, h⟩ := ij_bind h
    obtain rfl := Option.some.inj h
    exact lv_ldc hx hb hown (hts _ (hok.2.2.2 _ _ _ hv)) hd (kk H locs ls X)
  | ldc2_w i =>
    obtain rfl := ij_beq hlk
    obtain ⟨v, hv, h⟩ := ij_bind h
    obtain rfl := Option.some.inj h
    exact lv_ldc2 hx hb hown (hts _ (hok.2.2.1 _ _ _ hv)) hd (kk H locs ls X)
  | ldc_w i =>
    obtain rfl := ij_beq hlk
    obtain ⟨v, hv, h⟩ := ij_bind h
    obtain rfl := Option.some.inj h
    exact lv_ldcw hx hb hown (hts _ (hok.2.2.2 _ _ _ hv)) hd (kk H locs ls X)
  | tableswitch dflt lo hi offs =>
    obtain ⟨x, r, he, hn⟩ := ij_xi_inv h
    clear h
    have h := hn
    clear hn
    subst he
    cases b with
    | zero =>
      obtain ⟨t, ht, h⟩ := ij_bind h
      obtain rfl := Option.some.inj h
      exact lv_tableOut hx hb hd hz (ij_tg_ok ht) (kk H locs ls X)
    | succ b =>
      obtain ⟨off, ho, h⟩ := ij_bind h
      obtain ⟨t, ht, h⟩ := ij_bind h
      obtain rfl := Option.some.inj h
      have hz : x.toInt = lo + (b : Int) ∧ x.toInt ≤ hi := hz
      refine lv_tableIn hx hb hd (by omega) (by omega) ?_ (ij_tg_ok ht) (kk H locs ls X)
      rw [show (x.toInt - lo).toNat = b by omega]
      exact ho
  | iload_n i =>
    obtain rfl := ij_beq hlk
    have h : ij_ld1 L i (pc + 1) st σ = some z := h
    unfold ij_ld1 at h
    split at h
    · rename_i x hg
      obtain rfl := Option.some.inj h
      exact lv_iload_n hx hb hd rfl (ij_has hl hg) (kk H locs ls X)
    · cases h
  | iload i =>
    obtain rfl := ij_beq hlk
    have h : ij_ld1 L i (pc + 2) st σ = some z := h
    unfold ij_ld1 at h
    split at h
    · rename_i x hg
      obtain rfl := Option.some.inj h
      exact lv_iload hx hb hd (ij_has hl hg) (kk H locs ls X)
    · cases h
  | lload_n i =>
    obtain rfl := ij_beq hlk
    have h : ij_ld2 L i (pc + 1) st σ = some z := h
    unfold ij_ld2 at h
    split at h
    · rename_i x hg
      obtain rfl := Option.some.inj h
      exact lv_lload_n hx hb hd rfl (ij_has hl hg) (kk H locs ls X)
    · cases h
  | lload i =>
    obtain rfl := ij_beq hlk
    have h : ij_ld2 L i (pc + 2) st σ = some z := h
    unfold ij_ld2 at h
    split at h
    · rename_i x hg
      obtain rfl := Option.some.inj h
      exact lv_lload hx hb hd (ij_has hl hg) (kk H locs ls X)
    · cases h
  | aload_n i =>
    obtain rfl := ij_beq hlk
    have h : ij_lda L i (pc + 1) st σ = some z := h
    unfold ij_lda at h
    split at h
    · rename_i x hg
      obtain rfl := Option.some.inj h
      exact lv_aload_n hx hb hd rfl (ij_has hl hg) (kk H locs ls X)
    · cases h
  | aload i =>
    obtain rfl := ij_beq hlk
    have h : ij_lda L i (pc + 2) st σ = some z := h
    unfold ij_lda at h
    split at h
    · rename_i x hg
      obtain rfl := Option.some.inj h
      exact lv_aload hx hb hd (ij_has hl hg) (kk H locs ls X)
    · cases h
  | istore_n i =>
    obtain rfl := ij_beq hlk
    obtain ⟨x, r, he, hn⟩ := ij_xi_inv h
    clear h
    have h := hn
    clear hn
    subst he
    split at h
    · rename_i hi
      obtain rfl := Option.some.inj h
      exact lv_istore_n hx hb hd rfl (ij_lh_al hl) hi rfl (fun ls hl => kk H locs ls ⟨hP, hD, hS, ij_lh_st1 (v := .int x) hl⟩)
    · cases h
  | istore i =>
    obtain rfl := ij_beq hlk
    obtain ⟨x, r, he, hn⟩ := ij_xi_inv h
    clear h
    have h := hn
    clear hn
    subst he
    split at h
    · rename_i hi
      obtain rfl := Option.some.inj h
      exact lv_istore hx hb hd (ij_lh_al hl) hi rfl (fun ls hl => kk H locs ls ⟨hP, hD, hS, ij_lh_st1 (v := .int x) hl⟩)
    · cases h
  | lstore_n i =>
    obtain rfl := ij_beq hlk
    obtain ⟨x, r, he, hn⟩ := ij_xl_inv h
    clear h
    have h := hn
    clear hn
    subst he
    split at h
    · rename_i hi
      obtain rfl := Option.some.inj h
      exact lv_lstore_n hx hb hd rfl (ij_lh_al hl) hi rfl (fun ls hl => kk H locs ls ⟨hP, hD, hS, ij_lh_st2 (v := .long x) hl⟩)
    · cases h
  | lstore i =>
    obtain rfl := ij_beq hlk
    obtain ⟨x, r, he, hn⟩ := ij_xl_inv h
    clear h
    have h := hn
    clear hn
    subst he
    split at h
    · rename_i hi
      obtain rfl := Option.some.inj h
      exact lv_lstore hx hb hd (ij_lh_al hl) hi rfl (fun ls hl => kk H locs ls ⟨hP, hD, hS, ij_lh_st2 (v := .long x) hl⟩)
    · cases h
  | astore_n i =>
    obtain rfl := ij_beq hlk
    obtain ⟨x, r, he, hn⟩ := ij_xa_inv h
    clear h
    have h := hn
    clear hn
    subst he
    split at h
    · rename_i hi
      obtain rfl := Option.some.inj h
      exact lv_astore_n hx hb hd rfl (ij_lh_al hl) hi rfl (fun ls hl => kk H locs ls ⟨hP, hD, hS, ij_lh_st1 (v := .ref x) hl⟩)
    · cases h
  | astore i =>
    obtain rfl := ij_beq hlk
    obtain ⟨x, r, he, hn⟩ := ij_xa_inv h
    clear h
    have h := hn
    clear hn
    subst he
    split at h
    · rename_i hi
      obtain rfl := Option.some.inj h
      exact lv_astore hx hb hd (ij_lh_al hl) hi rfl (fun ls hl => kk H locs ls ⟨hP, hD, hS, ij_lh_st1 (v := .ref x) hl⟩)
    · cases h
  | iinc i n =>
    obtain rfl := ij_beq hlk
    have h : ij_inc L i n (ij_ml P mi) (pc + 3) st σ = some z := h
    unfold ij_inc at h
    split at h
    · rename_i x hg
      split at h
      · rename_i hi
        obtain rfl := Option.some.inj h
        obtain ⟨k, hk⟩ := ij_has_k (ad := ad) hg
        exact lv_iinc hx hb hd (ij_lh_al hl) hk rfl hi rfl (fun ls hl => kk H locs ls ⟨hP, hD, hS, ij_lh_st1 (v := .int (x + Int32.ofInt n)) hl⟩)
      · cases h
    · cases h
  | iadd =>
    obtain rfl := ij_beq hlk
    obtain ⟨y, r, he, hn⟩ := ij_xi_inv h
    clear h
    have h := hn
    clear hn
    subst he
    obtain ⟨x, r, he, hn⟩ := ij_xi_inv h
    clear h
    have h := hn
    clear hn
    subst he
    obtain rfl := Option.some.inj h
    exact lv_iadd hx hb hd (kk H locs ls X)
  | isub =>
    obtain rfl := ij_beq hlk
    obtain ⟨y, r, he, hn⟩ := ij_xi_inv h
    clear h
    have h := hn
    clear hn
    subst he
    obtain ⟨x, r, he, hn⟩ := ij_xi_inv h
    clear h
    have h := hn
    clear hn
    subst he
    obtain rfl := Option.some.inj h
    exact lv_isub hx hb hd (kk H locs ls X)
  | imul =>
    obtain rfl := ij_beq hlk
    obtain ⟨y, r, he, hn⟩ := ij_xi_inv h
    clear h
    have h := hn
    clear hn
    subst he
    obtain ⟨x, r, he, hn⟩ := ij_xi_inv h
    clear h
    have h := hn
    clear hn
    subst he
    obtain rfl := Option.some.inj h
    exact lv_imul hx hb hd (kk H locs ls X)
  | iand =>
    obtain rfl := ij_beq hlk
    obtain ⟨y, r, he, hn⟩ := ij_xi_inv h
    clear h
    have h := hn
    clear hn
    subst he
    obtain ⟨x, r, he, hn⟩ := ij_xi_inv h
    clear h
    have h := hn
    clear hn
    subst he
    obtain rfl := Option.some.inj h
    exact lv_iand hx hb hd (kk H locs ls X)
  | ior =>
    obtain rfl := ij_beq hlk
    obtain ⟨y, r, he, hn⟩ := ij_xi_inv h
    clear h
    have h := hn
    clear hn
    subst he
    obtain ⟨x, r, he, hn⟩ := ij_xi_inv h
    clear h
    have h := hn
    clear hn
    subst he
    obtain rfl := Option.some.inj h
    exact lv_ior hx hb hd (kk H locs ls X)
  | ixor =>
    obtain rfl := ij_beq hlk
    obtain ⟨y, r, he, hn⟩ := ij_xi_inv h
    clear h
    have h := hn
    clear hn
    subst he
    obtain ⟨x, r, he, hn⟩ := ij_xi_inv h
    clear h
    have h := hn
    clear hn
    subst he
    obtain rfl := Option.some.inj h
    exact lv_ixor hx hb hd (kk H locs ls X)
  | idiv =>
    obtain rfl := ij_beq hlk
    obtain ⟨y, r, he, hn⟩ := ij_xi_inv h
    clear h
    have h := hn
    clear hn
    subst he
    obtain ⟨x, r, he, hn⟩ := ij_xi_inv h
    clear h
    have h := hn
    clear hn
    subst he
    obtain rfl := Option.some.inj h
    exact lv_idiv hx hb hd hz (kk H locs ls X)
  | irem =>
    obtain rfl := ij_beq hlk
    obtain ⟨y, r, he, hn⟩ := ij_xi_inv h
    clear h
    have h := hn
    clear hn
    subst he
    obtain ⟨x, r, he, hn⟩ := ij_xi_inv h
    clear h
    have h := hn
    clear hn
    subst he
    obtain rfl := Option.some.inj h
    exact lv_irem hx hb hd hz (kk H locs ls X)
  | ishl =>
    obtain rfl := ij_beq hlk
    obtain ⟨y, r, he, hn⟩ := ij_xi_inv h
    clear h
    have h := hn
    clear hn
    subst he
    obtain ⟨x, r, he, hn⟩ := ij_xi_inv h
    clear h
    have h := hn
    clear hn
    subst he
    obtain rfl := Option.some.inj h
    exact lv_ishl hx hb hd (kk H locs ls X)
  | ishr =>
    obtain rfl := ij_beq hlk
    obtain ⟨y, r, he, hn⟩ := ij_xi_inv h
    clear h
    have h := hn
    clear hn
    subst he
    obtain ⟨x, r, he, hn⟩ := ij_xi_inv h
    clear h
    have h := hn
    clear hn
    subst he
    obtain rfl := Option.some.inj h
    exact lv_ishr hx hb hd (kk H locs ls X)
  | iushr =>
    obtain rfl := ij_beq hlk
    obtain ⟨y, r, he, hn⟩ := ij_xi_inv h
    clear h
    have h := hn
    clear hn
    subst he
    obtain ⟨x, r, he, hn⟩ := ij_xi_inv h
    clear h
    have h := hn
    clear hn
    subst he
    obtain rfl := Option.some.inj h
    exact lv_iushr hx hb hd rfl (kk H locs ls X)
  | ineg =>
    obtain rfl := ij_beq hlk
    obtain ⟨x, r, he, hn⟩ := ij_xi_inv h
    clear h
    have h := hn
    clear hn
    subst he
    obtain rfl := Option.some.inj h
    exact lv_ineg hx hb hd (kk H locs ls X)
  | ladd =>
    obtain rfl := ij_beq hlk
    obtain ⟨y, r, he, hn⟩ := ij_xl_inv h
    clear h
    have h := hn
    clear hn
    subst he
    obtain ⟨x, r, he, hn⟩ := ij_xl_inv h
    clear h
    have h := hn
    clear hn
    subst he
    obtain rfl := Option.some.inj h
    exact lv_ladd hx hb hd (kk H locs ls X)
  | lsub =>
    obtain rfl := ij_beq hlk
    obtain ⟨y, r, he, hn⟩ := ij_xl_inv h
    clear h
    have h := hn
    clear hn
    subst he
    obtain ⟨x, r, he, hn⟩ := ij_xl_inv h
    clear h
    have h := hn
    clear hn
    subst he
    obtain rfl := Option.some.inj h
    exact lv_lsub hx hb hd (kk H locs ls X)
  | lmul =>
    obtain rfl := ij_beq hlk
    obtain ⟨y, r, he, hn⟩ := ij_xl_inv h
    clear h
    have h := hn
    clear hn
    subst he
    obtain ⟨x, r, he, hn⟩ := ij_xl_inv h
    clear h
    have h := hn
    clear hn
    subst he
    obtain rfl := Option.some.inj h
    exact lv_lmul hx hb hd (kk H locs ls X)
  | land =>
    obtain rfl := ij_beq hlk
    obtain ⟨y, r, he, hn⟩ := ij_xl_inv h
    clear h
    have h := hn
    clear hn
    subst he
    obtain ⟨x, r, he, hn⟩ := ij_xl_inv h
    clear h
    have h := hn
    clear hn
    subst he
    obtain rfl := Option.some.inj h
    exact lv_land hx hb hd (kk H locs ls X)
  | lor =>
    obtain rfl := ij_beq hlk
    obtain ⟨y, r, he, hn⟩ := ij_xl_inv h
    clear h
    have h := hn
    clear hn
    subst he
    obtain ⟨x, r, he, hn⟩ := ij_xl_inv h
    clear h
    have h := hn
    clear hn
    subst he
    obtain rfl := Option.some.inj h
    exact lv_lor hx hb hd (kk H locs ls X)
  | lxor =>
    obtain rfl := ij_beq hlk
    obtain ⟨y, r, he, hn⟩ := ij_xl_inv h
    clear h
    have h := hn
    clear hn
    subst he
    obtain ⟨x, r, he, hn⟩ := ij_xl_inv h
    clear h
    have h := hn
    clear hn
    subst he
    obtain rfl := Option.some.inj h
    exact lv_lxor hx hb hd (kk H locs ls X)
  | ldiv =>
    obtain rfl := ij_beq hlk
    obtain ⟨y, r, he, hn⟩ := ij_xl_inv h
    clear h
    have h := hn
    clear hn
    subst he
    obtain ⟨x, r, he, hn⟩ := ij_xl_inv h
    clear h
    have h := hn
    clear hn
    subst he
    obtain rfl := Option.some.inj h
    exact lv_ldiv hx hb hd hz (kk H locs ls X)
  | lrem =>
    obtain rfl := ij_beq hlk
    obtain ⟨y, r, he, hn⟩ := ij_xl_inv h
    clear h
    have h := hn
    clear hn
    subst he
    obtain ⟨x, r, he, hn⟩ := ij_xl_inv h
    clear h
    have h := hn
    clear hn
    subst he
    obtain rfl := Option.some.inj h
    exact lv_lrem hx hb hd hz (kk H locs ls X)
  | lshl =>
    obtain rfl := ij_beq hlk
    obtain ⟨y, r, he, hn⟩ := ij_xi_inv h
    clear h
    have h := hn
    clear hn
    subst he
    obtain ⟨x, r, he, hn⟩ := ij_xl_inv h
    clear h
    have h := hn
    clear hn
    subst he
    obtain rfl := Option.some.inj h
    exact lv_lshl hx hb hd rfl (kk H locs ls X)
  | lshr =>
    obtain rfl := ij_beq hlk
    obtain ⟨y, r, he, hn⟩ := ij_xi_inv h
    clear h
    have h := hn
    clear hn
    subst he
    obtain ⟨x, r, he, hn⟩ := ij_xl_inv h
    clear h
    have h := hn
    clear hn
    subst he
    obtain rfl := Option.some.inj h
    exact lv_lshr hx hb hd rfl (kk H locs ls X)
  | lushr =>
    obtain rfl := ij_beq hlk
    obtain ⟨y, r, he, hn⟩ := ij_xi_inv h
    clear h
    have h := hn
    clear hn
    subst he
    obtain ⟨x, r, he, hn⟩ := ij_xl_inv h
    clear h
    have h := hn
    clear hn
    subst he
    obtain rfl := Option.some.inj h
    exact lv_lushr hx hb hd rfl (kk H locs ls X)
  | lcmp =>
    obtain rfl := ij_beq hlk
    obtain ⟨y, r, he, hn⟩ := ij_xl_inv h
    clear h
    have h := hn
    clear hn
    subst he
    obtain ⟨x, r, he, hn⟩ := ij_xl_inv h
    clear h
    have h := hn
    clear hn
    subst he
    obtain rfl := Option.some.inj h
    exact W.lcmp hx hb hd (kk H locs ls X)
  | i2l =>
    obtain rfl := ij_beq hlk
    obtain ⟨x, r, he, hn⟩ := ij_xi_inv h
    clear h
    have h := hn
    clear hn
    subst he
    obtain rfl := Option.some.inj h
    exact lv_i2l hx hb hd rfl (kk H locs ls X)
  | l2i =>
    obtain rfl := ij_beq hlk
    obtain ⟨x, r, he, hn⟩ := ij_xl_inv h
    clear h
    have h := hn
    clear hn
    subst he
    obtain rfl := Option.some.inj h
    exact lv_l2i hx hb hd rfl (kk H locs ls X)
  | dup =>
    obtain rfl := ij_beq hlk
    obtain ⟨x, r, he, hn⟩ := ij_xv_inv h
    clear h
    have h := hn
    clear hn
    subst he
    split at h
    · rename_i hc
      obtain rfl := Option.some.inj h
      exact lv_dup hx hb hd (by rw [ij_v_cat]; exact hc) (kk H locs ls X)
    · cases h
  | pop =>
    obtain rfl := ij_beq hlk
    obtain ⟨x, r, he, hn⟩ := ij_xv_inv h
    clear h
    have h := hn
    clear hn
    subst he
    split at h
    · rename_i hc
      obtain rfl := Option.some.inj h
      exact lv_pop hx hb hd (by rw [ij_v_cat]; exact hc) (kk H locs ls X)
    · cases h
  | dup2 =>
    obtain rfl := ij_beq hlk
    obtain ⟨x, r, he, hn⟩ := ij_xv_inv h
    clear h
    have h := hn
    clear hn
    subst he
    obtain ⟨y, r, he, hn⟩ := ij_xv_inv h
    clear h
    have h := hn
    clear hn
    subst he
    split at h
    · rename_i hc
      obtain rfl := Option.some.inj h
      exact lv_dup2_11 hx hb hd (by rw [ij_v_cat]; exact hc.1) (by rw [ij_v_cat]; exact hc.2) (kk H locs ls X)
    · cases h
  | goto off =>
    obtain rfl := ij_beq hlk
    obtain ⟨t, ht, h⟩ := ij_bind h
    obtain rfl := Option.some.inj h
    exact lv_goto hx hb hd (ij_tg_ok ht) (kk H locs ls X)
  | ifCond q off =>
    obtain rfl := ij_beq hlk
    obtain ⟨x, r, he, hn⟩ := ij_xi_inv h
    clear h
    have h := hn
    clear hn
    subst he
    obtain ⟨t, ht, h⟩ := ij_bind h
    obtain rfl := Option.some.inj h
    have ht := ij_tg_ok ht
    have k := kk H locs ls X
    cases b with
    | succ b =>
      have hz : ij_cmp q x 0 := hz
      have k : W p l e R s m args below meth c H locs cells slots Q (F0 m t ls (r.map (ij_v ad))) := k
      cases q with
      | eq => exact lv_if_eq hx hb hd ht (fun _ => k) (fun n => absurd hz n)
      | ne => exact lv_if_ne hx hb hd ht (fun _ => k) (fun n => absurd n hz)
      | lt => exact lv_if_lt hx hb hd ht (fun _ => k) (fun n => absurd hz n)
      | ge => exact lv_if_ge hx hb hd ht (fun _ => k) (fun n => absurd hz n)
      | gt => exact lv_if_gt hx hb hd ht (fun _ => k) (fun n => absurd hz n)
      | le => exact lv_if_le hx hb hd ht (fun _ => k) (fun n => absurd hz n)
    | zero =>
      have hz : ij_ncmp q x 0 := hz
      have k : W p l e R s m args below meth c H locs cells slots Q (F0 m (pc + 3) ls (r.map (ij_v ad))) := k
      cases q with
      | eq => exact lv_if_eq hx hb hd ht (fun n => absurd n hz) (fun _ => k)
      | ne => exact lv_if_ne hx hb hd ht (fun n => absurd hz n) (fun _ => k)
      | lt => exact lv_if_lt hx hb hd ht (fun n => absurd n hz) (fun _ => k)
      | ge => exact lv_if_ge hx hb hd ht (fun n => absurd n hz) (fun _ => k)
      | gt => exact lv_if_gt hx hb hd ht (fun n => absurd n hz) (fun _ => k)
      | le => exact lv_if_le hx hb hd ht (fun n => absurd n hz) (fun _ => k)
  | if_icmp q off =>
    obtain rfl := ij_beq hlk
    obtain ⟨y, r, he, hn⟩ := ij_xi_inv h
    clear h
    have h := hn
    clear hn
    subst he
    obtain ⟨x, r, he, hn⟩ := ij_xi_inv h
    clear h
    have h := hn
    clear hn
    subst he
    obtain ⟨t, ht, h⟩ := ij_bind h
    obtain rfl := Option.some.inj h
    have ht := ij_tg_ok ht
    have k := kk H locs ls X
    cases b with
    | succ b =>
      have hz : ij_cmp q x y := hz
      have k : W p l e R s m args below meth c H locs cells slots Q (F0 m t ls (r.map (ij_v ad))) := k
      cases q with
      | eq => exact lv_icmp_eq hx hb hd ht (fun _ => k) (fun n => absurd hz n)
      | ne => exact lv_icmp_ne hx hb hd ht (fun _ => k) (fun n => absurd n hz)
      | lt => exact lv_icmp_lt hx hb hd ht (fun _ => k) (fun n => absurd hz n)
      | ge => exact lv_icmp_ge hx hb hd ht (fun _ => k) (fun n => absurd hz n)
      | gt => exact lv_icmp_gt hx hb hd ht (fun _ => k) (fun n => absurd hz n)
      | le => exact lv_icmp_le hx hb hd ht (fun _ => k) (fun n => absurd hz n)
    | zero =>
      have hz : ij_ncmp q x y := hz
      have k : W p l e R s m args below meth c H locs cells slots Q (F0 m (pc + 3) ls (r.map (ij_v ad))) := k
      cases q with
      | eq => exact lv_icmp_eq hx hb hd ht (fun n => absurd n hz) (fun _ => k)
      | ne => exact lv_icmp_ne hx hb hd ht (fun n => absurd hz n) (fun _ => k)
      | lt => exact lv_icmp_lt hx hb hd ht (fun n => absurd n hz) (fun _ => k)
      | ge => exact lv_icmp_ge hx hb hd ht (fun n => absurd n hz) (fun _ => k)
      | gt => exact lv_icmp_gt hx hb hd ht (fun n => absurd n hz) (fun _ => k)
      | le => exact lv_icmp_le hx hb hd ht (fun n => absurd n hz) (fun _ => k)
  | getfield i =>
    obtain rfl := ij_beq hlk
    obtain ⟨a, r, he, hn⟩ := ij_xa_inv h
    clear h
    have h := hn
    clear hn
    subst he
    obtain ⟨q, hq, h⟩ := ij_bind h
    split at h
    · rename_i ho
      obtain rfl := Option.some.inj h
      obtain ⟨C, T, hc, hk, hlink, hin, -, -, -, -⟩ := hok.2.1 _ _ _ hq
      have hw := ij_W_get (P := P) (nf := nf) (cA := cA) (ad := ad) (σ := σ) (ij_obj_ok ho)
      exact va_get (v := ij_v ad (ij_fv P σ q.1 a q.2)) hx hb hts hin hown hK hP a hw hc q.2 hk (hts _ hlink) (fun _ h9 => h9) (by simp [hk]) hd (kk H locs ls X)
    · cases h
  | putfield i =>
    obtain rfl := ij_beq hlk
    obtain ⟨v, r, he, hn⟩ := ij_xv_inv h
    clear h
    have h := hn
    clear hn
    subst he
    obtain ⟨a, r, he, hn⟩ := ij_xa_inv h
    clear h
    have h := hn
    clear hn
    subst he
    obtain ⟨q, hq, h⟩ := ij_bind h
    split at h
    · rename_i ho
      obtain ⟨y, hy, h⟩ := ij_bind h
      obtain rfl := Option.some.inj h
      obtain ⟨ho, hf⟩ := Bool.and_eq_true_iff.mp ho
      have ho := ij_obj_ok ho
      obtain ⟨C, T, hc, hk, hlink, hin, hty, hnm, hfin, htok⟩ := hok.2.1 _ _ _ hq
      have hw := ij_W_get (P := P) (nf := nf) (cA := cA) (ad := ad) (σ := σ) ho
      have key : ∀ (σ' : ij_S), (∀ q' k', q' ≠ a → ij_ce P nf cA ad σ q' k' = ij_ce P nf cA ad σ' q' k') → (∀ j, j ≠ q.2 → ij_fv P σ' q.1 a j = ij_fv P σ q.1 a j) → ij_fv P σ' q.1 a q.2 = v → narrow (ty q.1 q.2) (ij_v ad v) = ij_v ad v → fits (ty q.1 q.2) (ij_v ad v) = true →
          (∀ (H : Heap) (locs : List Loc) (ls : Array Slot), ij_at P cl nf D cA ad K A H0 (ij_ml P mi) L σ' H locs ls → W p l e R s m args below meth c H locs cells slots Q (F0 m (pc + 3) ls (r.map (ij_v ad)))) →
          W p l e R s m args below meth c H locs cells slots Q (F0 m pc ls ((v :: .ref a :: r).map (ij_v ad))) := by
        intro σ' h1 h2 h3 h4 h5 k9
        refine va_put hx hb hts hin (ty q.1) hty hnm hown hK hP hD hS a hw hc q.2 hk (hts _ hlink) (fun _ h9 => h9) (hfin hf) (hty _ hk) h4 h5 (by simpa using hk) hd (fun H1 locs1 hP1 hD1 hS1 => ?_)
        have he := ij_W_set (P := P) (nf := nf) (cA := cA) (ad := ad) (σ := σ) (σ' := σ') ho (e := .inr (q.1, ((List.range (nf q.1)).map (fun k => ij_v ad (ij_fv P σ q.1 a k))).set q.2 (ij_v ad v))) (by
          show Sum.inr (q.1, _) = Sum.inr (q.1, _)
          rw [ij_fs_set (g := fun k => ij_v ad (ij_fv P σ' q.1 a k)) (by rw [h3]) (fun j hj => by rw [h2 j hj])]) h1
        rw [he] at hP1 hD1
        exact k9 H1 locs1 ls ⟨hP1, hD1, hS1, hl⟩
      unfold ij_pv at hy
      obtain ⟨t0, hft⟩ : ∃ t0, ij_ft P q.1 q.2 = t0 := ⟨_, rfl⟩
      rw [hft] at hy htok
      unfold ij_pw at hy
      split at hy
      · rename_i x h9
        obtain rfl := Option.some.inj hy
        have ht : ty q.1 q.2 = .int := by
          generalize ty q.1 q.2 = t at htok
          cases t <;> first | rfl | cases htok
        refine key (σ.1, ij_u σ.2.1 a q.2 x, σ.2.2) (fun q' k' hne => ?_) (fun j hj => ?_) ?_ (by rw [ht]; rfl) (by rw [ht]; rfl) kk
        · cases k' with
          | inl ci => simp only [ij_ce, ij_fv, ij_u_ne hne]
          | inr tn => simp only [ij_ce, ij_u_ne hne]
        · simp only [ij_fv, ij_u_other _ _ _ _ hj]
        · simp only [ij_fv, hft, ij_u_same]
      · rename_i x h9
        obtain rfl := Option.some.inj hy
        have ht : ty q.1 q.2 = .long := by
          generalize ty q.1 q.2 = t at htok
          cases t <;> first | rfl | cases htok
        refine key (σ.1, σ.2.1, ij_u σ.2.2 a q.2 x) (fun q' k' hne => ?_) (fun j hj => ?_) ?_ (by rw [ht]; rfl) (by rw [ht]; rfl) kk
        · cases k' with
          | inl ci => simp only [ij_ce, ij_fv, ij_u_ne hne]
          | inr tn => simp only [ij_ce, ij_u_ne hne]
        · simp only [ij_fv, ij_u_other _ _ _ _ hj]
        · simp only [ij_fv, hft, ij_u_same]
      · rename_i x h9
        obtain rfl := Option.some.inj hy
        have ht : ty q.1 q.2 = .boolean := by
          generalize ty q.1 q.2 = t at htok
          cases t <;> first | rfl | cases htok
        have hz : x = 0 ∨ x = 1 := hz
        refine key (σ.1, ij_u σ.2.1 a q.2 x, σ.2.2) (fun q' k' hne => ?_) (fun j hj => ?_) ?_ (by rw [ht]; rcases hz with rfl | rfl <;> rfl) (by rw [ht]; rcases hz with rfl | rfl <;> rfl) kk
        · cases k' with
          | inl ci => simp only [ij_ce, ij_fv, ij_u_ne hne]
          | inr tn => simp only [ij_ce, ij_u_ne hne]
        · simp only [ij_fv, ij_u_other _ _ _ _ hj]
        · simp only [ij_fv, hft, ij_u_same]
      · rename_i x h9
        obtain rfl := Option.some.inj hy
        have ht : (∃ C, ty q.1 q.2 = .object C) ∨ ∃ t, ty q.1 q.2 = .array t := by
          generalize ty q.1 q.2 = t at htok
          cases t <;> first | exact Or.inl ⟨_, rfl⟩ | exact Or.inr ⟨_, rfl⟩ | cases htok
        refine key (ij_u σ.1 a q.2 x, σ.2.1, σ.2.2) (fun q' k' hne => ?_) (fun j hj => ?_) ?_ (by rcases ht with ⟨_, ht⟩ | ⟨_, ht⟩ <;> rw [ht] <;> rfl) (by rcases ht with ⟨_, ht⟩ | ⟨_, ht⟩ <;> rw [ht] <;> rfl) kk
        · cases k' with
          | inl ci => simp only [ij_ce, ij_fv, ij_u_ne hne]
          | inr tn => simp only [ij_ce, ij_u_ne hne]
        · simp only [ij_fv, ij_u_other _ _ _ _ hj]
        · simp only [ij_fv, hft, ij_u_same]
      · cases hy
    · cases h
  | iaload =>
    obtain rfl := ij_beq hlk
    obtain ⟨i, r, he, hn⟩ := ij_xi_inv h
    clear h
    have h := hn
    clear hn
    subst he
    obtain ⟨a, r, he, hn⟩ := ij_xa_inv h
    clear h
    have h := hn
    clear hn
    subst he
    obtain ⟨n, hn, h⟩ := ij_bind h
    obtain rfl := Option.some.inj h
    have hw := ij_W_get (P := P) (nf := nf) (cA := cA) (ad := ad) (σ := σ) (ij_arr_ok hn)
    exact va_iald hx hb hK hP a 0 hw rfl hz hd (kk H locs ls X)
  | laload =>
    obtain rfl := ij_beq hlk
    obtain ⟨i, r, he, hn⟩ := ij_xi_inv h
    clear h
    have h := hn
    clear hn
    subst he
    obtain ⟨a, r, he, hn⟩ := ij_xa_inv h
    clear h
    have h := hn
    clear hn
    subst he
    obtain ⟨n, hn, h⟩ := ij_bind h
    obtain rfl := Option.some.inj h
    have hw := ij_W_get (P := P) (nf := nf) (cA := cA) (ad := ad) (σ := σ) (ij_arr_ok hn)
    exact va_lald hx hb hK hP a 1 hw rfl hz hd (kk H locs ls X)
  | baload =>
    obtain rfl := ij_beq hlk
    obtain ⟨i, r, he, hn⟩ := ij_xi_inv h
    clear h
    have h := hn
    clear hn
    subst he
    obtain ⟨a, r, he, hn⟩ := ij_xa_inv h
    clear h
    have h := hn
    clear hn
    subst he
    obtain ⟨n, hn, h⟩ := ij_bind h
    obtain rfl := Option.some.inj h
    have hw := ij_W_get (P := P) (nf := nf) (cA := cA) (ad := ad) (σ := σ) (ij_arr_ok hn)
    exact va_zald hx hb hK hP a 2 hw rfl hz hd (kk H locs ls X)
  | iastore =>
    obtain rfl := ij_beq hlk
    obtain ⟨x, r, he, hn⟩ := ij_xi_inv h
    clear h
    have h := hn
    clear hn
    subst he
    obtain ⟨i, r, he, hn⟩ := ij_xi_inv h
    clear h
    have h := hn
    clear hn
    subst he
    obtain ⟨a, r, he, hn⟩ := ij_xa_inv h
    clear h
    have h := hn
    clear hn
    subst he
    obtain ⟨n, hn, h⟩ := ij_bind h
    obtain rfl := Option.some.inj h
    have ha := ij_arr_ok hn
    have hw := ij_W_get (P := P) (nf := nf) (cA := cA) (ad := ad) (σ := σ) ha
    refine va_iast hx hb hK hP hD hS a 0 hw rfl hz hd (fun H1 locs1 hP1 hD1 hS1 => ?_)
    have he := ij_W_set (P := P) (nf := nf) (cA := cA) (ad := ad) (σ := σ) (σ' := (σ.1, ij_u σ.2.1 a i.toNatClampNeg x, σ.2.2)) ha (e := .inl (cA 0, n, .inl (upd (σ.2.1 a) i.toNatClampNeg x))) (by
      show Sum.inl (cA 0, n, Sum.inl _) = Sum.inl (cA 0, n, Sum.inl _)
      congr 4
      funext j
      simp [ij_u, upd]) (fun q' k' hne => by
        cases k' with
        | inl ci => simp only [ij_ce, ij_fv, ij_u_ne hne]
        | inr tn => simp only [ij_ce, ij_u_ne hne])
    rw [he] at hP1 hD1
    exact kk H1 locs1 ls ⟨hP1, hD1, hS1, hl⟩
  | lastore =>
    obtain rfl := ij_beq hlk
    obtain ⟨x, r, he, hn⟩ := ij_xl_inv h
    clear h
    have h := hn
    clear hn
    subst he
    obtain ⟨i, r, he, hn⟩ := ij_xi_inv h
    clear h
    have h := hn
    clear hn
    subst he
    obtain ⟨a, r, he, hn⟩ := ij_xa_inv h
    clear h
    have h := hn
    clear hn
    subst he
    obtain ⟨n, hn, h⟩ := ij_bind h
    obtain rfl := Option.some.inj h
    have ha := ij_arr_ok hn
    have hw := ij_W_get (P := P) (nf := nf) (cA := cA) (ad := ad) (σ := σ) ha
    refine va_last hx hb hK hP hD hS a 1 hw rfl hz hd (fun H1 locs1 hP1 hD1 hS1 => ?_)
    have he := ij_W_set (P := P) (nf := nf) (cA := cA) (ad := ad) (σ := σ) (σ' := (σ.1, σ.2.1, ij_u σ.2.2 a i.toNatClampNeg x)) ha (e := .inl (cA 1, n, .inr (.inl (vp_updL (σ.2.2 a) i.toNatClampNeg x)))) (by
      show Sum.inl (cA 1, n, Sum.inr (Sum.inl _)) = Sum.inl (cA 1, n, Sum.inr (Sum.inl _))
      congr 5
      funext j
      simp [ij_u, vp_updL]) (fun q' k' hne => by
        cases k' with
        | inl ci => simp only [ij_ce, ij_fv, ij_u_ne hne]
        | inr tn => simp only [ij_ce, ij_u_ne hne])
    rw [he] at hP1 hD1
    exact kk H1 locs1 ls ⟨hP1, hD1, hS1, hl⟩
  | bastore =>
    obtain rfl := ij_beq hlk
    obtain ⟨x, r, he, hn⟩ := ij_xi_inv h
    clear h
    have h := hn
    clear hn
    subst he
    obtain ⟨i, r, he, hn⟩ := ij_xi_inv h
    clear h
    have h := hn
    clear hn
    subst he
    obtain ⟨a, r, he, hn⟩ := ij_xa_inv h
    clear h
    have h := hn
    clear hn
    subst he
    obtain ⟨n, hn, h⟩ := ij_bind h
    obtain rfl := Option.some.inj h
    have ha := ij_arr_ok hn
    have hw := ij_W_get (P := P) (nf := nf) (cA := cA) (ad := ad) (σ := σ) ha
    refine va_zast hx hb hK hP hD hS a 2 hw rfl hz hd (fun H1 locs1 hP1 hD1 hS1 => ?_)
    have he := ij_W_set (P := P) (nf := nf) (cA := cA) (ad := ad) (σ := σ) (σ' := (σ.1, ij_u σ.2.1 a i.toNatClampNeg (vp_nar .boolean x), σ.2.2)) ha (e := .inl (cA 2, n, .inl (upd (σ.2.1 a) i.toNatClampNeg (vp_nar .boolean x)))) (by
      show Sum.inl (cA 2, n, Sum.inl _) = Sum.inl (cA 2, n, Sum.inl _)
      congr 4
      funext j
      simp [ij_u, upd]) (fun q' k' hne => by
        cases k' with
        | inl ci => simp only [ij_ce, ij_fv, ij_u_ne hne]
        | inr tn => simp only [ij_ce, ij_u_ne hne])
    rw [he] at hP1 hD1
    exact kk H1 locs1 ls ⟨hP1, hD1, hS1, hl⟩
  | arraylength =>
    obtain rfl := ij_beq hlk
    obtain ⟨a, r, he, hn⟩ := ij_xa_inv h
    clear h
    have h := hn
    clear hn
    subst he
    obtain ⟨⟨t, n⟩, hn, h⟩ := ij_bind h
    obtain rfl := Option.some.inj h
    have ha := ij_len_ok hn
    have hw := ij_W_get (P := P) (nf := nf) (cA := cA) (ad := ad) (σ := σ) ha
    have ht : t < 3 := hz
    have hq : ([(cA 0, .int), (cA 1, .long), (cA 2, .boolean)] : List (ClassId × FieldType))[t]? = some (cA t, if t = 0 then .int else if t = 1 then .long else .boolean) := by
      rcases (show t = 0 ∨ t = 1 ∨ t = 2 by omega) with rfl | rfl | rfl <;> rfl
    exact va_alen hx hb hK hP a t hw hq rfl hd (kk H locs ls X)
  | _ => cases h
end IJ
