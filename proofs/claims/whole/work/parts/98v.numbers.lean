/-! ===== closed boards: tiles in the order in which they are met ===== -/
theorem cb_nd_le : ∀ (n : Nat) (l : List Nat), l.Nodup → (∀ x, x ∈ l → x < n) → l.length ≤ n := by
  intro n
  induction n with
  | zero =>
    intro l _ h
    cases l with
    | nil => exact Nat.le_refl 0
    | cons x l => exact absurd (h x (List.mem_cons_self ..)) (Nat.not_lt_zero x)
  | succ n ih =>
    intro l hd h
    by_cases e : n ∈ l
    · have h1 := ih (l.erase n) (hd.erase n) (fun x hx => by
        have := h x (List.mem_of_mem_erase hx)
        have hne : x ≠ n := fun q => by
          rw [q] at hx
          exact (hd.not_mem_erase) hx
        omega)
      rw [List.length_erase_of_mem e] at h1
      omega
    · have := ih l hd (fun x hx => by
        have := h x hx
        have hne : x ≠ n := fun q => e (by rw [← q]; exact hx)
        omega)
      omega
theorem cb_sub_le : ∀ (l m : List Nat), l.Nodup → (∀ x, x ∈ l → x ∈ m) → l.length ≤ m.length := by
  intro l
  induction l with
  | nil => intro m _ _; exact Nat.zero_le _
  | cons x l ih =>
    intro m hd h
    have hx := h x (List.mem_cons_self ..)
    have hd' := List.nodup_cons.mp hd
    have h1 := ih (m.erase x) hd'.2 (fun y hy => (List.mem_erase_of_ne (fun q => hd'.1 (by rw [← q]; exact hy))).mpr (h y (List.mem_cons_of_mem _ hy)))
    rw [List.length_erase_of_mem hx] at h1
    have : 0 < m.length := List.length_pos_of_mem hx
    show l.length + 1 ≤ _
    omega
/-- one tile's neighbours, those of the sides given -/
def cb_in (n : Nat) (a : List Nat) (t : Nat) : List Nat → List Nat → List Nat
  | [], o => o
  | s :: l, o => cb_in n a t l (if cb_b n a s t ∈ o then o else o ++ [cb_b n a s t])
/-- tiles as they are met -/
def cb_bf (n p : Nat) (a : List Nat) : Nat → Nat → List Nat → List Nat
  | 0, _, o => o
  | f + 1, k, o => if k < o.length then cb_bf n p a f (k + 1) (cb_in n a (o.getD k 0) (List.range p) o) else o
def cb_od (n p : Nat) (a : List Nat) (x : Nat) : List Nat := cb_bf n p a (n + 1) 0 [x]
section CN1
variable {n p : Nat} {a : List Nat}
/-- a row of tiles, each once -/
def cb_g (n : Nat) (o : List Nat) : Prop := o.Nodup ∧ ∀ x, x ∈ o → x < n
theorem cb_g_le {o : List Nat} (h : cb_g n o) : o.length ≤ n := cb_nd_le n o h.1 h.2
theorem cb_g_app {o : List Nat} {y : Nat} (h : cb_g n o) (hy : y < n) (hne : y ∉ o) : cb_g n (o ++ [y]) := by
  refine ⟨List.nodup_append.mpr ⟨h.1, List.nodup_cons.mpr ⟨List.not_mem_nil, List.nodup_nil⟩, fun x hx z hz => ?_⟩, fun x hx => ?_⟩
  · rw [List.mem_singleton.mp hz]
    exact fun e => hne (by rw [← e]; exact hx)
  · rcases List.mem_append.mp hx with q | q
    · exact h.2 x q
    · rw [List.mem_singleton.mp q]; exact hy
theorem cb_in_g (hn : n < 7) (ha : cb_ok n p a) {t : Nat} (ht : t < n) : ∀ (l o : List Nat), (∀ s, s ∈ l → s < p) → cb_g n o → cb_g n (cb_in n a t l o) := by
  intro l
  induction l with
  | nil => intro o _ h; exact h
  | cons s l ih =>
    intro o hl h
    have hs := hl s (List.mem_cons_self ..)
    refine ih _ (fun r hr => hl r (List.mem_cons_of_mem _ hr)) ?_
    by_cases e : cb_b n a s t ∈ o
    · rw [if_pos e]; exact h
    · rw [if_neg e]; exact cb_g_app h (cb_b_lt hn ha hs ht) e
/-- what is there stays, in its place -/
theorem cb_in_pre {t : Nat} : ∀ (l o : List Nat), ∃ m, cb_in n a t l o = o ++ m := by
  intro l
  induction l with
  | nil => intro o; exact ⟨[], (List.append_nil o).symm⟩
  | cons s l ih =>
    intro o
    by_cases e : cb_b n a s t ∈ o
    · obtain ⟨m, hm⟩ := ih o
      exact ⟨m, by show cb_in n a t l (if _ then _ else _) = _; rw [if_pos e]; exact hm⟩
    · obtain ⟨m, hm⟩ := ih (o ++ [cb_b n a s t])
      exact ⟨[cb_b n a s t] ++ m, by show cb_in n a t l (if _ then _ else _) = _; rw [if_neg e, hm, List.append_assoc]⟩
theorem cb_in_has {t : Nat} : ∀ (l o : List Nat) (s : Nat), s ∈ l → cb_b n a s t ∈ cb_in n a t l o := by
  intro l
  induction l with
  | nil => intro o s hs; exact absurd hs List.not_mem_nil
  | cons r l ih =>
    intro o s hs
    rcases List.mem_cons.mp hs with rfl | hs
    · obtain ⟨m, hm⟩ := cb_in_pre (n := n) (a := a) (t := t) l (if cb_b n a s t ∈ o then o else o ++ [cb_b n a s t])
      show cb_b n a s t ∈ cb_in n a t l (if _ then _ else _)
      rw [hm]
      refine List.mem_append_left _ ?_
      by_cases e : cb_b n a s t ∈ o
      · rw [if_pos e]; exact e
      · rw [if_neg e]; exact List.mem_append_right _ (List.mem_singleton.mpr rfl)
    · exact ih _ s hs
theorem cb_in_re {x t : Nat} (ht : cb_re n a p x t) : ∀ (l o : List Nat), (∀ s, s ∈ l → s < p) → (∀ y, y ∈ o → cb_re n a p x y) → ∀ y, y ∈ cb_in n a t l o → cb_re n a p x y := by
  intro l
  induction l with
  | nil => intro o _ h; exact h
  | cons s l ih =>
    intro o hl h
    refine ih _ (fun r hr => hl r (List.mem_cons_of_mem _ hr)) (fun y hy => ?_)
    by_cases e : cb_b n a s t ∈ o
    · rw [if_pos e] at hy; exact h y hy
    · rw [if_neg e] at hy
      rcases List.mem_append.mp hy with q | q
      · exact h y q
      · rw [List.mem_singleton.mp q]
        exact cb_re_trans ht (cb_re_step (hl s (List.mem_cons_self ..)))
/-- the whole: good; begins as it began; closed; all is come to -/
theorem cb_bf_all (hn : n < 7) (ha : cb_ok n p a) {x : Nat} : ∀ (f k : Nat) (o : List Nat), n < k + f → cb_g n o → k ≤ o.length → (∀ i s, i < k → s < p → cb_b n a s (o.getD i 0) ∈ o) → (∀ y, y ∈ o → cb_re n a p x y) → cb_g n (cb_bf n p a f k o) ∧ (∃ m, cb_bf n p a f k o = o ++ m) ∧ (∀ y s, y ∈ cb_bf n p a f k o → s < p → cb_b n a s y ∈ cb_bf n p a f k o) ∧ ∀ y, y ∈ cb_bf n p a f k o → cb_re n a p x y := by
  intro f
  induction f with
  | zero =>
    intro k o hk hg hko
    have := cb_g_le hg
    omega
  | succ f ih =>
    intro k o hk hg hko hcl hre
    show cb_g n (if k < o.length then _ else o) ∧ _
    by_cases e : k < o.length
    · have hmem : o.getD k 0 ∈ o := by rw [cb_getD _ _ e]; exact List.getElem_mem e
      have ht := hg.2 _ hmem
      obtain ⟨m, hm⟩ := cb_in_pre (n := n) (a := a) (t := o.getD k 0) (List.range p) o
      have hb : cb_bf n p a (f + 1) k o = cb_bf n p a f (k + 1) (cb_in n a (o.getD k 0) (List.range p) o) := by
        show (if k < o.length then _ else o) = _
        rw [if_pos e]
      have hget : ∀ i, i < o.length → (cb_in n a (o.getD k 0) (List.range p) o).getD i 0 = o.getD i 0 := fun i hi => by
        rw [hm, List.getD_eq_getElem?_getD, List.getElem?_append_left hi, ← List.getD_eq_getElem?_getD]
      have := ih (k + 1) (cb_in n a (o.getD k 0) (List.range p) o) (by omega) (cb_in_g hn ha ht _ o (fun s hs => List.mem_range.mp hs) hg) (by rw [hm, List.length_append]; omega) (fun i s hi hs => by
        rw [hget i (by omega)]
        by_cases ei : i = k
        · rw [ei]; exact cb_in_has _ o s (List.mem_range.mpr hs)
        · rw [hm]; exact List.mem_append_left _ (hcl i s (by omega) hs)) (cb_in_re (hre _ hmem) _ o (fun s hs => List.mem_range.mp hs) hre)
      rw [if_pos e, hb]
      obtain ⟨z1, ⟨m2, z2⟩, z3, z4⟩ := this
      exact ⟨z1, ⟨m ++ m2, by rw [z2, hm, List.append_assoc]⟩, z3, z4⟩
    · have hb : cb_bf n p a (f + 1) k o = o := by
        show (if k < o.length then _ else o) = _
        rw [if_neg e]
      rw [if_neg e, hb]
      refine ⟨hg, ⟨[], (List.append_nil o).symm⟩, fun y s hy hs => ?_, hre⟩
      obtain ⟨i, hi, e'⟩ := List.getElem_of_mem hy
      have := hcl i s (by omega) hs
      rw [cb_getD _ _ hi, e'] at this
      exact this
theorem cb_od_all (hn : n < 7) (ha : cb_ok n p a) {x : Nat} (hx : x < n) : cb_g n (cb_od n p a x) ∧ (∃ m, cb_od n p a x = [x] ++ m) ∧ (∀ y s, y ∈ cb_od n p a x → s < p → cb_b n a s y ∈ cb_od n p a x) ∧ ∀ y, y ∈ cb_od n p a x → cb_re n a p x y :=
  cb_bf_all hn ha (n + 1) 0 [x] (by omega) ⟨List.nodup_cons.mpr ⟨List.not_mem_nil, List.nodup_nil⟩, fun y hy => by rw [List.mem_singleton.mp hy]; exact hx⟩ (Nat.zero_le _) (fun i s hi => absurd hi (Nat.not_lt_zero i)) (fun y hy => by rw [List.mem_singleton.mp hy]; exact cb_re_refl x)
theorem cb_od_mem (hn : n < 7) (ha : cb_ok n p a) {x y : Nat} (hx : x < n) : y ∈ cb_od n p a x ↔ cb_re n a p x y := by
  obtain ⟨h1, ⟨m, h2⟩, h3, h4⟩ := cb_od_all hn ha hx
  refine ⟨h4 y, ?_⟩
  rintro ⟨l, hl, e⟩
  have key : ∀ (l : List Nat) (z : Nat), (∀ s, s ∈ l → s < p) → z ∈ cb_od n p a x → cb_go n a l z ∈ cb_od n p a x := by
    intro l
    induction l with
    | nil => intro z _ hz; exact hz
    | cons s l ih => intro z hl hz; exact ih _ (fun r hr => hl r (List.mem_cons_of_mem _ hr)) (h3 z s hz (hl s (List.mem_cons_self ..)))
  rw [← e]
  exact key l x hl (by rw [h2]; exact List.mem_cons_self ..)
/-- all hang together with x, if all are met -/
theorem cb_od_full (hn : n < 7) (ha : cb_ok n p a) {x : Nat} (hx : x < n) : (cb_od n p a x).length = n ↔ ∀ y, y < n → cb_re n a p x y := by
  obtain ⟨h1, -, -, -⟩ := cb_od_all hn ha hx
  constructor
  · intro e y hy
    rw [← cb_od_mem hn ha hx]
    exact Classical.byContradiction (fun q => by
      have := cb_g_le (cb_g_app h1 hy q)
      rw [List.length_append, e] at this
      have : n + 1 ≤ n := this
      omega)
  · intro h
    have hle := cb_g_le h1
    have := cb_sub_le (List.range n) (cb_od n p a x) List.nodup_range (fun y hy => (cb_od_mem hn ha hx).mpr (h y (List.mem_range.mp hy)))
    rw [List.length_range] at this
    omega
end CN1

section CN2
variable {d n p : Nat} {cs : Nat → Nat} {J : Nat → Nat → Int64} {a : List Nat}
/-- numbers of tiles, as the reference holds them -/
def cb_tn (n : Nat) (o : List Nat) (I : Nat → Nat → Int32) : Prop := (∀ y, y < n → I 32 y = if y ∈ o then nI (o.idxOf y) else -1) ∧ ∀ k, k < o.length → I 33 k = nI (o.getD k 0)
theorem cb_idx_app {o : List Nat} {y z : Nat} (hz : z ∈ o) : (o ++ [y]).idxOf z = o.idxOf z := by
  rw [List.idxOf_append, if_pos hz]
theorem cb_idx_new {o : List Nat} {y : Nat} (hy : y ∉ o) : (o ++ [y]).idxOf y = o.length := by
  rw [List.idxOf_append, if_neg hy]
  simp
theorem cb_tn_app {o : List Nat} {y : Nat} {I : Nat → Nat → Int32} (hy : y ∉ o) (h : cb_tn n o I) : cb_tn n (o ++ [y]) (ij_u (ij_u I 32 y (nI o.length)) 33 o.length (nI y)) := by
  refine ⟨fun z hz => ?_, fun k hk => ?_⟩
  · rw [congrFun (ij_u_ne (by decide)) z]
    by_cases e : z = y
    · subst e
      rw [ij_u_same, if_pos (List.mem_append_right _ (List.mem_singleton.mpr rfl)), cb_idx_new hy]
    · rw [ij_u_other _ _ _ _ e, h.1 z hz]
      by_cases q : z ∈ o
      · rw [if_pos q, if_pos (List.mem_append_left _ q), cb_idx_app q]
      · rw [if_neg q, if_neg (fun q' => by
          rcases List.mem_append.mp q' with q' | q'
          · exact q q'
          · exact e (List.mem_singleton.mp q'))]
  · rw [List.length_append] at hk
    have hk' : k < o.length + 1 := hk
    by_cases e : k = o.length
    · subst e
      rw [ij_u_same, List.getD_eq_getElem?_getD, List.getElem?_append_right (Nat.le_refl _), Nat.sub_self]
      rfl
    · rw [ij_u_other _ _ _ _ e, congrFun (ij_u_ne (by decide)) k, h.2 k (by omega), List.getD_eq_getElem?_getD, List.getD_eq_getElem?_getD, List.getElem?_append_left (by omega)]
theorem rs_num49 {t k : Nat} (hn : n < 7) (hp : p ≤ 8) (hal : a.length = p) (ha : cb_ok n p a) (ht : t < n) : ∀ (r s : Nat) (o : List Nat) (I : Nat → Nat → Int32), s + r = p → cb_cx n p cs I → cb_at a I → cb_g n o → cb_tn n o I → k < o.length → o.getD k 0 = t → ∃ I' : Nat → Nat → Int32, (∀ v τ, rk_go (rk_call (d + 1)) 59 (41, [some (.ref 0), none, some (.int (nI (cb_in n a t (List.range' s r) o).length)), some (.int (nI (k + 1))), none, none], [], (rk_R, I', J)) v τ → rk_go (rk_call (d + 1)) 59 (49, [some (.ref 0), none, some (.int (nI o.length)), some (.int (nI k)), some (.int (nI s)), none], [], (rk_R, I, J)) v τ) ∧ cb_tn n (cb_in n a t (List.range' s r) o) I' ∧ ∀ q, q ≠ 32 → q ≠ 33 → I' q = I q := by
  intro r
  induction r with
  | zero =>
    intro s o I hs hc hat hg hnm hk ht'
    have : s = p := by omega
    subst this
    refine ⟨I, fun v τ hgo => ?_, hnm, fun _ _ _ => rfl⟩
    rw [← nI_1] at hgo
    exact rp_numbers_49_0 I J _ _ _ (by rw [hc.2.1]; exact nI_le (Nat.le_refl s) (by omega)) hgo
  | succ r ih =>
    intro s o I hs hc hat hg hnm hk ht'
    have hol := cb_g_le hg
    have hy : cb_b n a s t < n := cb_b_lt hn ha (by omega) ht
    have cly : (nI (cb_b n a s t)).toNatClampNeg = cb_b n a s t := nI_clamp (by omega)
    have g49 : ∀ v τ, rk_go (rk_call (d + 1)) 59 (70, [some (.ref 0), none, some (.int (nI o.length)), some (.int (nI k)), some (.int (nI s)), none], [.int (nI (cb_b n a s t))], (rk_R, I, J)) v τ → rk_go (rk_call (d + 1)) 59 (49, [some (.ref 0), none, some (.int (nI o.length)), some (.int (nI k)), some (.int (nI s)), none], [], (rk_R, I, J)) v τ := fun v τ hgo => by
      have q := rp_numbers_49_1 (C := rk_call (d + 1)) (v := v) (τ := τ) (I' := I) (J' := J) I J (nI o.length) (nI k) (nI s) (by rw [hc.2.1]; exact nI_ge (by omega) (by omega)) (vp_in_nI (by omega) (by decide)) (nI (cb_b n a s t))
      rw [nI_clamp (by omega), hnm.2 k hk, ht'] at q
      exact q (rs_go (d := d) hn hc.1 (by omega) (hat s (by omega)) (ha s (by omega)) ht) hgo
    rw [List.range'_succ]
    by_cases e : cb_b n a s t ∈ o
    · have ein : cb_in n a t (s :: List.range' (s + 1) r) o = cb_in n a t (List.range' (s + 1) r) o := by
        show cb_in n a t _ (if _ then _ else _) = _
        rw [if_pos e]
      rw [ein]
      obtain ⟨I', k1, k2, k3⟩ := ih (s + 1) o I (by omega) hc hat hg hnm hk ht'
      refine ⟨I', fun v τ hgo => g49 v τ ?_, k2, k3⟩
      have z := k1 v τ hgo
      rw [← nI_1] at z
      refine rp_numbers_70_1 I J _ _ _ _ (vp_in_nI (by omega) (by decide)) ?_ z
      rw [cly, hnm.1 _ hy, if_pos e]
      exact nI_ne_m1 (by have := List.idxOf_lt_length_iff.mpr e; omega)
    · have ein : cb_in n a t (s :: List.range' (s + 1) r) o = cb_in n a t (List.range' (s + 1) r) (o ++ [cb_b n a s t]) := by
        show cb_in n a t _ (if _ then _ else _) = _
        rw [if_neg e]
      rw [ein]
      have hg2 := cb_g_app hg hy e
      have hol2 := cb_g_le hg2
      have hl2 : (o ++ [cb_b n a s t]).length = o.length + 1 := by rw [List.length_append]; rfl
      obtain ⟨I', k1, k2, k3⟩ := ih (s + 1) (o ++ [cb_b n a s t]) (ij_u (ij_u I 32 (cb_b n a s t) (nI o.length)) 33 o.length (nI (cb_b n a s t))) (by omega) (cb_cx_fS (fun q k _ a2 a3 _ _ => (lb_u_at (fun z => a3 z.1)).trans (lb_u_at (fun z => a2 z.1))) hc) (fun j hj => (congrFun (ij_u_ne (by decide)) j).trans ((congrFun (ij_u_ne (by decide)) j).trans (hat j hj))) hg2 (cb_tn_app e hnm) (by rw [hl2]; omega) (by rw [List.getD_eq_getElem?_getD, List.getElem?_append_left hk, ← List.getD_eq_getElem?_getD]; exact ht')
      refine ⟨I', fun v τ hgo => g49 v τ ?_, k2, fun q h1 h2 => (k3 q h1 h2).trans ((ij_u_ne h2).trans (ij_u_ne h1))⟩
      have z := k1 v τ hgo
      rw [hl2, ← nI_1, ← nI_1] at z
      have q := rp_numbers_70_0 (C := rk_call (d + 1)) (v := v) (τ := τ) I J (nI o.length) (nI k) (nI s) (nI (cb_b n a s t)) (vp_in_nI (by omega) (by decide))
      rw [cly, nI_clamp (by omega)] at q
      exact q (by rw [hnm.1 _ hy, if_neg e]) (vp_in_nI (by omega) (by decide)) (vp_in_nI (by omega) (by decide)) z
theorem rs_num41 (hn : n < 7) (hp : p ≤ 8) (hal : a.length = p) (ha : cb_ok n p a) : ∀ (f k : Nat) (o : List Nat) (I : Nat → Nat → Int32), n < k + f → cb_cx n p cs I → cb_at a I → cb_g n o → cb_tn n o I → k ≤ o.length → ∃ I' : Nat → Nat → Int32, rk_go (rk_call (d + 1)) 59 (41, [some (.ref 0), none, some (.int (nI o.length)), some (.int (nI k)), none, none], [], (rk_R, I, J)) (some (.int (nI (cb_bf n p a f k o).length))) (rk_R, I', J) ∧ cb_tn n (cb_bf n p a f k o) I' ∧ ∀ q, q ≠ 32 → q ≠ 33 → I' q = I q := by
  intro f
  induction f with
  | zero =>
    intro k o I hk hc hat hg hnm hko
    have := cb_g_le hg
    omega
  | succ f ih =>
    intro k o I hk hc hat hg hnm hko
    have hol := cb_g_le hg
    by_cases e : k < o.length
    · have hb : cb_bf n p a (f + 1) k o = cb_bf n p a f (k + 1) (cb_in n a (o.getD k 0) (List.range p) o) := by
        show (if k < o.length then _ else o) = _
        rw [if_pos e]
      rw [hb]
      have ht : o.getD k 0 < n := hg.2 _ (by rw [cb_getD _ _ e]; exact List.getElem_mem e)
      obtain ⟨I1, k1, k2, k3⟩ := rs_num49 (d := d) (J := J) (k := k) hn hp hal ha ht p 0 o I (Nat.zero_add p) hc hat hg hnm e rfl
      rw [← List.range_eq_range'] at k1 k2
      obtain ⟨m, hm⟩ := cb_in_pre (n := n) (a := a) (t := o.getD k 0) (List.range p) o
      obtain ⟨I', z1, z2, z3⟩ := ih (k + 1) (cb_in n a (o.getD k 0) (List.range p) o) I1 (by omega) (cb_cx_fS (fun q j _ a2 a3 _ _ => congrFun (k3 q a2 a3) j) hc) (by unfold cb_at; rw [k3 30 (by decide) (by decide)]; exact hat) (cb_in_g hn ha ht _ o (fun s hs => List.mem_range.mp hs) hg) k2 (by rw [hm, List.length_append]; omega)
      exact ⟨I', rp_numbers_41_1 I J _ _ (nI_ge e (by omega)) (k1 _ _ z1), z2, fun q h1 h2 => (z3 q h1 h2).trans (k3 q h1 h2)⟩
    · have hb : cb_bf n p a (f + 1) k o = o := by
        show (if k < o.length then _ else o) = _
        rw [if_neg e]
      rw [hb]
      exact ⟨I, rp_numbers_41_0 I J _ _ (nI_le (by omega) (by omega)), hnm, fun _ _ _ => rfl⟩
theorem rs_num2 {x : Int32} (hn : n < 7) : ∀ (r k : Nat) (I : Nat → Nat → Int32), k + r = n → I 0 53 = nI n → (∀ y, y < k → I 32 y = -1) → ∃ I' : Nat → Nat → Int32, (∀ C v τ, rk_go C 59 (2, [some (.ref 0), some (.int x), some (.int (nI n)), none, none, none], [], (rk_R, I', J)) v τ → rk_go C 59 (2, [some (.ref 0), some (.int x), some (.int (nI k)), none, none, none], [], (rk_R, I, J)) v τ) ∧ (∀ y, y < n → I' 32 y = -1) ∧ ∀ q, q ≠ 32 → I' q = I q := by
  intro r
  induction r with
  | zero =>
    intro k I hk h53 h
    have : k = n := by omega
    subst this
    exact ⟨I, fun _ _ _ h => h, h, fun _ _ => rfl⟩
  | succ r ih =>
    intro k I hk h53 h
    obtain ⟨I', g1, g2, g3⟩ := ih (k + 1) (ij_u I 32 k (-1)) (by omega) h53 (fun y hy => by
      by_cases e : y = k
      · subst e; exact ij_u_same _ _ _ _
      · rw [ij_u_other _ _ _ _ e]; exact h y (by omega))
    refine ⟨I', fun C v τ hg => ?_, g2, fun q hq => (g3 q hq).trans (ij_u_ne hq)⟩
    have q := rp_numbers_2_1 (C := C) (v := v) (τ := τ) I J x (nI k) (by rw [h53]; exact nI_ge (by omega) (by omega)) (vp_in_nI (by omega) (by decide))
    rw [nI_clamp (by omega), nI_1] at q
    exact q (g1 C v τ hg)
theorem rs_numbers {x : Nat} {I : Nat → Nat → Int32} (hn : n < 7) (hp : p ≤ 8) (hal : a.length = p) (ha : cb_ok n p a) (hx : x < n) (hc : cb_cx n p cs I) (hat : cb_at a I) : ∃ I' : Nat → Nat → Int32, rk_call (d + 2) 59 [.ref 0, .int (nI x)] (rk_R, I, J) (some (.int (nI (cb_od n p a x).length))) (rk_R, I', J) ∧ cb_tn n (cb_od n p a x) I' ∧ ∀ q, q ≠ 32 → q ≠ 33 → I' q = I q := by
  obtain ⟨I1, g1, g2, g3⟩ := rs_num2 (J := J) (x := nI x) hn n 0 I (Nat.zero_add n) hc.1.1 (fun y hy => absurd hy (Nat.not_lt_zero y))
  have htn : cb_tn n [x] (ij_u (ij_u I1 32 x 0) 33 0 (nI x)) := by
    refine ⟨fun y hy => ?_, fun k hk => ?_⟩
    · rw [congrFun (ij_u_ne (by decide)) y]
      by_cases e : y = x
      · subst e
        rw [ij_u_same, if_pos (List.mem_singleton.mpr rfl)]
        simp
        rfl
      · rw [ij_u_other _ _ _ _ e, if_neg (fun q => e (List.mem_singleton.mp q))]
        exact g2 y hy
    · have hk1 : k < 1 := hk
      have : k = 0 := by omega
      subst this
      exact ij_u_same _ _ _ _
  have hc1 : cb_cx n p cs (ij_u (ij_u I1 32 x 0) 33 0 (nI x)) := cb_cx_fS (fun q j _ a2 a3 _ _ => (lb_u_at (fun z => a3 z.1)).trans ((lb_u_at (fun z => a2 z.1)).trans (congrFun (g3 q a2) j))) hc
  obtain ⟨I', z1, z2, z3⟩ := rs_num41 (d := d) (J := J) hn hp hal ha (n + 1) 0 [x] (ij_u (ij_u I1 32 x 0) 33 0 (nI x)) (by omega) hc1 (fun j hj => (congrFun (ij_u_ne (by decide)) j).trans ((congrFun (ij_u_ne (by decide)) j).trans ((congrFun (g3 30 (by decide)) j).trans (hat j hj)))) ⟨List.nodup_cons.mpr ⟨List.not_mem_nil, List.nodup_nil⟩, fun y hy => by rw [List.mem_singleton.mp hy]; exact hx⟩ htn (Nat.zero_le _)
  refine ⟨I', ij_cr_of (Nat.le_of_ble_eq_true rfl) (rp_numbers_0_0 I J (nI x) (g1 _ _ _ ?_)), z2, fun q h1 h2 => (z3 q h1 h2).trans ((ij_u_ne h2).trans ((ij_u_ne h1).trans (g3 q h1)))⟩
  have q := rp_numbers_2_0 (C := rk_call (d + 1)) (v := some (.int (nI (cb_od n p a x).length))) (τ := (rk_R, I', J)) I1 J (nI x) (nI n) (by rw [g3 0 (by decide), hc.1.1]; exact nI_le (Nat.le_refl n) (by omega)) (vp_in_nI (by omega) (by decide)) (vp_in_nI (n := 0) (by decide) (by decide))
  rw [nI_clamp (by omega)] at q
  exact q z1
end CN2
