/-! ===== closed boards: tiles numbered anew ===== -/
theorem cb_len {n i : Nat} (hn : n < 7) (hi : i < cb_q n) : ((cb_T n).getD i []).length = n := by
  have h := cb_goods n hn
  unfold cb_good at h
  have h2 := List.all_eq_true.mp h _ (cb_mem hi)
  rw [Bool.and_eq_true] at h2
  exact beq_iff_eq.mp h2.1
theorem cb_map_getD {n k : Nat} {w : Nat → Nat} (hk : k < n) : ((List.range n).map w).getD k 0 = w k := by
  rw [cb_getD _ _ (by rw [List.length_map, List.length_range]; exact hk), List.getElem_map, List.getElem_range]
theorem cb_row_eq {n i : Nat} {w : Nat → Nat} (hn : n < 7) (hi : i < cb_q n) (h : ∀ x, x < n → cb_r n i x = w x) : (cb_T n).getD i [] = (List.range n).map w := by
  have hl := cb_len hn hi
  apply List.ext_getElem
  · rw [hl, List.length_map, List.length_range]
  · intro k h1 h2
    rw [List.getElem_map, List.getElem_range, ← h k (by omega)]
    unfold cb_r
    rw [cb_getD ((cb_T n).getD i []) 0 h1]
theorem cb_r_inj {n i j : Nat} (hn : n < 7) (hi : i < cb_q n) (hj : j < cb_q n) (h : ∀ x, x < n → cb_r n i x = cb_r n j x) : i = j := by
  have e : (cb_T n)[i]'hi = (cb_T n)[j]'hj := by
    rw [← cb_getD (cb_T n) [] hi, ← cb_getD (cb_T n) [] hj, cb_row_eq hn hi h, cb_row_eq hn hj (fun _ _ => rfl)]
  have nd := List.pairwise_iff_getElem.mp (cb_nodup6 n hn)
  rcases Nat.lt_trichotomy i j with q | q | q
  · exact absurd e (nd i j hi hj q)
  · exact q
  · exact absurd e.symm (nd j i hj hi q)
/-- the number of a row -/
def cb_ix (n : Nat) (w : Nat → Nat) : Nat := (cb_T n).idxOf ((List.range n).map w)
theorem cb_ix_all {n : Nat} {w : Nat → Nat} (hn : n < 7) (hn1 : 1 ≤ n) (h : ∀ x, x < n → w x < n ∧ w (w x) = x) : cb_ix n w < cb_q n ∧ ∀ x, x < n → cb_r n (cb_ix n w) x = w x := by
  have hm : (List.range n).map w ∈ cb_T n := by
    have h1 := cb_allw_of n _ (cb_full6 n hn hn1) ((List.range n).map w) (by rw [List.length_map, List.length_range]) (fun e he => by
      obtain ⟨x, hx, e'⟩ := List.mem_map.mp he
      rw [← e']; exact (h x (List.mem_range.mp hx)).1)
    have hiv : cb_iv n ((List.range n).map w) = true := List.all_eq_true.mpr (fun x hx => by
      have hx := List.mem_range.mp hx
      rw [beq_iff_eq, cb_map_getD hx, cb_map_getD (h x hx).1]
      exact (h x hx).2)
    rw [hiv] at h1
    exact List.contains_iff_mem.mp (by simpa using h1)
  have hlt : cb_ix n w < cb_q n := List.idxOf_lt_length_iff.mpr hm
  refine ⟨hlt, fun x hx => ?_⟩
  unfold cb_r
  rw [cb_getD (cb_T n) [] hlt]
  have : (cb_T n)[cb_ix n w]'hlt = (List.range n).map w := List.getElem_idxOf hlt
  rw [this, cb_map_getD hx]
section CR1
variable {n p : Nat} {a a1 a2 : List Nat} {ψ : Nat → Nat}
/-- a draft is told by its board -/
theorem cb_b_inj (hn : n < 7) (h1 : a1.length = p) (h2 : a2.length = p) (o1 : cb_ok n p a1) (o2 : cb_ok n p a2) (h : cb_eq2 p n (cb_b n a1) (cb_b n a2)) : a1 = a2 := by
  apply List.ext_getElem (h1.trans h2.symm)
  intro s q1 q2
  have hs : s < p := by omega
  have := cb_r_inj hn (o1 s hs) (o2 s hs) (fun x hx => h s x hs hx)
  rw [cb_getD _ _ q1, cb_getD _ _ q2] at this
  exact this
/-- from one board into another, each tile at most once -/
def cb_hm (n p : Nat) (a1 a2 : List Nat) (ψ : Nat → Nat) : Prop := (∀ x, x < n → ψ x < n) ∧ (∀ x y, x < n → y < n → ψ x = ψ y → x = y) ∧ ∀ s t, s < p → t < n → cb_b n a2 s (ψ t) = ψ (cb_b n a1 s t)
theorem cb_map_mem (h : cb_hm n p a1 a2 ψ) {o : List Nat} {y : Nat} (ho : ∀ x, x ∈ o → x < n) (hy : y < n) : ψ y ∈ o.map ψ ↔ y ∈ o := by
  constructor
  · intro q
    obtain ⟨x, hx, e⟩ := List.mem_map.mp q
    rw [← h.2.1 x y (ho x hx) hy e]
    exact hx
  · exact fun q => List.mem_map.mpr ⟨y, q, rfl⟩
theorem cb_in_map (hn : n < 7) (h1 : cb_ok n p a1) (h : cb_hm n p a1 a2 ψ) {t : Nat} (ht : t < n) : ∀ (l o : List Nat), (∀ s, s ∈ l → s < p) → (∀ x, x ∈ o → x < n) → cb_in n a2 (ψ t) l (o.map ψ) = (cb_in n a1 t l o).map ψ := by
  intro l
  induction l with
  | nil => intro o _ _; rfl
  | cons s l ih =>
    intro o hl ho
    have hs := hl s (List.mem_cons_self ..)
    have hb := cb_b_lt hn h1 hs ht
    show cb_in n a2 (ψ t) l (if cb_b n a2 s (ψ t) ∈ o.map ψ then _ else _) = (cb_in n a1 t l (if cb_b n a1 s t ∈ o then _ else _)).map ψ
    rw [h.2.2 s t hs ht]
    by_cases e : cb_b n a1 s t ∈ o
    · rw [if_pos e, if_pos ((cb_map_mem h ho hb).mpr e)]
      exact ih o (fun r hr => hl r (List.mem_cons_of_mem _ hr)) ho
    · rw [if_neg e, if_neg (fun q => e ((cb_map_mem h ho hb).mp q)), ← ih (o ++ [cb_b n a1 s t]) (fun r hr => hl r (List.mem_cons_of_mem _ hr)) (fun x hx => by
        rcases List.mem_append.mp hx with q | q
        · exact ho x q
        · rw [List.mem_singleton.mp q]; exact hb), List.map_append]
      rfl
theorem cb_bf_map (hn : n < 7) (h1 : cb_ok n p a1) (h : cb_hm n p a1 a2 ψ) : ∀ (f k : Nat) (o : List Nat), cb_g n o → cb_bf n p a2 f k (o.map ψ) = (cb_bf n p a1 f k o).map ψ := by
  intro f
  induction f with
  | zero => intro k o _; rfl
  | succ f ih =>
    intro k o hg
    show (if k < (o.map ψ).length then _ else _) = (if k < o.length then _ else o).map ψ
    rw [List.length_map]
    by_cases e : k < o.length
    · have ht : o.getD k 0 < n := hg.2 _ (by rw [cb_getD _ _ e]; exact List.getElem_mem e)
      have eg : (o.map ψ).getD k 0 = ψ (o.getD k 0) := by
        rw [cb_getD _ _ (by rw [List.length_map]; exact e), List.getElem_map, cb_getD _ _ e]
      rw [if_pos e, if_pos e, eg, cb_in_map hn h1 h ht _ o (fun s hs => List.mem_range.mp hs) hg.2]
      exact ih (k + 1) _ (cb_in_g hn h1 ht _ o (fun s hs => List.mem_range.mp hs) hg)
    · rw [if_neg e, if_neg e]
theorem cb_od_map (hn : n < 7) (h1 : cb_ok n p a1) (h : cb_hm n p a1 a2 ψ) {x : Nat} (hx : x < n) : cb_od n p a2 (ψ x) = (cb_od n p a1 x).map ψ :=
  cb_bf_map hn h1 h (n + 1) 0 [x] ⟨List.nodup_cons.mpr ⟨List.not_mem_nil, List.nodup_nil⟩, fun y hy => by rw [List.mem_singleton.mp hy]; exact hx⟩
theorem cb_idx_map (h : ∀ x y, x < n → y < n → ψ x = ψ y → x = y) {y : Nat} (hy : y < n) : ∀ (o : List Nat), (∀ x, x ∈ o → x < n) → (o.map ψ).idxOf (ψ y) = o.idxOf y := by
  intro o
  induction o with
  | nil => intro _; rfl
  | cons x o ih =>
    intro ho
    rw [List.map_cons, List.idxOf_cons, List.idxOf_cons]
    by_cases e : x = y
    · subst e
      simp
    · have e' : ψ x ≠ ψ y := fun q => e (h x y (ho x (List.mem_cons_self ..)) hy q)
      rw [show (ψ x == ψ y) = false from beq_eq_false_iff_ne.mpr e', show (x == y) = false from beq_eq_false_iff_ne.mpr e]
      simp only [cond_false]
      rw [ih (fun z hz => ho z (List.mem_cons_of_mem _ hz))]
end CR1
/-- the draft whose tiles are numbered as they are met from x -/
def cb_R (n p : Nat) (a : List Nat) (x : Nat) : List Nat := (List.range p).map (fun s => cb_ix n (cb_rn n p a x s))
section CR2
variable {n p : Nat} {a : List Nat} {x : Nat}
theorem cb_con_full (hn : n < 7) (ha : cb_ok n p a) (hc : cb_cn n p a) (hx : x < n) : (cb_od n p a x).length = n := (cb_od_full hn ha hx).mpr (fun y hy => cb_re_trans (cb_re_symm hn ha (by omega) (hc x hx)) (hc y hy))
/-- what is known of the tiles as they are met, if all are -/
theorem cb_o_all (hn : n < 7) (ha : cb_ok n p a) (hc : cb_cn n p a) (hx : x < n) : (∀ k, k < n → (cb_od n p a x).getD k 0 < n ∧ (cb_od n p a x).idxOf ((cb_od n p a x).getD k 0) = k) ∧ (∀ y, y < n → (cb_od n p a x).idxOf y < n ∧ (cb_od n p a x).getD ((cb_od n p a x).idxOf y) 0 = y) ∧ (cb_od n p a x).getD 0 0 = x := by
  have hl := cb_con_full hn ha hc hx
  obtain ⟨h1, ⟨m, h2⟩, -, -⟩ := cb_od_all hn ha hx
  refine ⟨fun k hk => ?_, fun y hy => ?_, by rw [h2]; rfl⟩
  · have hk' : k < (cb_od n p a x).length := by omega
    rw [cb_getD _ _ hk']
    exact ⟨h1.2 _ (List.getElem_mem _), List.Nodup.idxOf_getElem h1.1 k hk'⟩
  · have hm : y ∈ cb_od n p a x := (cb_od_mem hn ha hx).mpr (cb_re_trans (cb_re_symm hn ha (by omega) (hc x hx)) (hc y hy))
    have hi := List.idxOf_lt_length_iff.mpr hm
    refine ⟨by omega, ?_⟩
    rw [cb_getD _ _ hi]
    exact List.getElem_idxOf hi
theorem cb_rn_iv (hn : n < 7) (ha : cb_ok n p a) (hc : cb_cn n p a) (hx : x < n) {s : Nat} (hs : s < p) : ∀ k, k < n → cb_rn n p a x s k < n ∧ cb_rn n p a x s (cb_rn n p a x s k) = k := by
  obtain ⟨o1, o2, -⟩ := cb_o_all hn ha hc hx
  intro k hk
  have hb := cb_b_lt hn ha hs (o1 k hk).1
  refine ⟨(o2 _ hb).1, ?_⟩
  show (cb_od n p a x).idxOf (cb_b n a s ((cb_od n p a x).getD ((cb_od n p a x).idxOf (cb_b n a s ((cb_od n p a x).getD k 0))) 0)) = k
  rw [(o2 _ hb).2, cb_b_bb hn ha hs (o1 k hk).1]
  exact (o1 k hk).2
theorem cb_R_len : (cb_R n p a x).length = p := by
  unfold cb_R
  rw [List.length_map, List.length_range]
theorem cb_R_at {s : Nat} (hs : s < p) : (cb_R n p a x).getD s 0 = cb_ix n (cb_rn n p a x s) := cb_map_getD hs
theorem cb_R_all (hn : n < 7) (ha : cb_ok n p a) (hc : cb_cn n p a) (hx : x < n) : cb_ok n p (cb_R n p a x) ∧ cb_eq2 p n (cb_b n (cb_R n p a x)) (cb_rn n p a x) := by
  refine ⟨fun s hs => ?_, fun s k hs hk => ?_⟩
  · rw [cb_R_at hs]
    exact (cb_ix_all hn (by omega) (cb_rn_iv hn ha hc hx hs)).1
  · unfold cb_b
    rw [cb_R_at hs]
    exact (cb_ix_all hn (by omega) (cb_rn_iv hn ha hc hx hs)).2 k hk
/-- it is led into the board by the tiles as they are met -/
theorem cb_R_hm (hn : n < 7) (ha : cb_ok n p a) (hc : cb_cn n p a) (hx : x < n) : cb_hm n p (cb_R n p a x) a (fun k => (cb_od n p a x).getD k 0) := by
  obtain ⟨o1, o2, -⟩ := cb_o_all hn ha hc hx
  refine ⟨fun k hk => (o1 k hk).1, fun j k hj hk e => ?_, fun s t hs ht => ?_⟩
  · have e' : (cb_od n p a x).getD j 0 = (cb_od n p a x).getD k 0 := e
    rw [← (o1 j hj).2, ← (o1 k hk).2, e']
  · show cb_b n a s ((cb_od n p a x).getD t 0) = (cb_od n p a x).getD (cb_b n (cb_R n p a x) s t) 0
    rw [(cb_R_all hn ha hc hx).2 s t hs ht]
    exact ((o2 _ (cb_b_lt hn ha hs (o1 t ht).1)).2).symm
theorem cb_R_cn (hn : n < 7) (ha : cb_ok n p a) (hc : cb_cn n p a) (hx : x < n) : cb_cn n p (cb_R n p a x) := by
  have hok := (cb_R_all hn ha hc hx).1
  have h0 : 0 < n := by omega
  refine (cb_od_full hn hok h0).mp ?_
  have := cb_od_map hn hok (cb_R_hm hn ha hc hx) h0
  have hl := congrArg List.length this
  rw [List.length_map] at hl
  rw [← hl]
  exact cb_con_full hn ha hc ((cb_o_all hn ha hc hx).1 0 h0).1
theorem cb_RR (hn : n < 7) (ha : cb_ok n p a) (hc : cb_cn n p a) (hx : x < n) {k : Nat} (hk : k < n) : cb_R n p (cb_R n p a x) k = cb_R n p a ((cb_od n p a x).getD k 0) := by
  have hok := (cb_R_all hn ha hc hx).1
  have hcn := cb_R_cn hn ha hc hx
  have hm := cb_R_hm hn ha hc hx
  have hy : (cb_od n p a x).getD k 0 < n := hm.1 k hk
  have eo : cb_od n p a ((cb_od n p a x).getD k 0) = (cb_od n p (cb_R n p a x) k).map (fun k => (cb_od n p a x).getD k 0) := cb_od_map hn hok hm hk
  obtain ⟨O1, -, -⟩ := cb_o_all hn hok hcn hk
  have hOl := cb_con_full hn hok hcn hk
  have hOg := (cb_od_all hn hok hk).1
  unfold cb_R
  refine List.map_congr_left (fun s hs => ?_)
  have hs := List.mem_range.mp hs
  unfold cb_ix
  congr 1
  refine List.map_congr_left (fun j hj => ?_)
  have hj := List.mem_range.mp hj
  show (cb_od n p (cb_R n p a x) k).idxOf (cb_b n (cb_R n p a x) s ((cb_od n p (cb_R n p a x) k).getD j 0)) = (cb_od n p a ((cb_od n p a x).getD k 0)).idxOf (cb_b n a s ((cb_od n p a ((cb_od n p a x).getD k 0)).getD j 0))
  rw [eo, cb_getD ((cb_od n p (cb_R n p a x) k).map (fun k => (cb_od n p a x).getD k 0)) 0 (by rw [List.length_map]; omega), List.getElem_map, ← cb_getD (cb_od n p (cb_R n p a x) k) 0 (by omega)]
  rw [hm.2.2 s _ hs (O1 j hj).1]
  exact (cb_idx_map hm.2.1 (cb_b_lt hn hok hs (O1 j hj).1) _ hOg.2).symm
end CR2
