/-! ===== closed boards: two sorts, handles: the class's ===== -/
/-- tiles of two sorts, each lying across from the other alone; tile 0 is of sort 0 -/
def cb_two (n p : Nat) (a : List Nat) (f : Nat → Nat) : Prop := f 0 = 0 ∧ (∀ x, x < n → f x < 2) ∧ ∀ s x, s < p → x < n → f (cb_b n a s x) ≠ f x
def cb_bip (n p : Nat) (a : List Nat) : Prop := ∃ f, cb_two n p a f
theorem cb_e_12 : ∀ y : Fin 2, (1 : Int32) - cb_e y.1 = cb_e (1 - y.1) := by decide
section CS1
variable {X : ij_R} {d n p : Nat} {b : Bool} {J : Nat → Nat → Int64} {cs : Nat → Nat} {a : List Nat}
/-- sorts as noted: 9 is none yet -/
def cb_so (n : Nat) (I : Nat → Nat → Int32) (g : Nat → Nat) : Prop := ∀ t, t < n → I 33 t = cb_e (g t) ∧ (g t < 2 ∨ g t = 9)
/-- what grows: what is noted stays; it goes along with any two sorts; more is noted -/
def cb_gw (n p : Nat) (a : List Nat) (g g' : Nat → Nat) : Prop := (∀ t, t < n → g t ≠ 9 → g' t = g t) ∧ ∀ f, cb_two n p a f → (∀ t, t < n → g t ≠ 9 → g t = f t) → ∀ t, t < n → g' t ≠ 9 → g' t = f t
theorem cb_gw_refl (g : Nat → Nat) : cb_gw n p a g g := ⟨fun _ _ _ => rfl, fun _ _ h => h⟩
theorem cb_gw_trans {g g' g'' : Nat → Nat} (h : cb_gw n p a g g') (h' : cb_gw n p a g' g'') : cb_gw n p a g g'' := by
  refine ⟨fun t ht q => ?_, fun f hf q => h'.2 f hf (h.2 f hf q)⟩
  rw [h'.1 t ht (by rw [h.1 t ht q]; exact q)]
  exact h.1 t ht q
theorem lx_so55 {x1 : Int32} (hn : n < 7) (hp : p ≤ 8) (hal : a.length = p) (hok : cb_ok n p a) {s : Nat} (hs : s < p) : ∀ (r t : Nat) (I : Nat → Nat → Int32) (g : Nat → Nat), t + r = n → cb_xs n p cs I → cb_ch a I → cb_so n I g → ∃ I' g', (∀ v τ, xk_go (ik_cr xk_P xk_M xk_Y xk_K X (d + 3)) 22 (42, [some (.ref 28), some (.int x1), some (.int (nI (s + 1))), none, none], [], (xk_R b, I', J)) v τ → xk_go (ik_cr xk_P xk_M xk_Y xk_K X (d + 3)) 22 (55, [some (.ref 28), some (.int x1), some (.int (nI s)), some (.int (nI t)), none], [], (xk_R b, I, J)) v τ) ∧ cb_so n I' g' ∧ cb_gw n p a g g' ∧ (∀ u, t ≤ u → u < n → g u ≠ 9 → g' (cb_b n a s u) ≠ 9) ∧ ∀ q, q ≠ 33 → I' q = I q := by
  intro r
  induction r with
  | zero =>
    intro t I g ht hx hc hso
    have : t = n := by omega
    subst this
    refine ⟨I, g, fun v τ hg => ?_, hso, cb_gw_refl g, fun u h1 h2 => by omega, fun _ _ => rfl⟩
    rw [← nI_1] at hg
    exact xp_X1_noteSorts_55_0 I J _ _ _ (by rw [hx.2]; exact nI_le (Nat.le_refl t) (by omega)) hg
  | succ r ih =>
    intro t I g ht hx hc hso
    have htn : t < n := by omega
    have hb := cb_b_lt hn hok hs htn
    have vt := lx_va33 (X := X) (d := d + 2) (b := b) (J := J) (I := I) (t := t) (by omega)
    rw [(hso t htn).1] at vt
    have vb := lx_va33 (X := X) (d := d + 2) (b := b) (J := J) (I := I) (t := cb_b n a s t) (by omega)
    rw [(hso _ hb).1] at vb
    have gl : g t < 10 := by rcases (hso t htn).2 with q | q <;> omega
    have gl2 : g (cb_b n a s t) < 10 := by rcases (hso _ hb).2 with q | q <;> omega
    have g55 : ∀ v τ, xk_go (ik_cr xk_P xk_M xk_Y xk_K X (d + 3)) 22 (79, [some (.ref 28), some (.int x1), some (.int (nI s)), some (.int (nI t)), some (.int (nI (cb_b n a s t)))], [.int (cb_e (g t))], (xk_R b, I, J)) v τ → xk_go (ik_cr xk_P xk_M xk_Y xk_K X (d + 3)) 22 (55, [some (.ref 28), some (.int x1), some (.int (nI s)), some (.int (nI t)), none], [], (xk_R b, I, J)) v τ := fun v τ hg => xp_X1_noteSorts_55_1 I J _ _ _ _ (by rw [hx.2]; exact nI_ge (by omega) (by omega)) (lx_across (d := d + 1) hn (by omega) hx.1.1.1 hc (by omega) (hok s hs) htn) (xp_X1_noteSorts_69_0 I J _ _ _ _ _ vt hg)
    by_cases e9 : g t = 9
    · obtain ⟨I', g', z1, z2, z3, z4, z5⟩ := ih (t + 1) I g (by omega) hx hc hso
      refine ⟨I', g', fun v τ hg => g55 v τ ?_, z2, z3, fun u h1 h2 h3 => ?_, z5⟩
      · have z := z1 v τ hg
        rw [← nI_1] at z
        exact xp_X1_noteSorts_79_0 I J _ _ _ _ _ ((cb_e_m1 gl).mpr e9) z
      · by_cases e : u = t
        · rw [e] at h3; exact absurd e9 h3
        · exact z4 u (by omega) h2 h3
    · have ne : ¬ cb_e (g t) = -1 := fun q => e9 ((cb_e_m1 gl).mp q)
      by_cases f9 : g (cb_b n a s t) = 9
      · have g2 : g t < 2 := (hso t htn).2.resolve_right e9
        have hg1 : cb_gw n p a g (fun k => if k = cb_b n a s t then 1 - g t else g k) := by
          refine ⟨fun k hk q => ?_, fun f hf q k hk q' => ?_⟩
          · show (if k = cb_b n a s t then _ else _) = g k
            rw [if_neg (fun z => q (by rw [z]; exact f9))]
          · have q'' : (if k = cb_b n a s t then 1 - g t else g k) ≠ 9 := q'
            show (if k = cb_b n a s t then 1 - g t else g k) = f k
            by_cases ek : k = cb_b n a s t
            · rw [if_pos ek, q t htn e9, ek]
              have h1 := hf.2.2 s t hs htn
              have h2 := hf.2.1 t htn
              have h3 := hf.2.1 _ hb
              omega
            · rw [if_neg ek] at q'' ⊢
              exact q k hk q''
        obtain ⟨I', g', z1, z2, z3, z4, z5⟩ := ih (t + 1) (ij_u I 33 (cb_b n a s t) (cb_e (1 - g t))) (fun k => if k = cb_b n a s t then 1 - g t else g k) (by omega) (cb_xs_fX (s := 0) ⟨fun q k _ _ _ _ a5 _ _ _ _ => lb_u_at (fun z => a5 z.1), fun k hk => absurd hk (Nat.not_lt_zero k), fun y _ => congrFun (ij_u_ne (by decide)) y⟩ hx) (fun k hk => (congrFun (ij_u_ne (by decide)) k).trans (hc k hk)) (fun k hk => by
          by_cases ek : k = cb_b n a s t
          · subst ek
            rw [ij_u_same]
            show _ = cb_e (if _ then _ else _) ∧ ((if _ then _ else _) < 2 ∨ (if _ then _ else _) = 9)
            rw [if_pos rfl]
            exact ⟨rfl, Or.inl (by omega)⟩
          · rw [ij_u_other _ _ _ _ ek]
            show _ = cb_e (if _ then _ else _) ∧ ((if _ then _ else _) < 2 ∨ (if _ then _ else _) = 9)
            rw [if_neg ek]
            exact hso k hk)
        refine ⟨I', g', fun v τ hg => g55 v τ ?_, z2, cb_gw_trans hg1 z3, fun u h1 h2 h3 => ?_, fun q hq => (z5 q hq).trans (ij_u_ne hq)⟩
        · have z := z1 v τ hg
          rw [← nI_1] at z
          refine xp_X1_noteSorts_79_1 I J _ _ _ _ _ _ ne vb (xp_X1_noteSorts_92_1 I J _ _ _ _ _ _ ((cb_e_m1 gl2).mpr f9) vt (xp_X1_noteSorts_108_0 I J _ _ _ _ _ _ ?_ (xp_X1_noteSorts_112_0 _ J _ _ _ z)))
          rw [cb_e_12 ⟨g t, g2⟩]
          exact lx_noteN (d := d + 2) (by omega)
        · by_cases e : u = t
          · rw [e]
            have : (fun k => if k = cb_b n a s t then 1 - g t else g k) (cb_b n a s t) ≠ 9 := by
              show (if cb_b n a s t = cb_b n a s t then 1 - g t else _) ≠ 9
              rw [if_pos rfl]
              omega
            rw [z3.1 _ hb this]
            exact this
          · refine z4 u (by omega) h2 ?_
            show (if u = cb_b n a s t then _ else g u) ≠ 9
            by_cases eu : u = cb_b n a s t
            · rw [if_pos eu]; omega
            · rw [if_neg eu]; exact h3
      · obtain ⟨I', g', z1, z2, z3, z4, z5⟩ := ih (t + 1) I g (by omega) hx hc hso
        refine ⟨I', g', fun v τ hg => g55 v τ ?_, z2, z3, fun u h1 h2 h3 => ?_, z5⟩
        · have z := z1 v τ hg
          rw [← nI_1] at z
          exact xp_X1_noteSorts_79_1 I J _ _ _ _ _ _ ne vb (xp_X1_noteSorts_92_0 I J _ _ _ _ _ (fun q => f9 ((cb_e_m1 gl2).mp q)) z)
        · by_cases e : u = t
          · rw [e, z3.1 _ hb f9]; exact f9
          · exact z4 u (by omega) h2 h3
theorem lx_so42 {x1 : Nat} (hn : n < 7) (hp : p ≤ 8) (hal : a.length = p) (hok : cb_ok n p a) : ∀ (r s : Nat) (I : Nat → Nat → Int32) (g : Nat → Nat), s + r = p → cb_xs n p cs I → cb_ch a I → cb_so n I g → ∃ I' g', (∀ v τ, xk_go (ik_cr xk_P xk_M xk_Y xk_K X (d + 3)) 22 (32, [some (.ref 28), some (.int (nI (x1 + 1))), none, none, none], [], (xk_R b, I', J)) v τ → xk_go (ik_cr xk_P xk_M xk_Y xk_K X (d + 3)) 22 (42, [some (.ref 28), some (.int (nI x1)), some (.int (nI s)), none, none], [], (xk_R b, I, J)) v τ) ∧ cb_so n I' g' ∧ cb_gw n p a g g' ∧ (∀ s' u, s ≤ s' → s' < p → u < n → g u ≠ 9 → g' (cb_b n a s' u) ≠ 9) ∧ ∀ q, q ≠ 33 → I' q = I q := by
  intro r
  induction r with
  | zero =>
    intro s I g hs hx hc hso
    have : s = p := by omega
    subst this
    refine ⟨I, g, fun v τ hg => ?_, hso, cb_gw_refl g, fun s' u h1 h2 => by omega, fun _ _ => rfl⟩
    rw [← nI_1] at hg
    exact xp_X1_noteSorts_42_0 I J _ _ (by rw [hx.1.2.1]; exact nI_le (Nat.le_refl s) (by omega)) hg
  | succ r ih =>
    intro s I g hs hx hc hso
    obtain ⟨I1, g1, z1, z2, z3, z4, z5⟩ := lx_so55 (X := X) (d := d) (b := b) (J := J) (x1 := nI x1) hn hp hal hok (show s < p by omega) n 0 I g (Nat.zero_add n) hx hc hso
    obtain ⟨I', g', k1, k2, k3, k4, k5⟩ := ih (s + 1) I1 g1 (by omega) (cb_xs_fX (s := 0) ⟨fun q k _ _ _ _ a5 _ _ _ _ => congrFun (z5 q a5) k, fun k hk => absurd hk (Nat.not_lt_zero k), fun y _ => congrFun (z5 30 (by decide)) y⟩ hx) (by unfold cb_ch; rw [z5 29 (by decide)]; exact hc) z2
    refine ⟨I', g', fun v τ hg => xp_X1_noteSorts_42_1 I J _ _ (by rw [hx.1.2.1]; exact nI_ge (by omega) (by omega)) (z1 v τ (k1 v τ hg)), k2, cb_gw_trans z3 k3, fun s' u h1 h2 h3 h4 => ?_, fun q hq => (k5 q hq).trans (z5 q hq)⟩
    have hb := cb_b_lt hn hok h2 h3
    by_cases e : s' = s
    · have := z4 u (Nat.zero_le u) h3 h4
      rw [← e] at this
      rw [k3.1 _ hb this]
      exact this
    · exact k4 s' u (by omega) h2 h3 (by rw [z3.1 u h3 h4]; exact h4)
/-- how many are noted -/
def cb_no (n : Nat) (g : Nat → Nat) : List Nat := (List.range n).filter (fun t => !(g t == 9))
theorem cb_no_mem {g : Nat → Nat} {t : Nat} : t ∈ cb_no n g ↔ t < n ∧ g t ≠ 9 := by
  unfold cb_no
  rw [List.mem_filter, List.mem_range, Bool.not_eq_true', beq_eq_false_iff_ne]
theorem cb_no_nd {g : Nat → Nat} : (cb_no n g).Nodup := List.Pairwise.filter _ List.nodup_range
theorem lx_so32 (hn : n < 7) (hp : p ≤ 8) (hal : a.length = p) (hok : cb_ok n p a) (hcn : cb_cn n p a) (h0 : 0 < n) : ∀ (r i : Nat) (I : Nat → Nat → Int32) (g : Nat → Nat), i + r = n → cb_xs n p cs I → cb_ch a I → cb_so n I g → g 0 ≠ 9 → (i + 1 ≤ (cb_no n g).length ∨ ∀ t, t < n → g t ≠ 9) → ∃ I' g', xk_go (ik_cr xk_P xk_M xk_Y xk_K X (d + 3)) 22 (32, [some (.ref 28), some (.int (nI i)), none, none, none], [], (xk_R b, I, J)) none (xk_R b, I', J) ∧ cb_so n I' g' ∧ cb_gw n p a g g' ∧ (∀ t, t < n → g' t ≠ 9) ∧ ∀ q, q ≠ 33 → I' q = I q := by
  intro r
  induction r with
  | zero =>
    intro i I g hi hx hc hso hg0 hcnt
    have : i = n := by omega
    subst this
    refine ⟨I, g, xp_X1_noteSorts_32_0 I J _ (by rw [hx.2]; exact nI_le (Nat.le_refl i) (by omega)), hso, cb_gw_refl g, ?_, fun _ _ => rfl⟩
    rcases hcnt with q | q
    · have := cb_nd_le i (cb_no i g) cb_no_nd (fun x hx => (cb_no_mem.mp hx).1)
      omega
    · exact q
  | succ r ih =>
    intro i I g hi hx hc hso hg0 hcnt
    obtain ⟨I1, g1, z1, z2, z3, z4, z5⟩ := lx_so42 (X := X) (d := d) (b := b) (J := J) (x1 := i) hn hp hal hok p 0 I g (Nat.zero_add p) hx hc hso
    have h10 : g1 0 ≠ 9 := by rw [z3.1 0 h0 hg0]; exact hg0
    have grow : i + 1 + 1 ≤ (cb_no n g1).length ∨ ∀ t, t < n → g1 t ≠ 9 := by
      by_cases all : ∀ t, t < n → g1 t ≠ 9
      · exact Or.inr all
      · left
        -- then one more is noted
        have hq : i + 1 ≤ (cb_no n g).length := hcnt.resolve_right (fun q => all (fun t ht => by rw [z3.1 t ht (q t ht)]; exact q t ht))
        have new : ∃ u, u < n ∧ g u = 9 ∧ g1 u ≠ 9 := Classical.byContradiction (fun q => by
          have cl : ∀ (l : List Nat) (x : Nat), (∀ s, s ∈ l → s < p) → x < n → g x ≠ 9 → g (cb_go n a l x) ≠ 9 := by
            intro l
            induction l with
            | nil => intro x _ _ h; exact h
            | cons s l ihl =>
              intro x hl hx' h
              have hs := hl s (List.mem_cons_self ..)
              have hb := cb_b_lt hn hok hs hx'
              refine ihl _ (fun r hr => hl r (List.mem_cons_of_mem _ hr)) hb (fun h9 => ?_)
              exact q ⟨_, hb, h9, z4 s x (Nat.zero_le s) hs hx' h⟩
          refine all (fun t ht => ?_)
          obtain ⟨l, hl, e⟩ := hcn t ht
          have := cl l 0 hl h0 hg0
          rw [e] at this
          rw [z3.1 t ht this]
          exact this)
        obtain ⟨u, hu, hu9, hu1⟩ := new
        have := cb_sub_le (cb_no n g ++ [u]) (cb_no n g1) (List.nodup_append.mpr ⟨cb_no_nd, List.nodup_cons.mpr ⟨List.not_mem_nil, List.nodup_nil⟩, fun x hx z hz e => by
          rw [e, List.mem_singleton.mp hz] at hx
          exact (cb_no_mem.mp hx).2 hu9⟩) (fun x hx => by
          rcases List.mem_append.mp hx with q | q
          · have := cb_no_mem.mp q
            exact cb_no_mem.mpr ⟨this.1, by rw [z3.1 x this.1 this.2]; exact this.2⟩
          · rw [List.mem_singleton.mp q]; exact cb_no_mem.mpr ⟨hu, hu1⟩)
        rw [List.length_append] at this
        have : (cb_no n g).length + 1 ≤ (cb_no n g1).length := this
        omega
    obtain ⟨I', g', k1, k2, k3, k4, k5⟩ := ih (i + 1) I1 g1 (by omega) (cb_xs_fX (s := 0) ⟨fun q k _ _ _ _ a5 _ _ _ _ => congrFun (z5 q a5) k, fun k hk => absurd hk (Nat.not_lt_zero k), fun y _ => congrFun (z5 30 (by decide)) y⟩ hx) (by unfold cb_ch; rw [z5 29 (by decide)]; exact hc) z2 h10 grow
    exact ⟨I', g', xp_X1_noteSorts_32_1 I J _ (by rw [hx.2]; exact nI_ge (by omega) (by omega)) (z1 _ _ k1), k2, cb_gw_trans z3 k3, k4, fun q hq => (k5 q hq).trans (z5 q hq)⟩
theorem lx_so2 (hn : n < 7) : ∀ (r t : Nat) (I : Nat → Nat → Int32), t + r = n → cb_xs n p cs I → (∀ u, u < t → I 33 u = cb_e (if u = 0 then 0 else 9)) → ∃ I', (∀ v τ, xk_go (ik_cr xk_P xk_M xk_Y xk_K X (d + 3)) 22 (32, [some (.ref 28), some (.int 0), none, none, none], [], (xk_R b, I', J)) v τ → xk_go (ik_cr xk_P xk_M xk_Y xk_K X (d + 3)) 22 (2, [some (.ref 28), some (.int (nI t)), none, none, none], [], (xk_R b, I, J)) v τ) ∧ (∀ u, u < n → I' 33 u = cb_e (if u = 0 then 0 else 9)) ∧ ∀ q, q ≠ 33 → I' q = I q := by
  intro r
  induction r with
  | zero =>
    intro t I ht hx h
    have : t = n := by omega
    subst this
    exact ⟨I, fun v τ hg => xp_X1_noteSorts_2_0 I J _ (by rw [hx.2]; exact nI_le (Nat.le_refl t) (by omega)) hg, h, fun _ _ => rfl⟩
  | succ r ih =>
    intro t I ht hx h
    obtain ⟨I', z1, z2, z3⟩ := ih (t + 1) (ij_u I 33 t (cb_e (if t = 0 then 0 else 9))) (by omega) (cb_xs_fX (s := 0) ⟨fun q k _ _ _ _ a5 _ _ _ _ => lb_u_at (fun z => a5 z.1), fun k hk => absurd hk (Nat.not_lt_zero k), fun y _ => congrFun (ij_u_ne (by decide)) y⟩ hx) (fun u hu => by
      by_cases e : u = t
      · subst e; exact ij_u_same _ _ _ _
      · rw [ij_u_other _ _ _ _ e]; exact h u (by omega))
    refine ⟨I', fun v τ hg => ?_, z2, fun q hq => (z3 q hq).trans (ij_u_ne hq)⟩
    have z := z1 v τ hg
    rw [← nI_1] at z
    by_cases e : t = 0
    · subst e
      exact xp_X1_noteSorts_2_2 I J _ (by rw [hx.2]; exact nI_ge (by omega) (by omega)) rfl (lx_noteN (d := d + 2) (by decide)) (xp_X1_noteSorts_24_0 _ J _ z)
    · rw [if_neg e] at z
      exact xp_X1_noteSorts_2_1 I J _ (by rw [hx.2]; exact nI_ge (by omega) (by omega)) (nI_ne0 (by omega) (by omega)) (lx_noteN (d := d + 2) (by omega)) (xp_X1_noteSorts_24_0 _ J _ z)
theorem lx_sorts {I : Nat → Nat → Int32} (hn : n < 7) (hp : p ≤ 8) (hal : a.length = p) (hok : cb_ok n p a) (hcn : cb_cn n p a) (h0 : 0 < n) (hx : cb_xs n p cs I) (hc : cb_ch a I) : ∃ (I' : Nat → Nat → Int32) (g : Nat → Nat), lk_cx1 X (d + 4) 22 [.ref 28] (xk_R b, I, J) none (xk_R b, I', J) ∧ (∀ t, t < n → I' 33 t = nI (g t) ∧ g t < 2) ∧ (∀ f, cb_two n p a f → ∀ t, t < n → g t = f t) ∧ g 0 = 0 ∧ ∀ q, q ≠ 33 → I' q = I q := by
  obtain ⟨I1, z1, z2, z3⟩ := lx_so2 (X := X) (d := d) (b := b) (J := J) hn n 0 I (Nat.zero_add n) hx (fun u hu => absurd hu (Nat.not_lt_zero u))
  have so1 : cb_so n I1 (fun u => if u = 0 then 0 else 9) := fun t ht => by
    refine ⟨z2 t ht, ?_⟩
    show (if t = 0 then 0 else 9) < 2 ∨ (if t = 0 then 0 else 9) = 9
    by_cases e : t = 0
    · rw [if_pos e]; exact Or.inl (by decide)
    · rw [if_neg e]; exact Or.inr rfl
  obtain ⟨I', g, k1, k2, k3, k4, k5⟩ := lx_so32 (X := X) (d := d) (b := b) (J := J) hn hp hal hok hcn h0 n 0 I1 _ (Nat.zero_add n) (cb_xs_fX (s := 0) ⟨fun q k _ _ _ _ a5 _ _ _ _ => congrFun (z3 q a5) k, fun k hk => absurd hk (Nat.not_lt_zero k), fun y _ => congrFun (z3 30 (by decide)) y⟩ hx) (by unfold cb_ch; rw [z3 29 (by decide)]; exact hc) so1 (by show (if 0 = 0 then 0 else 9) ≠ 9; decide) (Or.inl (by
    have : (0 : Nat) ∈ cb_no n (fun u => if u = 0 then 0 else 9) := cb_no_mem.mpr ⟨h0, by show (if 0 = 0 then 0 else 9) ≠ 9; decide⟩
    have := List.length_pos_of_mem this
    omega))
  refine ⟨I', g, ik_cr_of (Nat.le_of_ble_eq_true rfl) (xp_X1_noteSorts_0_0 I J (z1 _ _ k1)), fun t ht => ?_, fun f hf t ht => k3.2 f hf (fun u hu q => ?_) t ht (k4 t ht), ?_, fun q hq => (k5 q hq).trans (z3 q hq)⟩
  · have h2 := (k2 t ht).2.resolve_right (k4 t ht)
    rw [(k2 t ht).1]
    exact ⟨cb_e_lt (by omega), h2⟩
  · have q' : (if u = 0 then 0 else 9) ≠ 9 := q
    show (if u = 0 then 0 else 9) = f u
    by_cases e : u = 0
    · rw [if_pos e, e]; exact hf.1.symm
    · rw [if_neg e] at q'; exact absurd rfl q'
  · exact k3.1 0 h0 (by show (if 0 = 0 then 0 else 9) ≠ 9; decide)
theorem lx_sortsApart {I : Nat → Nat → Int32} {g : Nat → Nat} (hn : n < 7) (hp : p ≤ 8) (hal : a.length = p) (hok : cb_ok n p a) (hx : cb_xs n p cs I) (hc : cb_ch a I) (hg : ∀ t, t < n → I 33 t = nI (g t) ∧ g t < 2) (hf : ∀ f, cb_two n p a f → ∀ t, t < n → g t = f t) (h0 : g 0 = 0) (hn0 : 0 < n) : lk_cx1 X (d + 3) 23 [.ref 28] (xk_R b, I, J) (some (.int (if cb_B (cb_bip n p a) then 1 else 0))) (xk_R b, I, J) := by
  have va : ∀ u, u < n → lk_cx1 X (d + 2) 27 [.ref 33, .int (nI u)] (xk_R b, I, J) (some (.int (nI (g u)))) (xk_R b, I, J) := fun u hu => by
    have := lx_va33 (X := X) (d := d + 1) (b := b) (J := J) (I := I) (t := u) (by omega)
    rw [(hg u hu).1] at this
    exact this
  have bip : cb_bip n p a ↔ ∀ s t, s < p → t < n → g (cb_b n a s t) ≠ g t := by
    constructor
    · rintro ⟨f, hf1⟩ s t hs ht
      rw [hf f hf1 _ (cb_b_lt hn hok hs ht), hf f hf1 t ht]
      exact hf1.2.2 s t hs ht
    · exact fun h => ⟨g, h0, fun x hx => (hg x hx).2, h⟩
  have loop15 : ∀ (s : Nat), s < p → ((∀ s' t, s' < s + 1 → t < n → g (cb_b n a s' t) ≠ g t) → xk_go (ik_cr xk_P xk_M xk_Y xk_K X (d + 2)) 23 (2, [some (.ref 28), some (.int (nI (s + 1))), none], [], (xk_R b, I, J)) (some (.int (if cb_B (cb_bip n p a) then 1 else 0))) (xk_R b, I, J)) → (∀ s' t, s' < s → t < n → g (cb_b n a s' t) ≠ g t) → ∀ (r t : Nat), t + r = n → (∀ u, u < t → g (cb_b n a s u) ≠ g u) → xk_go (ik_cr xk_P xk_M xk_Y xk_K X (d + 2)) 23 (15, [some (.ref 28), some (.int (nI s)), some (.int (nI t))], [], (xk_R b, I, J)) (some (.int (if cb_B (cb_bip n p a) then 1 else 0))) (xk_R b, I, J) := by
    intro s hs nxt hbef r
    induction r with
    | zero =>
      intro t ht hu
      have : t = n := by omega
      subst this
      refine xp_X1_sortsLieApart_15_0 I J _ _ (by rw [hx.2]; exact nI_le (Nat.le_refl t) (by omega)) ?_
      rw [nI_1]
      exact nxt (fun s' u h1 h2 => by
        by_cases e : s' = s
        · rw [e]; exact hu u h2
        · exact hbef s' u (by omega) h2)
    | succ r ih =>
      intro t ht hu
      have htn : t < n := by omega
      have hb := cb_b_lt hn hok hs htn
      have l1 := (hg t htn).2
      have l2 := (hg _ hb).2
      refine xp_X1_sortsLieApart_15_1 I J _ _ _ (by rw [hx.2]; exact nI_ge (by omega) (by omega)) (lx_across hn (by omega) hx.1.1.1 hc (by omega) (hok s hs) htn) (xp_X1_sortsLieApart_33_0 I J _ _ _ _ (va _ hb) (xp_X1_sortsLieApart_36_0 I J _ _ _ _ (va t htn) ?_))
      by_cases e : g (cb_b n a s t) = g t
      · rw [cb_B_f (fun q => bip.mp q s t hs htn e)]
        exact xp_X1_sortsLieApart_44_1 I J _ _ _ _ (by rw [e])
      · refine xp_X1_sortsLieApart_44_0 I J _ _ _ _ (fun q => e ((nI_eq (by omega) (by omega)).mp q)) ?_
        rw [nI_1]
        exact ih (t + 1) (by omega) (fun u hu' => by
          by_cases eu : u = t
          · rw [eu]; exact e
          · exact hu u (by omega))
  have loop2 : ∀ (r s : Nat), s + r = p → (∀ s' t, s' < s → t < n → g (cb_b n a s' t) ≠ g t) → xk_go (ik_cr xk_P xk_M xk_Y xk_K X (d + 2)) 23 (2, [some (.ref 28), some (.int (nI s)), none], [], (xk_R b, I, J)) (some (.int (if cb_B (cb_bip n p a) then 1 else 0))) (xk_R b, I, J) := by
    intro r
    induction r with
    | zero =>
      intro s hs h
      have : s = p := by omega
      subst this
      rw [cb_B_t (bip.mpr h), if_pos rfl]
      exact xp_X1_sortsLieApart_2_0 I J _ (by rw [hx.1.2.1]; exact nI_le (Nat.le_refl s) (by omega))
    | succ r ih =>
      intro s hs h
      exact xp_X1_sortsLieApart_2_1 I J _ (by rw [hx.1.2.1]; exact nI_ge (by omega) (by omega)) (loop15 s (by omega) (ih (s + 1) (by omega)) h n 0 (Nat.zero_add n) (fun u hu => absurd hu (Nat.not_lt_zero u)))
  exact ik_cr_of (Nat.le_of_ble_eq_true rfl) (xp_X1_sortsLieApart_0_0 I J (loop2 p 0 (Nat.zero_add p) (fun s' t h => absurd h (Nat.not_lt_zero s'))))
end CS1
