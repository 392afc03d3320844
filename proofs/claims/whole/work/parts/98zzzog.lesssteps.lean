/-! numbers of steps -/
theorem wd_let {p : Nat} {cs : Nat → Nat} : ∀ (w : List Nat) (q : wd_q), wd_t p cs w = some q → ∀ y, y ∈ w → y < p := by
  intro w
  induction w with
  | nil => intro q _ y hy; exact absurd hy List.not_mem_nil
  | cons x w ih =>
    intro q h y hy
    obtain ⟨q1, h1, h2, h3⟩ := wd_uncons h
    rcases List.mem_cons.mp hy with e | e
    · rw [e]; exact (wd_o_iff.mp h2).1
    · exact ih q1 h1 y e
theorem dn_out {p : Nat} {cs : Nat → Nat} : ∀ (w : List Nat) (i : Nat), i ∉ w → dn p cs w i = 0 := by
  intro w
  induction w with
  | nil => intro i _; rfl
  | cons y w ih =>
    intro i h
    show (if i = y then _ else dn p cs w i) = 0
    rw [if_neg (fun e => h (by rw [e]; exact List.mem_cons_self))]
    exact ih i (fun e => h (List.mem_cons_of_mem _ e))
theorem sm_split (f : Nat → Nat) (a : Nat) : ∀ b, sm f (a + b) = sm f a + sm (fun j => f (a + j)) b := by
  intro b
  induction b with
  | zero => rfl
  | succ b ih => show sm f (a + b) + f (a + b) = sm f a + (sm (fun j => f (a + j)) b + f (a + b)); rw [ih]; omega
section EV2
variable {p z : Nat} {cs : Nat → Nat}
theorem ev_sum (hz : z ≤ p) (g : Nat → Nat) (g0 : g z = 0) : sm g (p + 1) = sm (fun j => g (ev_g p z j)) p := by
  have e1 : sm g (p + 1) = sm g z + g z + sm (fun j => g (z + 1 + j)) (p - z) := by
    rw [show p + 1 = (z + 1) + (p - z) by omega, sm_split]
    rfl
  have e2 : sm (fun j => g (ev_g p z j)) p = sm (fun j => g (ev_g p z j)) (p - z) + sm (fun j => g (ev_g p z (p - z + j))) z := by
    have := sm_split (fun j => g (ev_g p z j)) (p - z) z
    rw [show p - z + z = p by omega] at this
    exact this
  rw [e1, e2, g0, Nat.add_zero, Nat.add_comm]
  congr 1
  · refine sm_congr (fun j hj => congrArg g ?_)
    unfold ev_g
    rw [if_pos (by omega)]; omega
  · refine sm_congr (fun j hj => congrArg g ?_)
    unfold ev_g
    rw [if_neg (by omega)]; omega
theorem ev_wc {y j : Nat} (hp : 3 ≤ p) (hz : z ≤ p) (hy : y ≤ p) (hj : j ≤ p) (hyz : y ≠ z) (hjz : j ≠ z) : wc p (ev_c p z cs) (ev_f p z y) (ev_f p z j) = wc (p + 1) cs y j := by
  have l0 : ∀ x, x % (p + 1) ≤ p := fun x => Nat.le_of_lt_succ (Nat.mod_lt _ (by omega))
  have fy := (ev_fg hz hy hyz).1
  have fj := (ev_fg hz hj hjz).1
  unfold wc
  by_cases c : j = y
  · rw [c, if_pos rfl, if_pos rfl]
  · rw [if_neg c, if_neg (fun e => c (ev_inj hz hj hy hjz hyz e))]
    congr 1
    have nx : ∀ {a b : Nat}, a ≤ p → b ≤ p → a ≠ z → b ≠ z → (((a + 1) % (p + 1) = b → (ev_f p z a + 1) % p = ev_f p z b ∧ ev_c p z cs (ev_f p z a) = cs a) ∧ ((ev_f p z a + 1) % p = ev_f p z b → (a + 1) % (p + 1) = b ∨ ev_c p z cs (ev_f p z a) = 0)) := fun {a b} ha hb haz hbz => by
      constructor
      · intro e
        have := ev_nx (cs := cs) hp hz ha haz (by rw [e]; exact hbz)
        rw [e] at this
        exact this
      · intro e
        by_cases hb2 : (a + 1) % (p + 1) = z
        · exact Or.inr (ev_gap hp hz ha hb2).2
        · have := (ev_nx (cs := cs) hp hz ha haz hb2).1
          rw [this] at e
          exact Or.inl (ev_inj hz (l0 _) hb hb2 hbz e)
    obtain ⟨n1, n2⟩ := nx hy hj hyz hjz
    obtain ⟨n3, n4⟩ := nx hj hy hjz hyz
    have two : ¬ ((ev_f p z y + 1) % p = ev_f p z j ∧ (ev_f p z j + 1) % p = ev_f p z y) := by
      rcases md_1 fy with ⟨x1, x2⟩ | ⟨x1, x2⟩ <;> rcases md_1 fj with ⟨x3, x4⟩ | ⟨x3, x4⟩ <;> omega
    unfold an_m
    by_cases c1 : (y + 1) % (p + 1) = j
    · rw [if_pos c1, if_pos (n1 c1).1, (n1 c1).2]
    · rw [if_neg c1]
      by_cases c2 : (j + 1) % (p + 1) = y
      · rw [if_pos c2, if_neg (fun e => two ⟨e, (n3 c2).1⟩), if_pos (n3 c2).1, (n3 c2).2]
      · rw [if_neg c2]
        by_cases c3 : (ev_f p z y + 1) % p = ev_f p z j
        · rw [if_pos c3]
          rcases n2 c3 with e | e
          · exact absurd e c1
          · exact e
        · rw [if_neg c3]
          by_cases c4 : (ev_f p z j + 1) % p = ev_f p z y
          · rw [if_pos c4]
            rcases n4 c4 with e | e
            · exact absurd e c2
            · exact e
          · rw [if_neg c4]
theorem ev_dn (hp : 3 ≤ p) (hz : z ≤ p) : ∀ (w : List Nat), (∀ y, y ∈ w → y ≤ p) → z ∉ w → ∀ j, j < p → dn p (ev_c p z cs) (w.map (ev_f p z)) j = dn (p + 1) cs w (ev_g p z j) := by
  intro w
  induction w with
  | nil => intro _ _ j _; rfl
  | cons y w ih =>
    intro hw hzw j hj
    have hy := hw y List.mem_cons_self
    have hyz : y ≠ z := fun e => hzw (by rw [e]; exact List.mem_cons_self)
    have hzw' : z ∉ w := fun e => hzw (List.mem_cons_of_mem _ e)
    have i := ih (fun x hx => hw x (List.mem_cons_of_mem _ hx)) hzw'
    obtain ⟨f1, f2⟩ := ev_fg hz hy hyz
    obtain ⟨g1, g2, g3⟩ := ev_gf hz hj
    show (if j = ev_f p z y then fo (fo (sN p (fun j => wc p (ev_c p z cs) (ev_f p z y) j * dn p (ev_c p z cs) (w.map (ev_f p z)) j) + (6442435444 - dn p (ev_c p z cs) (w.map (ev_f p z)) (ev_f p z y)))) else dn p (ev_c p z cs) (w.map (ev_f p z)) j) = (if ev_g p z j = y then fo (fo (sN (p + 1) (fun j => wc (p + 1) cs y j * dn (p + 1) cs w j) + (6442435444 - dn (p + 1) cs w y))) else dn (p + 1) cs w (ev_g p z j))
    by_cases c : j = ev_f p z y
    · have hs : sN p (fun j => wc p (ev_c p z cs) (ev_f p z y) j * dn p (ev_c p z cs) (w.map (ev_f p z)) j) = sN (p + 1) (fun j => wc (p + 1) cs y j * dn (p + 1) cs w j) := by
        unfold sN
        rw [ev_sum hz _ (by show wc (p + 1) cs y z * dn (p + 1) cs w z = 0; rw [dn_out w z hzw', Nat.mul_zero])]
        refine sm_congr (fun k hk => ?_)
        obtain ⟨k1, k2, k3⟩ := ev_gf hz hk
        rw [i k hk]
        have := ev_wc (cs := cs) hp hz hy k1 hyz k2
        rw [k3] at this
        rw [this]
      rw [if_pos c, if_pos (by rw [c]; exact f2), i _ f1, f2, hs]
    · rw [if_neg c, if_neg (fun e => c (by rw [← e]; exact g3.symm))]
      exact i j hj
end EV2
/-- a word that is shorter than the board has sides leaves one out -/
theorem out_ex : ∀ (p : Nat) (w : List Nat), w.length < p → ∃ z, z < p ∧ z ∉ w := by
  intro p w h
  by_cases c : ∃ z, z < p ∧ z ∉ w
  · exact c
  · exfalso
    have all : ∀ z, z < p → z ∈ w := fun z hz => by
      by_cases e : z ∈ w
      · exact e
      · exact absurd ⟨z, hz, e⟩ c
    have := inj_le w.length p (fun i => w.idxOf i) (fun i hi => List.idxOf_lt_length_iff.mpr (all i hi)) (fun i j hi hj e => by
      have h1 := List.getElem_idxOf (List.idxOf_lt_length_iff.mpr (all i hi))
      have h2 := List.getElem_idxOf (List.idxOf_lt_length_iff.mpr (all j hj))
      have e' : w.idxOf i = w.idxOf j := e
      rw [← h1, ← h2]
      congr 1)
    omega
/-- accepted words of one number of steps are one -/
def INJ (p : Nat) (cs : Nat → Nat) : Prop := ∀ (w w' : List Nat) (q q' : wd_q), wd_t p cs w = some q → wd_t p cs w' = some q' → w.length ≤ 5 → w'.length ≤ 5 → (∀ i, i < p → cg an_P1 (dn p cs w i) (dn p cs w' i)) → w = w'
/-- a number of steps is none only where there are none -/
def NZ (p : Nat) (cs : Nat → Nat) : Prop := ∀ (w : List Nat) (q : wd_q), wd_t p cs w = some q → w.length ≤ 5 → ∀ y, y ∈ w → ¬ cg an_P1 (dn p cs w y) 0
theorem map_inj' {α β : Type} {f : α → β} : ∀ (w w' : List α), (∀ a b, a ∈ w → b ∈ w' → f a = f b → a = b) → w.map f = w'.map f → w = w' := by
  intro w
  induction w with
  | nil =>
    intro w' _ h
    cases w' with
    | nil => rfl
    | cons b w' => exact absurd h (by simp)
  | cons a w ih =>
    intro w' hf h
    cases w' with
    | nil => exact absurd h (by simp)
    | cons b w' =>
      rw [List.map_cons, List.map_cons, List.cons.injEq] at h
      rw [hf a b List.mem_cons_self List.mem_cons_self h.1, ih w' (fun x y hx hy => hf x y (List.mem_cons_of_mem _ hx) (List.mem_cons_of_mem _ hy)) h.2]
theorem INJ_z {p z : Nat} {cs : Nat → Nat} (hp : 3 ≤ p) (hcs : ∀ j, j < p + 1 → cs j < 10 ∧ cs j ≠ 1) (hz : z < p + 1) (hI : INJ p (ev_c p z cs)) {w w' : List Nat} {q q' : wd_q} (h : wd_t (p + 1) cs w = some q) (h' : wd_t (p + 1) cs w' = some q') (l : w.length ≤ 5) (l' : w'.length ≤ 5) (hw : z ∉ w) (hw' : z ∉ w') (he : ∀ i, i < p + 1 → cg an_P1 (dn (p + 1) cs w i) (dn (p + 1) cs w' i)) : w = w' := by
  have hz' : z ≤ p := by omega
  obtain ⟨r, r1, _⟩ := ev_t hp hz' hcs w q hw h
  obtain ⟨r', r1', _⟩ := ev_t hp hz' hcs w' q' hw' h'
  have lw := wd_let w q h
  have lw' := wd_let w' q' h'
  have e := hI _ _ r r' r1 r1' (by rw [List.length_map]; exact l) (by rw [List.length_map]; exact l') (fun j hj => by
    rw [ev_dn hp hz' w (fun y hy => by have := lw y hy; omega) hw j hj, ev_dn hp hz' w' (fun y hy => by have := lw' y hy; omega) hw' j hj]
    exact he _ (by have := (ev_gf hz' hj).1; omega))
  refine map_inj' w w' (fun a b ha hb hab => ?_) e
  exact ev_inj hz' (by have := lw a ha; omega) (by have := lw' b hb; omega) (fun c => hw (by rw [← c]; exact ha)) (fun c => hw' (by rw [← c]; exact hb)) hab
theorem NZ_z {p z : Nat} {cs : Nat → Nat} (hp : 3 ≤ p) (hcs : ∀ j, j < p + 1 → cs j < 10 ∧ cs j ≠ 1) (hz : z < p + 1) (hN : NZ p (ev_c p z cs)) {w : List Nat} {q : wd_q} (h : wd_t (p + 1) cs w = some q) (l : w.length ≤ 5) (hw : z ∉ w) : ∀ y, y ∈ w → ¬ cg an_P1 (dn (p + 1) cs w y) 0 := by
  intro y hy
  have hz' : z ≤ p := by omega
  obtain ⟨r, r1, _⟩ := ev_t hp hz' hcs w q hw h
  have lw := wd_let w q h
  have yz : y ≠ z := fun c => hw (by rw [← c]; exact hy)
  obtain ⟨f1, f2⟩ := ev_fg hz' (by have := lw y hy; omega) yz
  have n := hN _ r r1 (by rw [List.length_map]; exact l) (ev_f p z y) (List.mem_map_of_mem hy)
  rw [ev_dn hp hz' w (fun y hy => by have := lw y hy; omega) hw _ f1, f2] at n
  exact n
