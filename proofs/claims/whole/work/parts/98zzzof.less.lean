/-! ===== one side less: a board without a side that a word doesn't use ===== -/
def ev_c (p z : Nat) (cs : Nat → Nat) (x : Nat) : Nat := if x = p - 1 then 0 else cs (if x + z < p then x + z + 1 else x + z - p)
def ev_f (p z y : Nat) : Nat := if z < y then y - (z + 1) else y + p - z
def ev_g (p z j : Nat) : Nat := if j + z < p then j + z + 1 else j + z - p
section EV1
variable {p z : Nat} {cs : Nat → Nat}
theorem ev_fg {y : Nat} (hz : z ≤ p) (hy : y ≤ p) (hyz : y ≠ z) : ev_f p z y < p ∧ ev_g p z (ev_f p z y) = y := by
  unfold ev_f ev_g
  by_cases c : z < y
  · rw [if_pos c]
    refine ⟨by omega, ?_⟩
    rw [if_pos (by omega)]; omega
  · rw [if_neg c]
    refine ⟨by omega, ?_⟩
    rw [if_neg (by omega)]; omega
theorem ev_gf {j : Nat} (hz : z ≤ p) (hj : j < p) : ev_g p z j ≤ p ∧ ev_g p z j ≠ z ∧ ev_f p z (ev_g p z j) = j := by
  unfold ev_f ev_g
  by_cases c : j + z < p
  · rw [if_pos c]
    refine ⟨by omega, by omega, ?_⟩
    rw [if_pos (by omega)]; omega
  · rw [if_neg c]
    refine ⟨by omega, by omega, ?_⟩
    rw [if_neg (by omega)]; omega
theorem ev_inj {a b : Nat} (hz : z ≤ p) (ha : a ≤ p) (hb : b ≤ p) (haz : a ≠ z) (hbz : b ≠ z) (h : ev_f p z a = ev_f p z b) : a = b := by
  rw [← (ev_fg hz ha haz).2, ← (ev_fg hz hb hbz).2, h]
/-- sides one behind the other stay so, with their label -/
theorem ev_nx {a : Nat} (hp : 3 ≤ p) (hz : z ≤ p) (ha : a ≤ p) (haz : a ≠ z) (hbz : (a + 1) % (p + 1) ≠ z) : (ev_f p z a + 1) % p = ev_f p z ((a + 1) % (p + 1)) ∧ ev_c p z cs (ev_f p z a) = cs a := by
  have k : ev_f p z a + 1 < p ∧ ev_f p z ((a + 1) % (p + 1)) = ev_f p z a + 1 := by
    unfold ev_f
    rcases md_1 (show a < p + 1 by omega) with ⟨x1, x2⟩ | ⟨x1, x2⟩ <;> rw [x1] at hbz ⊢
    · by_cases c : z < a
      · rw [if_pos c, if_pos (by omega)]; omega
      · rw [if_neg c, if_neg (by omega)]; omega
    · rw [if_pos (by omega), if_neg (by omega)]; omega
  refine ⟨by rw [k.2]; exact Nat.mod_eq_of_lt k.1, ?_⟩
  unfold ev_c
  rw [if_neg (by omega)]
  exact congrArg cs (ev_fg hz ha haz).2
/-- the one before the gap has no label -/
theorem ev_gap {a : Nat} (hp : 3 ≤ p) (hz : z ≤ p) (ha : a ≤ p) (hbz : (a + 1) % (p + 1) = z) : ev_f p z a = p - 1 ∧ ev_c p z cs (ev_f p z a) = 0 := by
  have k : ev_f p z a = p - 1 := by
    unfold ev_f
    rcases md_1 (show a < p + 1 by omega) with ⟨x1, x2⟩ | ⟨x1, x2⟩ <;> rw [x1] at hbz
    · rw [if_neg (by omega)]; omega
    · rw [if_pos (by omega)]; omega
  exact ⟨k, by unfold ev_c; rw [if_pos k]⟩
theorem ev_lab (hz : z ≤ p) (hcs : ∀ j, j < p + 1 → cs j < 10 ∧ cs j ≠ 1) : ∀ j, j < p → ev_c p z cs j < 10 ∧ ev_c p z cs j ≠ 1 := fun j hj => by
  unfold ev_c
  by_cases c : j = p - 1
  · rw [if_pos c]; decide
  · rw [if_neg c]
    refine hcs _ ?_
    by_cases c2 : j + z < p
    · rw [if_pos c2]; omega
    · rw [if_neg c2]; omega
/-- which states belong together -/
def ev_q (p z : Nat) (q q' : wd_q) : Prop := (q = (p + 1, 0, 0, false) ∧ q' = (p, 0, 0, false)) ∨ (q.1 ≤ p ∧ q.1 ≠ z ∧ q'.1 = ev_f p z q.1 ∧ q'.2.2.2 = q.2.2.2 ∧ (q.2.2.2 = true → (q.1 + (p + 1) - 1) % (p + 1) ≠ z) ∧ ((q.1 + 1) % (p + 1) ≠ z → q'.2.2.1 = q.2.2.1) ∧ ((q.1 + (p + 1) - 1) % (p + 1) ≠ z → q'.2.1 = q.2.1))
theorem ev_r {q q' : wd_q} {y : Nat} (hp : 3 ≤ p) (hz : z ≤ p) (hy : y ≤ p) (hyz : y ≠ z) (hb : (y + 1) % (p + 1) ≠ z) (h : ev_q p z q q') : wd_r p q' (ev_f p z y) = wd_r (p + 1) q y := by
  have l0 : ∀ x, x % (p + 1) ≤ p := fun x => Nat.le_of_lt_succ (Nat.mod_lt _ (by omega))
  have n1 := (ev_nx (cs := fun _ => 0) hp hz hy hyz hb).1
  have fb := (ev_fg hz (l0 _) hb).1
  unfold wd_r
  rcases h with ⟨e1, e2⟩ | ⟨q1, q2, q3, q4, q5, q6, q7⟩
  · rw [e1, e2]
    have c1 : ¬ (ev_f p z y + 1) % p = p := fun c => by rw [n1] at c; omega
    have c2 : ¬ (y + 1) % (p + 1) = p + 1 := fun c => by have := l0 (y + 1); omega
    show (if (ev_f p z y + 1) % p = p then 0 else if false = true ∧ _ then 1 else 0) + 1 = (if (y + 1) % (p + 1) = p + 1 then 0 else if false = true ∧ _ then 1 else 0) + 1
    rw [if_neg c1, if_neg c2, if_neg (fun c => absurd c.1 (by decide)), if_neg (fun c => absurd c.1 (by decide))]
  · rw [q3, n1]
    by_cases c : (y + 1) % (p + 1) = q.1
    · rw [if_pos c, if_pos (by rw [c]), q7]
      intro e
      rcases md_1 (show y < p + 1 by omega) with ⟨x1, x2⟩ | ⟨x1, x2⟩ <;> rcases md_2 (show q.1 < p + 1 by omega) with ⟨x3, x4⟩ | ⟨x3, x4⟩ <;> omega
    · rw [if_neg c, if_neg (fun e => c (ev_inj hz (l0 _) q1 hb q2 e)), q4]
      have iff : (q.2.2.2 = true ∧ (ev_f p z y + 2) % p = ev_f p z q.1) ↔ (q.2.2.2 = true ∧ (y + 2) % (p + 1) = q.1) := by
        have t1 : (ev_f p z y + 2) % p = (ev_f p z ((y + 1) % (p + 1)) + 1) % p := by rw [← n1, Nat.mod_add_mod]
        have t2 : (y + 2) % (p + 1) = ((y + 1) % (p + 1) + 1) % (p + 1) := by rw [Nat.mod_add_mod]
        rw [t1, t2]
        constructor
        · intro ⟨g1, g2⟩
          refine ⟨g1, ?_⟩
          have g3 := q5 g1
          have g4 : ((q.1 + (p + 1) - 1) % (p + 1) + 1) % (p + 1) = q.1 := md_3 (by omega)
          have g5 := (ev_nx (cs := fun _ => 0) hp hz (l0 _) g3 (by rw [g4]; exact q2)).1
          rw [g4, ← g2] at g5
          have f1 := (ev_fg hz (l0 (q.1 + (p + 1) - 1)) g3).1
          have g6 : ev_f p z ((q.1 + (p + 1) - 1) % (p + 1)) = ev_f p z ((y + 1) % (p + 1)) := by
            rcases md_1 f1 with ⟨x1, x2⟩ | ⟨x1, x2⟩ <;> rcases md_1 fb with ⟨x3, x4⟩ | ⟨x3, x4⟩ <;> omega
          rw [← ev_inj hz (l0 _) (l0 _) g3 hb g6]
          exact g4
        · intro ⟨g1, g2⟩
          refine ⟨g1, ?_⟩
          rw [(ev_nx (cs := fun _ => 0) hp hz (l0 _) hb (by rw [g2]; exact q2)).1, g2]
      by_cases c2 : q.2.2.2 = true ∧ (y + 2) % (p + 1) = q.1
      · rw [if_pos c2, if_pos (iff.mpr c2)]
      · rw [if_neg c2, if_neg (fun e => c2 (iff.mp e))]
theorem ev_l {q q' : wd_q} {y : Nat} (hp : 3 ≤ p) (hz : z ≤ p) (hy : y ≤ p) (hyz : y ≠ z) (ha : (y + (p + 1) - 1) % (p + 1) ≠ z) (h : ev_q p z q q') : wd_l p q' (ev_f p z y) = wd_l (p + 1) q y := by
  have l0 : ∀ x, x % (p + 1) ≤ p := fun x => Nat.le_of_lt_succ (Nat.mod_lt _ (by omega))
  unfold wd_l
  rcases h with ⟨e1, e2⟩ | ⟨q1, q2, q3, q4, q5, q6, q7⟩
  · rw [e1, e2]
    show (if _ then 0 else 0) + 1 = (if _ then 0 else 0) + 1
    rw [ite_self, ite_self]
  · have g4 : ((y + (p + 1) - 1) % (p + 1) + 1) % (p + 1) = y := md_3 (by omega)
    have g5 := (ev_nx (cs := fun _ => 0) hp hz (l0 _) ha (by rw [g4]; exact hyz)).1
    rw [g4] at g5
    rw [q3]
    by_cases c : y = (q.1 + 1) % (p + 1)
    · rw [if_pos c, q6 (by rw [← c]; exact hyz), if_pos]
      have := (ev_nx (cs := fun _ => 0) hp hz q1 q2 (by rw [← c]; exact hyz)).1
      rw [this, ← c]
    · rw [if_neg c, if_neg]
      intro e
      apply c
      have f1 := (ev_fg hz (l0 (y + (p + 1) - 1)) ha).1
      have f2 := (ev_fg hz q1 q2).1
      have g6 : ev_f p z ((y + (p + 1) - 1) % (p + 1)) = ev_f p z q.1 := by
        rw [e] at g5
        rcases md_1 f1 with ⟨x1, x2⟩ | ⟨x1, x2⟩ <;> rcases md_1 f2 with ⟨x3, x4⟩ | ⟨x3, x4⟩ <;> omega
      rw [← ev_inj hz (l0 _) q1 ha q2 g6]
      exact g4.symm
theorem ev_step {q q' : wd_q} {y : Nat} (hp : 3 ≤ p) (hz : z ≤ p) (hcs : ∀ j, j < p + 1 → cs j < 10 ∧ cs j ≠ 1) (hyz : y ≠ z) (h : ev_q p z q q') (ho : wd_o (p + 1) cs q y = true) : wd_o p (ev_c p z cs) q' (ev_f p z y) = true ∧ ev_q p z (wd_s (p + 1) cs q y) (wd_s p (ev_c p z cs) q' (ev_f p z y)) := by
  have l0 : ∀ x, x % (p + 1) ≤ p := fun x => Nat.le_of_lt_succ (Nat.mod_lt _ (by omega))
  obtain ⟨o1, o2, o3, o4⟩ := wd_o_iff.mp ho
  have hy : y ≤ p := by omega
  have fy := (ev_fg hz hy hyz).1
  have g4 : ((y + (p + 1) - 1) % (p + 1) + 1) % (p + 1) = y := md_3 (by omega)
  -- the corner before
  have before : ((y + (p + 1) - 1) % (p + 1) ≠ z → (ev_f p z y + p - 1) % p = ev_f p z ((y + (p + 1) - 1) % (p + 1)) ∧ ev_c p z cs ((ev_f p z y + p - 1) % p) = cs ((y + (p + 1) - 1) % (p + 1))) ∧ ((y + (p + 1) - 1) % (p + 1) = z → ev_c p z cs ((ev_f p z y + p - 1) % p) = 0) := by
    constructor
    · intro ha
      obtain ⟨k1, k2⟩ := ev_nx (cs := cs) hp hz (l0 _) ha (by rw [g4]; exact hyz)
      rw [g4] at k1
      have f1 := (ev_fg hz (l0 (y + (p + 1) - 1)) ha).1
      have e : (ev_f p z y + p - 1) % p = ev_f p z ((y + (p + 1) - 1) % (p + 1)) := by
        rcases md_1 f1 with ⟨x1, x2⟩ | ⟨x1, x2⟩ <;> rcases md_2 fy with ⟨x3, x4⟩ | ⟨x3, x4⟩ <;> omega
      exact ⟨e, by rw [e]; exact k2⟩
    · intro ha
      have e : ev_f p z y = 0 := by
        unfold ev_f
        rcases md_2 (show y < p + 1 by omega) with ⟨x3, x4⟩ | ⟨x3, x4⟩ <;> rw [x3] at ha
        · rw [if_pos (by omega)]; omega
        · rw [if_neg (by omega)]; omega
      rw [e, show (0 + p - 1) % p = p - 1 from by rw [Nat.zero_add]; exact Nat.mod_eq_of_lt (by omega)]
      unfold ev_c
      rw [if_pos rfl]
  constructor
  · refine wd_o_iff.mpr ⟨fy, ?_, ?_, ?_⟩
    · rcases h with ⟨_, e2⟩ | ⟨q1, q2, q3, _⟩
      · rw [e2]; show ev_f p z y ≠ p; omega
      · rw [q3]; exact fun e => o2 (ev_inj hz hy q1 hyz q2 e)
    · rintro ⟨c1, c2⟩
      rcases h with ⟨_, e2⟩ | ⟨q1, q2, q3, q4, q5, _⟩
      · rw [e2] at c1; exact absurd c1 (show ¬ (false = true) by decide)
      · rw [q4] at c1
        have g3 := q5 c1
        have g5 : ((q.1 + (p + 1) - 1) % (p + 1) + 1) % (p + 1) = q.1 := md_3 (by omega)
        have g6 := (ev_nx (cs := fun _ => 0) hp hz (l0 _) g3 (by rw [g5]; exact q2)).1
        rw [g5, ← q3, ← c2] at g6
        have f1 := (ev_fg hz (l0 (q.1 + (p + 1) - 1)) g3).1
        have g7 : ev_f p z ((q.1 + (p + 1) - 1) % (p + 1)) = ev_f p z y := by
          rcases md_1 f1 with ⟨x1, x2⟩ | ⟨x1, x2⟩ <;> rcases md_1 fy with ⟨x3, x4⟩ | ⟨x3, x4⟩ <;> omega
        refine o3 ⟨c1, ?_⟩
        rw [← ev_inj hz (l0 _) hy g3 hyz g7]
        exact g5
    · rintro ⟨c1, c2⟩
      by_cases hb : (y + 1) % (p + 1) = z
      · exact c1 (ev_gap hp hz hy hb).2
      · have e := (ev_nx (cs := cs) hp hz hy hyz hb).2
        rw [ev_r hp hz hy hyz hb h, e] at c2
        rw [e] at c1
        exact o4 ⟨c1, c2⟩
  · refine Or.inr ⟨hy, hyz, rfl, ?_, ?_, fun hb => ev_r hp hz hy hyz hb h, fun ha => ev_l hp hz hy hyz ha h⟩
    · show (decide (ev_c p z cs ((ev_f p z y + p - 1) % p) ≠ 0) && decide (wd_l p q' (ev_f p z y) = ev_c p z cs ((ev_f p z y + p - 1) % p))) = (decide (cs ((y + (p + 1) - 1) % (p + 1)) ≠ 0) && decide (wd_l (p + 1) q y = cs ((y + (p + 1) - 1) % (p + 1))))
      by_cases ha : (y + (p + 1) - 1) % (p + 1) = z
      · have w1 : wd_l (p + 1) q y = 1 := by
          unfold wd_l
          rcases h with ⟨e1, _⟩ | ⟨q1, q2, _⟩
          · rw [e1]; show (if _ then 0 else 0) + 1 = 1; rw [ite_self]
          · rw [if_neg]
            intro e
            apply q2
            rw [← ha]
            rcases md_1 (show q.1 < p + 1 by omega) with ⟨x1, x2⟩ | ⟨x1, x2⟩ <;> rcases md_2 (show y < p + 1 by omega) with ⟨x3, x4⟩ | ⟨x3, x4⟩ <;> omega
        have c1 := (hcs ((y + (p + 1) - 1) % (p + 1)) (Nat.mod_lt _ (by omega))).2
        rw [before.2 ha, w1, decide_eq_false (p := 1 = cs ((y + (p + 1) - 1) % (p + 1))) (fun e => c1 e.symm), Bool.and_false, decide_eq_false (p := (0 : Nat) ≠ 0) (fun e => e rfl), Bool.false_and]
      · rw [(before.1 ha).2, ev_l hp hz hy hyz ha h]
    · intro hf ha
      have hf' : (decide (cs ((y + (p + 1) - 1) % (p + 1)) ≠ 0) && decide (wd_l (p + 1) q y = cs ((y + (p + 1) - 1) % (p + 1)))) = true := hf
      rw [Bool.and_eq_true, decide_eq_true_iff, decide_eq_true_iff] at hf'
      have w1 : wd_l (p + 1) q y = 1 := by
        unfold wd_l
        rcases h with ⟨e1, _⟩ | ⟨q1, q2, _⟩
        · rw [e1]; show (if _ then 0 else 0) + 1 = 1; rw [ite_self]
        · rw [if_neg]
          intro e
          apply q2
          have ha' : (y + (p + 1) - 1) % (p + 1) = z := ha
          rw [← ha']
          rcases md_1 (show q.1 < p + 1 by omega) with ⟨x1, x2⟩ | ⟨x1, x2⟩ <;> rcases md_2 (show y < p + 1 by omega) with ⟨x3, x4⟩ | ⟨x3, x4⟩ <;> omega
      have c1 := (hcs ((y + (p + 1) - 1) % (p + 1)) (Nat.mod_lt _ (by omega))).2
      exact c1 (by rw [← hf'.2, w1])
/-- an accepted word stays accepted -/
theorem ev_t (hp : 3 ≤ p) (hz : z ≤ p) (hcs : ∀ j, j < p + 1 → cs j < 10 ∧ cs j ≠ 1) : ∀ (w : List Nat) (q : wd_q), z ∉ w → wd_t (p + 1) cs w = some q → ∃ q', wd_t p (ev_c p z cs) (w.map (ev_f p z)) = some q' ∧ ev_q p z q q' := by
  intro w
  induction w with
  | nil => intro q _ h; exact ⟨_, rfl, Or.inl ⟨(Option.some.inj h).symm, rfl⟩⟩
  | cons y w ih =>
    intro q hzw h
    obtain ⟨q1, h1, h2, h3⟩ := wd_uncons h
    obtain ⟨q', g1, g2⟩ := ih q1 (fun e => hzw (List.mem_cons_of_mem _ e)) h1
    obtain ⟨s1, s2⟩ := ev_step hp hz hcs (fun e => hzw (by rw [e]; exact List.mem_cons_self)) g2 h2
    refine ⟨_, wd_cons g1 s1, ?_⟩
    rw [h3]; exact s2
end EV1
