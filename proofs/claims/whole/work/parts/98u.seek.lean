/-! ===== closed boards: the class's search ===== -/
/-- what a search leaves as it was, from side s on -/
def cb_fX (s : Nat) (I I' : Nat → Nat → Int32) : Prop := (∀ q k, q ≠ 29 → q ≠ 30 → q ≠ 31 → q ≠ 32 → q ≠ 33 → q ≠ 37 → q ≠ 38 → q ≠ 39 → ¬ (q = 22 ∧ 9 ≤ k ∧ k ≤ 11) → I' q k = I q k) ∧ (∀ k, k < s → I' 29 k = I 29 k) ∧ ∀ y, y < 6 * (s + 1) → I' 30 y = I 30 y
theorem cb_fX_refl (s : Nat) (I : Nat → Nat → Int32) : cb_fX s I I := ⟨fun _ _ _ _ _ _ _ _ _ _ _ => rfl, fun _ _ => rfl, fun _ _ => rfl⟩
theorem cb_fX_trans {s : Nat} {I I' I'' : Nat → Nat → Int32} (h : cb_fX s I I') (h' : cb_fX s I' I'') : cb_fX s I I'' := ⟨fun q k a1 a2 a3 a4 a5 a6 a7 a8 a9 => (h'.1 q k a1 a2 a3 a4 a5 a6 a7 a8 a9).trans (h.1 q k a1 a2 a3 a4 a5 a6 a7 a8 a9), fun k hk => (h'.2.1 k hk).trans (h.2.1 k hk), fun y hy => (h'.2.2 y hy).trans (h.2.2 y hy)⟩
theorem cb_fX_mono {s s' : Nat} {I I' : Nat → Nat → Int32} (hs : s ≤ s') (h : cb_fX s' I I') : cb_fX s I I' := ⟨h.1, fun k hk => h.2.1 k (by omega), fun y hy => h.2.2 y (by omega)⟩
/-- what the search needs, the draft's size too -/
def cb_xs (n p : Nat) (cs : Nat → Nat) (I : Nat → Nat → Int32) : Prop := cb_xx n p cs I ∧ I 28 7 = nI n
theorem cb_xs_fX {n p s : Nat} {cs : Nat → Nat} {I I' : Nat → Nat → Int32} (h : cb_fX s I I') (hx : cb_xs n p cs I) : cb_xs n p cs I' := by
  have e : ∀ q k, q ≠ 29 → q ≠ 30 → q ≠ 31 → q ≠ 32 → q ≠ 33 → q ≠ 37 → q ≠ 38 → q ≠ 39 → q ≠ 22 → I' q k = I q k := fun q k a1 a2 a3 a4 a5 a6 a7 a8 a9 => h.1 q k a1 a2 a3 a4 a5 a6 a7 a8 (fun z => a9 z.1)
  obtain ⟨⟨⟨⟨x1, x2, x3⟩, x4, x5⟩, x6, x7⟩, x8⟩ := hx
  refine ⟨⟨⟨⟨(e 23 4 ?_ ?_ ?_ ?_ ?_ ?_ ?_ ?_ ?_).trans x1, (e 23 5 ?_ ?_ ?_ ?_ ?_ ?_ ?_ ?_ ?_).trans x2, fun i hi x hx => (e 24 _ ?_ ?_ ?_ ?_ ?_ ?_ ?_ ?_ ?_).trans (x3 i hi x hx)⟩, fun i hi => (e 26 _ ?_ ?_ ?_ ?_ ?_ ?_ ?_ ?_ ?_).trans (x4 i hi), fun i hi j hj => (e 25 _ ?_ ?_ ?_ ?_ ?_ ?_ ?_ ?_ ?_).trans (x5 i hi j hj)⟩, (e 6 8 ?_ ?_ ?_ ?_ ?_ ?_ ?_ ?_ ?_).trans x6, fun j hj => (e 7 _ ?_ ?_ ?_ ?_ ?_ ?_ ?_ ?_ ?_).trans (x7 j hj)⟩, (e 28 7 ?_ ?_ ?_ ?_ ?_ ?_ ?_ ?_ ?_).trans x8⟩ <;> decide
theorem cb_ch_app {a : List Nat} {j : Nat} {I : Nat → Nat → Int32} (h : cb_ch a I) : cb_ch (a ++ [j]) (ij_u I 29 a.length (nI j)) := fun k hk => by
  rw [List.length_append] at hk
  have hk' : k < a.length + 1 := hk
  by_cases e : k = a.length
  · subst e
    rw [ij_u_same, List.getD_eq_getElem?_getD, List.getElem?_append_right (Nat.le_refl _), Nat.sub_self]
    rfl
  · rw [ij_u_other _ _ _ _ e, h k (by omega), List.getD_eq_getElem?_getD, List.getD_eq_getElem?_getD, List.getElem?_append_left (by omega)]
theorem cb_ok_app {n : Nat} {a : List Nat} {j : Nat} (h : cb_ok n a.length a) (hj : j < cb_q n) : cb_ok n (a.length + 1) (a ++ [j]) := fun s hs => by
  by_cases e : s < a.length
  · rw [List.getD_eq_getElem?_getD, List.getElem?_append_left e, ← List.getD_eq_getElem?_getD]
    exact h s e
  · have : s = a.length := by omega
    subst this
    rw [List.getD_eq_getElem?_getD, List.getElem?_append_right (Nat.le_refl _), Nat.sub_self]
    exact hj
theorem cb_L_app {n : Nat} {a : List Nat} {j : Nat} {I : Nat → Nat → Int32} (hn : n < 7) (h : cb_L n a a.length I) : cb_L n (a ++ [j]) a.length I := by
  rcases h with h | ⟨g, h1, h2⟩
  · exact Or.inl ⟨h.1, fun u hu => (cb_re_pre (Nat.le_refl _)).mpr (h.2 u hu)⟩
  · refine Or.inr ⟨g, h1, h2.1, h2.2.1, fun s t hs ht => ?_, fun t u ht hu q => (cb_re_pre (Nat.le_refl _)).mpr (h2.2.2.2 t u ht hu q)⟩
    have e : cb_b n (a ++ [j]) s t = cb_b n a s t := by
      unfold cb_b
      rw [List.getD_eq_getElem?_getD, List.getElem?_append_left hs, ← List.getD_eq_getElem?_getD]
    rw [e]
    exact h2.2.2.1 s t hs ht
section CH4
variable {d n p : Nat} {b : Bool} {J : Nat → Nat → Int64} {cs : Nat → Nat}
theorem lx_choose {X : ij_R} {s : Nat} {x : Int32} {I : Nat → Nat → Int32} (hs : s < 8) : lk_cx1 X (d + 1) 10 [.ref 28, .int (nI s), .int x] (xk_R b, I, J) none (xk_R b, ij_u I 29 s x, J) := by
  have q := xp_X1_choose_0_2 (C := ik_cr xk_P xk_M xk_Y xk_K X d) (b := b) I J (nI s) x (nI_pos (by omega)) (by decide) (nI_ge (b := 8) hs (by decide)) (vp_in_nI hs (by decide))
  rw [nI_clamp (by omega)] at q
  exact ik_cr_of (Nat.le_of_ble_eq_true rfl) q
theorem lx_closesUp {a : List Nat} {I : Nat → Nat → Int32} (hn : n < 7) (hp3 : 3 ≤ p) (hp : p ≤ 8) (hcs : ∀ j, j < p → cs j < 10 ∧ cs j ≠ 1) (hx : cb_xs n p cs I) (hal : a.length = p) (hok : cb_ok n p a) (hc : cb_ch a I) : lk_cx1 xw_X (d + 3) 14 [.ref 28] (xk_R b, I, J) (some (.int (if cb_okb n (cs (p - 1)) (a.getD (p - 1) 0) (a.getD 0 0) then 1 else 0))) (xk_R b, I, J) := by
  have q := xp_X1_closesUp_0_0 (C := ik_cr xk_P xk_M xk_Y xk_K xw_X (d + 2)) (v := some (.int (if cb_okb n (cs (p - 1)) (a.getD (p - 1) 0) (a.getD 0 0) then 1 else 0))) (τ := (xk_R b, I, J)) (b := b) (b' := b) (I' := I) (J' := J) I J (nI (a.getD (p - 1) 0))
  rw [hx.1.2.1, nI_sub1 (by omega)] at q
  refine ik_cr_of (Nat.le_of_ble_eq_true rfl) (q (lx_rowOf (by omega) hc (by omega)) (xp_X1_closesUp_19_0 I J _ _ _ (lx_rowOf (s := 0) (by decide) hc (by omega)) (xp_X1_closesUp_24_0 I J _ _ _ _ (lx_lapsOf (d := d + 1) hn hx.1.1 (hok _ (by omega)) (hok _ (by omega))) (xp_X1_closesUp_27_0 I J _ _ _ (lx_cornerB (d := d + 1) hp hx.1.2.2 (by omega)) (xp_X1_closesUp_35_0 I J _ _ _ (lx_forbid _) ?_)))))
  have f := cb_forb (n := n) (c := cs (p - 1)) (i := a.getD (p - 1) 0) (j := a.getD 0 0) hn (hcs _ (by omega)).1 (hcs _ (by omega)).2 (hok _ (by omega)) (hok _ (by omega))
  by_cases e : cb_okb n (cs (p - 1)) (a.getD (p - 1) 0) (a.getD 0 0) = true
  · rw [if_pos e]
    exact xp_X1_closesUp_38_1 I J _ _ (f.mpr e)
  · rw [if_neg e]
    exact xp_X1_closesUp_38_0 I J _ _ (fun q => e (f.mp q))
theorem lx_dfs {Inv : List (List Nat) → (Nat → Nat → Int32) → Prop} {M : Nat} (hn1 : 1 ≤ n) (hn : n < 7) (hp3 : 3 ≤ p) (hp : p ≤ 8) (hcs : ∀ j, j < p → cs j < 10 ∧ cs j ≠ 1)
    (hI : ∀ l I I', (∀ q k, q ≠ 29 → q ≠ 30 → I' q k = I q k) → Inv l I → Inv l I')
    (hL : ∀ l a I, l.length < M → a.length = p → cb_ok n p a → cb_xs n p cs I → cb_ch a I → cb_L n a p I → Inv l I → ∃ I', lk_cx1 xw_X (d + 7) 87 [.ref 22, .int (nI n)] (xk_R b, I, J) none (xk_R b, I', J) ∧ Inv (l ++ [a]) I' ∧ (∀ q k, q ≠ 31 → q ≠ 32 → q ≠ 33 → q ≠ 37 → q ≠ 38 → q ≠ 39 → ¬ (q = 22 ∧ 9 ≤ k ∧ k ≤ 11) → I' q k = I q k)) :
    ∀ (r : Nat) (a : List Nat), a.length + r = p → cb_ok n a.length a → ∀ (l : List (List Nat)) (I : Nat → Nat → Int32), cb_xs n p cs I → cb_ch a I → cb_L n a a.length I → Inv l I → (l ++ cb_lv n p cs r a).length ≤ M → ∃ I', lk_cx1 xw_X (d + r + 8) 86 [.ref 22, .int (nI a.length), .int (nI n)] (xk_R b, I, J) none (xk_R b, I', J) ∧ Inv (l ++ cb_lv n p cs r a) I' ∧ cb_fX a.length I I' := by
  have q76 := cb_qs n hn
  intro r
  induction r with
  | zero =>
    intro a hal hok l I hx hc hLv hInv hM
    have hap : a.length = p := hal
    obtain ⟨I', g1, g2, g3⟩ := hL l a I (by rw [List.length_append] at hM; exact hM) hap (by rw [← hap]; exact hok) hx hc (by rw [← hap]; exact hLv) hInv
    refine ⟨I', ik_cr_of (Nat.le_of_ble_eq_true rfl) (xp_X5_seek_0_1 I J _ _ (by rw [hx.1.2.1, hap]; exact nI_nlt (Nat.le_refl p) (by omega)) g1 (xp_X5_seek_16_0 I' J)), g2, fun q k a1 a2 a3 a4 a5 a6 a7 a8 a9 => g3 q k a3 a4 a5 a6 a7 a8 a9, fun k _ => g3 29 k (by decide) (by decide) (by decide) (by decide) (by decide) (by decide) (by omega), fun y _ => g3 30 y (by decide) (by decide) (by decide) (by decide) (by decide) (by decide) (by omega)⟩
  | succ r ih =>
    intro a hal hok l I hx hc hLv hInv hM
    have has : a.length < p := by omega
    -- the loop over rows
    have loop : ∀ (fo ah : Int32), (∀ j, j < cb_q n → ∃ i, i < cb_q n ∧ ah = nI i ∧ ((nI (cb_ls n i j n) &&& fo = 0) ↔ (a.length = 0 ∨ cb_okb n (cs (a.length - 1)) (a.getD (a.length - 1) 0) j = true))) → ∀ (e j : Nat) (l : List (List Nat)) (I : Nat → Nat → Int32), j + e = cb_q n → cb_xs n p cs I → cb_ch a I → cb_L n a a.length I → Inv l I → (l ++ (List.range' j e).flatMap (fun j => if cb_st n p cs a j then cb_lv n p cs r (a ++ [j]) else [])).length ≤ M → ∃ I', xk_go (ik_cr xk_P xk_M xk_Y xk_K xw_X (d + r + 8)) 86 (54, [some (.ref 22), some (.int (nI a.length)), some (.int (nI n)), some (.int ah), some (.int fo), some (.int (nI j))], [], (xk_R b, I, J)) none (xk_R b, I', J) ∧ Inv (l ++ (List.range' j e).flatMap (fun j => if cb_st n p cs a j then cb_lv n p cs r (a ++ [j]) else [])) I' ∧ cb_fX a.length I I' := by
      intro fo ah hah e
      induction e with
      | zero =>
        intro j l I hj hx hc hLv hInv hM
        have ej : j = cb_q n := by omega
        subst ej
        refine ⟨I, xp_X5_seek_54_0 I J _ _ _ _ _ (by rw [hx.1.1.1.2.1]; exact nI_le (Nat.le_refl _) (by omega)), ?_, cb_fX_refl _ I⟩
        rw [show (List.range' (cb_q n) 0).flatMap _ = ([] : List (List Nat)) from rfl, List.append_nil]
        exact hInv
      | succ e ihe =>
        intro j l I hj hx hc hLv hInv hM
        rw [List.range'_succ, List.flatMap_cons] at hM ⊢
        obtain ⟨i, hi, rfl, hiff⟩ := hah j (by omega)
        have hge : ¬ I 23 5 ≤ nI j := by rw [hx.1.1.1.2.1]; exact nI_ge (by omega) (by omega)
        have lap := lx_lapsOf (X := xw_X) (d := d + r + 7) (b := b) (J := J) (I := I) hn hx.1.1 hi (show j < cb_q n by omega)
        have go54 : ∀ τ, xk_go (ik_cr xk_P xk_M xk_Y xk_K xw_X (d + r + 8)) 86 (76, [some (.ref 22), some (.int (nI a.length)), some (.int (nI n)), some (.int (nI i)), some (.int fo), some (.int (nI j))], [.int (nI (cb_ls n i j n))], (xk_R b, I, J)) none τ → xk_go (ik_cr xk_P xk_M xk_Y xk_K xw_X (d + r + 8)) 86 (54, [some (.ref 22), some (.int (nI a.length)), some (.int (nI n)), some (.int (nI i)), some (.int fo), some (.int (nI j))], [], (xk_R b, I, J)) none τ := fun τ hg => xp_X5_seek_54_1 I J _ _ _ _ _ _ hge lap hg
        by_cases ok1 : a.length = 0 ∨ cb_okb n (cs (a.length - 1)) (a.getD (a.length - 1) 0) j = true
        · -- it goes round with the row ahead
          have fX1 : cb_fX a.length I (ij_u I 29 a.length (nI j)) := ⟨fun q k a1 _ _ _ _ _ _ _ _ => lb_u_at (fun z => a1 z.1), fun k hk => ij_u_other _ _ _ _ (by omega), fun y _ => congrFun (ij_u_ne (by decide)) y⟩
          have hx1 := cb_xs_fX fX1 hx
          have hc1 : cb_ch (a ++ [j]) (ij_u I 29 a.length (nI j)) := cb_ch_app hc
          have hok1 : cb_ok n (a.length + 1) (a ++ [j]) := cb_ok_app hok (by omega)
          have hl1 : (a ++ [j]).length = a.length + 1 := by rw [List.length_append]; rfl
          have hI1 : Inv l (ij_u I 29 a.length (nI j)) := hI l I _ (fun q k a1 _ => lb_u_at (fun z => a1 z.1)) hInv
          have hL1 : cb_L n (a ++ [j]) a.length (ij_u I 29 a.length (nI j)) := by
            have := cb_L_app (j := j) hn hLv
            unfold cb_L at this ⊢
            rw [congrFun (congrFun (show (fun y : Nat => ij_u I 29 a.length (nI j) 30) = (fun _ => I 30) from funext (fun _ => ij_u_ne (by decide))) 0) (6 * a.length)]
            rcases this with q | ⟨g, q1, q2⟩
            · exact Or.inl q
            · exact Or.inr ⟨g, fun t ht => (congrFun (ij_u_ne (by decide)) _).trans (q1 t ht), q2⟩
          have ch := lx_choose (X := xw_X) (d := d + r + 7) (b := b) (J := J) (I := I) (x := nI j) (s := a.length) (by omega)
          have go92 : ∀ τ, xk_go (ik_cr xk_P xk_M xk_Y xk_K xw_X (d + r + 8)) 86 (92, [some (.ref 22), some (.int (nI a.length)), some (.int (nI n)), some (.int (nI i)), some (.int fo), some (.int (nI j))], [], (xk_R b, ij_u I 29 a.length (nI j), J)) none τ → xk_go (ik_cr xk_P xk_M xk_Y xk_K xw_X (d + r + 8)) 86 (54, [some (.ref 22), some (.int (nI a.length)), some (.int (nI n)), some (.int (nI i)), some (.int fo), some (.int (nI j))], [], (xk_R b, I, J)) none τ := fun τ hg => go54 τ (xp_X5_seek_76_1 I J _ _ _ _ _ _ (hiff.mpr ok1) ch hg)
          have ep : ij_u I 29 a.length (nI j) 6 8 - 1 = nI (p - 1) := by rw [hx1.1.2.1]; exact nI_sub1 (by omega)
          by_cases st : cb_st n p cs a j = true
          · rw [if_pos st, ← List.append_assoc] at hM ⊢
            obtain ⟨I2, k1, k2, k3, k4⟩ := lx_link (X := xw_X) (d := d + r + 5) (b := b) (J := J) (a := a ++ [j]) (s := a.length) hn1 hn (by omega) hl1 hok1 hx1.2 hx1.1.1.1 hc1 hL1
            have fX2 : cb_fX a.length (ij_u I 29 a.length (nI j)) I2 := ⟨fun q k a1 a2 _ _ _ _ _ _ _ => congrFun (k4 q a2) k, fun k _ => congrFun (k4 29 (by decide)) k, fun y hy => k3 y (Or.inl hy)⟩
            have hx2 := cb_xs_fX fX2 hx1
            obtain ⟨I3, m1, m2, m3⟩ := ih (a ++ [j]) (by rw [hl1]; omega) (by rw [hl1]; exact hok1) l I2 hx2 (by unfold cb_ch; rw [k4 29 (by decide)]; exact hc1) (by rw [hl1]; exact k2) (hI l _ _ (fun q k _ a2 => congrFun (k4 q a2) k) hI1) (by rw [List.length_append] at hM; omega)
            rw [hl1] at m1 m3
            have fX3 : cb_fX a.length I I3 := cb_fX_trans fX1 (cb_fX_trans fX2 (cb_fX_mono (Nat.le_succ _) m3))
            have hc3 : cb_ch a I3 := fun k hk => (fX3.2.1 k hk).trans (hc k hk)
            have hL3 : cb_L n a a.length I3 := by
              have e30 : ∀ t, t < 6 → I3 30 (6 * a.length + t) = I 30 (6 * a.length + t) := fun t ht => fX3.2.2 _ (by omega)
              rcases hLv with q | ⟨g, q1, q2⟩
              · exact Or.inl ⟨(e30 0 (by decide)).trans q.1, q.2⟩
              · exact Or.inr ⟨g, fun t ht => (e30 t (by omega)).trans (q1 t ht), q2⟩
            obtain ⟨I', z1, z2, z3⟩ := ihe (j + 1) (l ++ cb_lv n p cs r (a ++ [j])) I3 (by omega) (cb_xs_fX fX3 hx) hc3 hL3 m2 hM
            refine ⟨I', go92 _ ?_, z2, cb_fX_trans fX3 z3⟩
            rw [← nI_1] at z1 m1
            have go123 : xk_go (ik_cr xk_P xk_M xk_Y xk_K xw_X (d + r + 8)) 86 (123, [some (.ref 22), some (.int (nI a.length)), some (.int (nI n)), some (.int (nI i)), some (.int fo), some (.int (nI j))], [], (xk_R b, I2, J)) none (xk_R b, I', J) := xp_X5_seek_123_0 I2 J _ _ _ _ _ m1 (xp_X5_seek_131_0 I3 J _ _ _ _ _ z1)
            by_cases last : a.length + 1 = p
            · have cu := lx_closesUp (d := d + r + 5) (b := b) (J := J) (a := a ++ [j]) hn hp3 hp hcs hx1 (hl1.trans last) (by rw [← last]; exact hok1) hc1
              have eg1 : (a ++ [j]).getD (p - 1) 0 = j := by
                have := cb_last a j
                rw [hl1, last] at this
                exact this
              have eg0 : (a ++ [j]).getD 0 0 = a.getD 0 0 := by
                rw [List.getD_eq_getElem?_getD, List.getElem?_append_left (by omega), ← List.getD_eq_getElem?_getD]
              rw [eg1, eg0, if_pos ((cb_st_iff.mp st).2 last)] at cu
              exact xp_X5_seek_92_1 _ J _ _ _ _ _ _ (by rw [ep]; exact nI_nlt (by omega) (by omega)) cu (xp_X5_seek_112_1 _ J _ _ _ _ _ _ (by decide) k1 go123)
            · exact xp_X5_seek_92_0 _ J _ _ _ _ _ (by rw [ep]; exact nI_lt (by omega) (by omega)) k1 go123
          · -- it doesn't close up
            have last : a.length + 1 = p := Classical.byContradiction (fun q => st (cb_st_iff.mpr ⟨ok1, fun e => absurd e q⟩))
            have nok2 : ¬ cb_okb n (cs (p - 1)) j (a.getD 0 0) = true := fun q => st (cb_st_iff.mpr ⟨ok1, fun _ => q⟩)
            rw [if_neg st, List.nil_append] at hM ⊢
            have hc3 : cb_ch a (ij_u I 29 a.length (nI j)) := fun k hk => (ij_u_other _ _ _ _ (by omega)).trans (hc k hk)
            have hL3 : cb_L n a a.length (ij_u I 29 a.length (nI j)) := by
              rcases hLv with q | ⟨g, q1, q2⟩
              · exact Or.inl ⟨(congrFun (ij_u_ne (by decide)) _).trans q.1, q.2⟩
              · exact Or.inr ⟨g, fun t ht => (congrFun (ij_u_ne (by decide)) _).trans (q1 t ht), q2⟩
            obtain ⟨I', z1, z2, z3⟩ := ihe (j + 1) l _ (by omega) hx1 hc3 hL3 hI1 hM
            refine ⟨I', go92 _ ?_, z2, cb_fX_trans fX1 z3⟩
            rw [← nI_1] at z1
            have cu := lx_closesUp (d := d + r + 5) (b := b) (J := J) (a := a ++ [j]) hn hp3 hp hcs hx1 (hl1.trans last) (by rw [← last]; exact hok1) hc1
            have eg1 : (a ++ [j]).getD (p - 1) 0 = j := by
              have := cb_last a j
              rw [hl1, last] at this
              exact this
            have eg0 : (a ++ [j]).getD 0 0 = a.getD 0 0 := by
              rw [List.getD_eq_getElem?_getD, List.getElem?_append_left (by omega), ← List.getD_eq_getElem?_getD]
            rw [eg1, eg0, if_neg nok2] at cu
            exact xp_X5_seek_92_1 _ J _ _ _ _ _ _ (by rw [ep]; exact nI_nlt (by omega) (by omega)) cu (xp_X5_seek_112_0 _ J _ _ _ _ _ _ rfl z1)
        · rw [if_neg (fun q => ok1 (cb_st_iff.mp q).1), List.nil_append] at hM ⊢
          obtain ⟨I', z1, z2, z3⟩ := ihe (j + 1) l I (by omega) hx hc hLv hInv hM
          rw [← nI_1] at z1
          exact ⟨I', go54 _ (xp_X5_seek_76_0 I J _ _ _ _ _ _ (fun q => ok1 (hiff.mp q)) z1), z2, z3⟩
    -- the side's beginning
    by_cases s0 : a.length = 0
    · obtain ⟨I', z1, z2, z3⟩ := loop 0 0 (fun j hj => ⟨0, by omega, rfl, ⟨fun _ => Or.inl s0, fun _ => Int32.and_zero⟩⟩) (cb_q n) 0 l I (Nat.zero_add _) hx hc hLv hInv (by rw [← List.range_eq_range']; exact hM)
      rw [← List.range_eq_range'] at z2
      refine ⟨I', ?_, z2, z3⟩
      have ro : lk_cx1 xw_X (d + r + 8) 11 [.ref 28, .int (nI a.length - 1)] (xk_R b, I, J) (some (.int 0)) (xk_R b, I, J) := by
        rw [s0]
        exact ik_cr_of (Nat.le_of_ble_eq_true rfl) (xp_X1_rowOf_0_0 I J (nI 0 - 1) 0 (ik_cr_of (Nat.le_of_ble_eq_true rfl) (xp_X1_valueAt_29_0_0 I J (nI 0 - 1) (by decide))) (xp_X1_rowOf_8_0 I J 0))
      exact ik_cr_of (Nat.le_of_ble_eq_true rfl) (xp_X5_seek_0_0 I J _ _ 0 (by rw [hx.1.2.1]; exact nI_lt has (by omega)) ro (xp_X5_seek_27_1 I J _ _ 0 (by rw [s0]; rfl) z1))
    · have hsp : a.length - 1 < p := by omega
      obtain ⟨I', z1, z2, z3⟩ := loop (xw_f (nI (cs (a.length - 1)))) (nI (a.getD (a.length - 1) 0)) (fun j hj => ⟨a.getD (a.length - 1) 0, hok _ (by omega), rfl, (cb_forb hn (hcs _ hsp).1 (hcs _ hsp).2 (hok _ (by omega)) hj).trans ⟨Or.inr, fun q => q.resolve_left s0⟩⟩) (cb_q n) 0 l I (Nat.zero_add _) hx hc hLv hInv (by rw [← List.range_eq_range']; exact hM)
      rw [← List.range_eq_range'] at z2
      refine ⟨I', ?_, z2, z3⟩
      have q := xp_X5_seek_0_0 (C := ik_cr xk_P xk_M xk_Y xk_K xw_X (d + r + 8)) (v := none) (τ := (xk_R b, I', J)) (b := b) (b' := b) (I' := I) (J' := J) I J (nI a.length) (nI n) (nI (a.getD (a.length - 1) 0)) (by rw [hx.1.2.1]; exact nI_lt has (by omega))
      have q2 := xp_X5_seek_27_0 (C := ik_cr xk_P xk_M xk_Y xk_K xw_X (d + r + 8)) (v := none) (τ := (xk_R b, I', J)) (b := b) (b' := b) (I' := I) (J' := J) I J (nI a.length) (nI n) (nI (a.getD (a.length - 1) 0)) (nI (cs (a.length - 1))) (nI_ne0 (by omega) (by omega))
      rw [nI_sub1 (by omega)] at q q2
      exact ik_cr_of (Nat.le_of_ble_eq_true rfl) (q (lx_rowOf (d := d + r + 6) (by omega) hc (by omega)) (q2 (lx_cornerB (d := d + r + 7) hp hx.1.2.2 hsp) (xp_X5_seek_46_0 I J _ _ _ _ _ (lx_forbid (d := d + r + 7) _) (xp_X5_seek_49_0 I J _ _ _ _ z1))))
end CH4
