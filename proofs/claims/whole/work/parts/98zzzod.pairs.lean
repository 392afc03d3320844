/-! ===== six sides or more (4): all right arcs in one row ===== -/
noncomputable def ptz (R X E : Nat) : Bool := nst (pfo R (pfo R (pfo R X))) fun h => nst (Nat.sub h (Nat.mul 2147478481 (Nat.land (Nat.shiftRight (Nat.add h (Nat.mul 2147488815 R)) 32) R))) fun c => Nat.beq (Nat.add (Nat.land (Nat.shiftRight (Nat.add c (Nat.mul 4294967295 R)) 32) R) E) R
section PT1
variable {α : Type} {l : List α} {f e : α → Nat}
theorem shr_bit (g : α → Nat) (c : Nat) (hg : ∀ w, g w + c < 2 ^ 68) : ((ofD 68 (l.map g) + c * rep 68 l.length) >>> 32) &&& rep 68 l.length = ofD 68 (l.map (fun w => ((g w + c) >>> 32) &&& 1)) := by
  have r1 : rep 68 l.length = ofD 68 (l.map (fun _ => 1)) := by rw [← ofD_rep, Nat.one_mul]
  rw [ofD_rep, ofD_add, r1, show (fun _ : α => (1 : Nat)) = fun _ => (2 ^ (68 - 32) - 1) &&& 1 from rfl, ← ofD_and (fun _ => 2 ^ (68 - 32) - 1) (fun _ => 1) l (fun _ _ => by decide) (fun _ _ => by decide), ← Nat.and_assoc, ofD_shr 32 (by decide) _ _ (fun w _ => hg w), ofD_and _ _ _ (fun w _ => Nat.lt_of_le_of_lt (Nat.shiftRight_le _ _) (hg w)) (fun _ _ => by decide)]
theorem ptz_of (hf : ∀ w, f w < 2 ^ 67) (he : ∀ w, e w ≤ 1) (h : ptz (rep 68 l.length) (ofD 68 (l.map f)) (ofD 68 (l.map e)) = true) : ∀ w, w ∈ l → e w = 0 → f w % 2147478481 ≠ 0 := by
  have big : (2 : Nat) ^ 68 = 295147905179352825856 := by decide
  have big7 : (2 : Nat) ^ 67 = 147573952589676412928 := by decide
  have f1 : ∀ w, f w < 2 ^ 68 := fun w => by have := hf w; omega
  have f2 : ∀ w, fo (f w) < 2 ^ 68 := fun w => by
    have := hf w
    rw [big7] at this
    rw [big]; unfold fo; omega
  have f3 : ∀ w, fo (fo (f w)) < 2 ^ 68 := fun w => by
    have := hf w
    rw [big7] at this
    rw [big]; unfold fo; omega
  have f4 : ∀ w, fo (fo (fo (f w))) < 2147490000 := fun w => by
    have := hf w
    rw [big7] at this
    unfold fo; omega
  unfold ptz at h
  rw [nst_eq, nst_eq] at h
  have hh : pfo (rep 68 l.length) (pfo (rep 68 l.length) (pfo (rep 68 l.length) (ofD 68 (l.map f)))) = ofD 68 (l.map (fun w => fo (fo (fo (f w))))) := by
    rw [pfo_of (fun w _ => f1 w)]
    rw [pfo_of (fun w _ => f2 w)]
    rw [pfo_of (fun w _ => f3 w)]
  rw [hh] at h
  have s1 : ∀ w, 2147478481 * (((fo (fo (fo (f w))) + 2147488815) >>> 32) &&& 1) ≤ fo (fo (fo (f w))) := fun w => by
    have h4 := f4 w
    rw [Nat.shiftRight_eq_div_pow, Nat.and_one_is_mod]
    have e32 : (2 : Nat) ^ 32 = 4294967296 := by decide
    rw [e32]
    generalize fo (fo (fo (f w))) = h at h4 ⊢
    by_cases c : h < 2147478481
    · rw [Nat.div_eq_of_lt (show h + 2147488815 < 4294967296 by omega)]; omega
    · have q : (h + 2147488815) / 4294967296 = 1 := by omega
      rw [q]; omega
  have hc : ofD 68 (l.map (fun w => fo (fo (fo (f w))))) - 2147478481 * (((ofD 68 (l.map (fun w => fo (fo (fo (f w))))) + 2147488815 * rep 68 l.length) >>> 32) &&& rep 68 l.length) = ofD 68 (l.map (fun w => f w % 2147478481)) := by
    rw [shr_bit _ _ (fun w => by have := f4 w; rw [big]; omega), ofD_mul, ofD_sub _ _ _ (fun w _ => s1 w)]
    exact ofD_congr (fun w _ => fo3 (hf w))
  have h' : Nat.beq ((((ofD 68 (l.map (fun w => fo (fo (fo (f w))))) - 2147478481 * (((ofD 68 (l.map (fun w => fo (fo (fo (f w))))) + 2147488815 * rep 68 l.length) >>> 32) &&& rep 68 l.length)) + 4294967295 * rep 68 l.length) >>> 32 &&& rep 68 l.length) + ofD 68 (l.map e)) (rep 68 l.length) = true := h
  rw [hc, shr_bit _ _ (fun w => by have : f w % 2147478481 < 2147478481 := Nat.mod_lt _ (by decide); rw [big]; omega), ofD_add] at h'
  have h2 := Nat.eq_of_beq_eq_true h'
  have r1 : rep 68 l.length = ofD 68 (l.map (fun _ => 1)) := by rw [← ofD_rep, Nat.one_mul]
  rw [r1] at h2
  have b1 : ∀ w, (((f w % 2147478481 + 4294967295) >>> 32) &&& 1) + e w < 2 ^ 68 := fun w => by
    have := he w
    have : (((f w % 2147478481 + 4294967295) >>> 32) &&& 1) ≤ 1 := Nat.and_le_right
    rw [big]; omega
  have h3 := ofD_inj (fun w _ => b1 w) (fun _ _ => by decide) h2
  intro w hw ew z
  have q := h3 w hw
  rw [ew, z] at q
  exact absurd q (by decide)
end PT1
/-! the rows of the right arcs -/
def arcs (n : Nat) : List (Nat × Nat × Nat) := gcat (fun i => gcat (fun i0 => gcat (fun i3 => [(i, i0, i3)]) 9) 9) n
theorem arcs_len (n : Nat) : (arcs n).length = 81 * n := by
  unfold arcs
  refine gcat_len n (fun i _ => ?_)
  rw [gcat_len (s := 9) 9 (fun i0 _ => ?_)]
  rw [gcat_len (s := 1) 9 (fun i3 _ => rfl)]
theorem arcs_mem {n i i0 i3 : Nat} (h : i < n) (h0 : i0 < 9) (h3 : i3 < 9) : (i, i0, i3) ∈ arcs n := (gcat_mem n).mpr ⟨i, h, (gcat_mem 9).mpr ⟨i0, h0, (gcat_mem 9).mpr ⟨i3, h3, List.mem_cons_self⟩⟩⟩
theorem arcs_row (n : Nat) (f : Nat × Nat × Nat → Nat) (F : Nat → Nat) (hF : ∀ i, F i = pgat (68 * 9) (fun i0 => pgat (68 * 1) (fun i3 => f (i, i0, i3)) 9) 9) : pgat (68 * 81) F n = ofD 68 ((arcs n).map f) := by
  unfold arcs
  refine pgat_of (fun i _ => ?_) (fun i _ => ?_)
  · rw [gcat_len (s := 9) 9 (fun i0 _ => ?_)]
    rw [gcat_len (s := 1) 9 (fun i3 _ => rfl)]
  · rw [hF i]
    refine pgat_of (fun i0 _ => ?_) (fun i0 _ => ?_)
    · rw [gcat_len (s := 1) 9 (fun i3 _ => rfl)]
    · exact pgat_of (fun i3 _ => rfl) (fun i3 _ => by show f (i, i0, i3) = f (i, i0, i3) + 2 ^ 68 * 0; rw [Nat.mul_zero, Nat.add_zero])
def far (κ : Nat → List Nat) (w : Nat × Nat × Nat) : List Nat := ya (κ w.1) (dv w.2.1) (dv w.2.2)
abbrev ty6 : Type := Nat → Nat → Nat → Nat → Nat → Nat → Nat
def frf : List ty6 := [fun _ _ _ _ _ _ => 1, fun y0 _ _ _ _ _ => zm 1 y0, fun _ y1 _ _ _ _ => zm 1 y1, fun _ _ y2 _ _ _ => zm 1 y2, fun _ _ _ y3 _ _ => zm 1 y3, fun _ _ _ _ y4 _ => zm 1 y4, fun _ _ _ _ _ y5 => zm 1 y5, fun _ y1 y2 _ _ y5 => zs (zm y1 y2) (zm y5 y5), fun y0 _ y2 _ y4 _ => zs (zm y0 y2) (zm y4 y4), fun y0 y1 _ y3 _ _ => zs (zm y0 y1) (zm y3 y3), fun _ _ y2 y3 y4 y5 => zs (zm y4 y5) (zm y3 y2), fun _ y1 _ y3 y4 y5 => zs (zm y3 y5) (zm y4 y1), fun y0 _ _ y3 y4 y5 => zs (zm y3 y4) (zm y0 y5), fun y0 y1 y2 y3 y4 y5 => za (zs (zm y0 (zs (zm y1 y2) (zm y5 y5))) (zm y3 (zs (zm y3 y2) (zm y5 y4)))) (zm y4 (zs (zm y3 y5) (zm y1 y4)))]
def wl6 (y0 y1 y2 y3 y4 y5 : Nat) : List Nat := [za (zs (zm y0 (zs (zm y1 y2) (zm y5 y5))) (zm y3 (zs (zm y3 y2) (zm y5 y4)))) (zm y4 (zs (zm y3 y5) (zm y1 y4))), zs (zm y1 y2) (zm y5 y5), zs (zm y0 y2) (zm y4 y4), zs (zm y0 y1) (zm y3 y3), zm 2 (zs (zm y4 y5) (zm y3 y2)), zm 2 (zs (zm y3 y5) (zm y4 y1)), zm 2 (zs (zm y3 y4) (zm y0 y5)), zm 1 y0, zm 1 y1, zm 1 y2, zm 2 y3, zm 2 y4, zm 2 y5, 1]
def g6 (g : ty6) (y : List Nat) : Nat := g (y.getD 0 0) (y.getD 1 0) (y.getD 2 0) (y.getD 3 0) (y.getD 4 0) (y.getD 5 0)
theorem frf_of (H : (List Nat → Nat) → Nat) : frf.map (fun g => H (g6 g)) = (List.range 14).map (fun k => H (fun y => (fr y).getD k 0)) := by
  have e : List.range 14 = [0, 1, 2, 3, 4, 5, 6, 7, 8, 9, 10, 11, 12, 13] := rfl
  rw [e]
  simp only [frf, fr, List.map_cons, List.map_nil, List.getD_cons_zero, List.getD_cons_succ]
  rfl
/-- the numbers of an arc, handed on one by one -/
noncomputable def y6 {β : Type} (K0 K1 K2 K3 K4 K5 d0 dl : Nat) (k : Nat → Nat → Nat → Nat → Nat → Nat → β) : β := nst (zm (zm d0 d0) K0) fun y0 => nst (zm (zm dl dl) K1) fun y1 => nst (zm (zm d0 dl) K3) fun y3 => nst (zm d0 K4) fun y4 => nst (zm dl K5) fun y5 => k y0 y1 K2 y3 y4 y5
noncomputable def k6 {β : Type} (K : List Nat) (k : Nat → Nat → Nat → Nat → Nat → Nat → β) : β := nst (K.getD 0 0) fun K0 => nst (K.getD 1 0) fun K1 => nst (K.getD 2 0) fun K2 => nst (K.getD 3 0) fun K3 => nst (K.getD 4 0) fun K4 => nst (K.getD 5 0) fun K5 => k K0 K1 K2 K3 K4 K5
theorem k6_eq {β : Type} (K : List Nat) (k : Nat → Nat → Nat → Nat → Nat → Nat → β) : k6 K k = k (K.getD 0 0) (K.getD 1 0) (K.getD 2 0) (K.getD 3 0) (K.getD 4 0) (K.getD 5 0) := by
  unfold k6
  rw [nst_eq, nst_eq, nst_eq, nst_eq, nst_eq, nst_eq]
theorem y6_eq {β : Type} (K : List Nat) (d0 dl : Nat) (k : Nat → Nat → Nat → Nat → Nat → Nat → β) : y6 (K.getD 0 0) (K.getD 1 0) (K.getD 2 0) (K.getD 3 0) (K.getD 4 0) (K.getD 5 0) d0 dl k = k ((ya K d0 dl).getD 0 0) ((ya K d0 dl).getD 1 0) ((ya K d0 dl).getD 2 0) ((ya K d0 dl).getD 3 0) ((ya K d0 dl).getD 4 0) ((ya K d0 dl).getD 5 0) := by
  unfold y6
  rw [nst_eq, nst_eq, nst_eq, nst_eq, nst_eq]
  simp only [ya, List.getD_cons_zero, List.getD_cons_succ]
noncomputable def prw (κ : Nat → List Nat) (n : Nat) (g : ty6) : Nat := pgat (68 * 81) (fun i => k6 (κ i) fun K0 K1 K2 K3 K4 K5 => pgat (68 * 9) (fun i0 => nst (dv i0) fun d0 => pgat (68 * 1) (fun i3 => y6 K0 K1 K2 K3 K4 K5 d0 (dv i3) g) 9) 9) n
theorem prw_of (κ : Nat → List Nat) (n : Nat) (g : ty6) : prw κ n g = ofD 68 ((arcs n).map (fun w => g6 g (far κ w))) := by
  unfold prw
  refine arcs_row n _ _ (fun i => ?_)
  rw [k6_eq]
  have inner : ∀ i0 : Nat, (nst (dv i0) fun d0 => pgat (68 * 1) (fun i3 => y6 ((κ i).getD 0 0) ((κ i).getD 1 0) ((κ i).getD 2 0) ((κ i).getD 3 0) ((κ i).getD 4 0) ((κ i).getD 5 0) d0 (dv i3) g) 9) = pgat (68 * 1) (fun i3 => g6 g (far κ (i, i0, i3))) 9 := fun i0 => by
    rw [nst_eq]
    refine congrArg (fun F => pgat (68 * 1) F 9) (funext fun i3 => ?_)
    rw [y6_eq]
    unfold far g6
    rfl
  exact congrArg (fun F => pgat (68 * 9) F 9) (funext inner)
noncomputable def pex (x : Nat) (n : Nat) : Nat := pgat (68 * 81) (fun i => pgat (68 * 9) (fun i0 => pgat (68 * 1) (fun i3 => bif Nat.beq i x && (Nat.beq i0 1 && Nat.beq i3 1) then 1 else 0) 9) 9) n
noncomputable def pdt (κl κr : Nat → List Nat) (nr xl xr lo cnt : Nat) : Bool := nsl (frf.map (prw κr nr)) fun Rs => nst (rep 68 (81 * nr)) fun R => nst (pex xr nr) fun E => allB (fun I => k6 (κl (Nat.add lo I)) fun K0 K1 K2 K3 K4 K5 => allB (fun I0 => nst (dv I0) fun d0 => allB (fun I3 => y6 K0 K1 K2 K3 K4 K5 d0 (dv I3) fun y0 y1 y2 y3 y4 y5 => nst (za 4 y0) fun x0 => nst (za 4 y1) fun x1 => nst (za 2 y2) fun x2 => nst (zs y4 2) fun x4 => nst (zs y5 2) fun x5 => ptz R (psm 0 0 (wl6 x0 x1 x2 y3 x4 x5) Rs) (bif Nat.beq (Nat.add lo I) xl && (Nat.beq I0 1 && Nat.beq I3 1) then E else 0)) 9) 9) cnt
theorem pdt_of {κl κr : Nat → List Nat} {nr xl xr lo cnt : Nat} (h : pdt κl κr nr xl xr lo cnt = true) {I I0 I3 i i0 i3 : Nat} (hI : I < cnt) (hI0 : I0 < 9) (hI3 : I3 < 9) (hi : i < nr) (hi0 : i0 < 9) (hi3 : i3 < 9) (hx : ¬ (lo + I = xl ∧ I0 = 1 ∧ I3 = 1 ∧ i = xr ∧ i0 = 1 ∧ i3 = 1)) : psu (xa (ya (κl (lo + I)) (dv I0) (dv I3))) (ya (κr i) (dv i0) (dv i3)) % 2147478481 ≠ 0 := by
  unfold pdt at h
  rw [nsl_eq, nst_eq, nst_eq] at h
  have h1 := allB_t h I hI
  rw [k6_eq] at h1
  have h1' := allB_t h1 I0 hI0
  rw [nst_eq] at h1'
  have h2 := allB_t h1' I3 hI3
  rw [y6_eq, nst_eq, nst_eq, nst_eq, nst_eq, nst_eq] at h2
  generalize hX : xa (ya (κl (lo + I)) (dv I0) (dv I3)) = X
  have hw : wl X = wl6 (za 4 ((ya (κl (lo + I)) (dv I0) (dv I3)).getD 0 0)) (za 4 ((ya (κl (lo + I)) (dv I0) (dv I3)).getD 1 0)) (za 2 ((ya (κl (lo + I)) (dv I0) (dv I3)).getD 2 0)) ((ya (κl (lo + I)) (dv I0) (dv I3)).getD 3 0) (zs ((ya (κl (lo + I)) (dv I0) (dv I3)).getD 4 0) 2) (zs ((ya (κl (lo + I)) (dv I0) (dv I3)).getD 5 0) 2) := by
    rw [← hX]
    generalize ya (κl (lo + I)) (dv I0) (dv I3) = Y
    simp only [wl, wl6, xa, List.getD_cons_zero, List.getD_cons_succ]
  have h3 : ptz (rep 68 (81 * nr)) (psm 0 0 (wl X) (frf.map (prw κr nr))) (bif Nat.beq (lo + I) xl && (Nat.beq I0 1 && Nat.beq I3 1) then pex xr nr else 0) = true := by rw [hw]; exact h2
  have e1 : wl X = (List.range 14).map (fun j => (wl X).getD j 0) := by unfold wl; exact l14 _ _ _ _ _ _ _ _ _ _ _ _ _ _
  have e2 : frf.map (prw κr nr) = (List.range 14).map (fun k => ofD 68 ((arcs nr).map (fun w => (fr (far κr w)).getD k 0))) := by
    rw [List.map_congr_left (fun g _ => prw_of κr nr g)]
    exact frf_of (fun f => ofD 68 ((arcs nr).map (fun w => f (far κr w))))
  have e3 : psm 0 0 (wl X) (frf.map (prw κr nr)) = ofD 68 ((arcs nr).map (fun w => psu X (far κr w))) := by
    rw [e2, e1, psm_of]
    unfold psu
    rfl
  have e4 : pex xr nr = ofD 68 ((arcs nr).map (fun w => bif Nat.beq w.1 xr && (Nat.beq w.2.1 1 && Nat.beq w.2.2 1) then 1 else 0)) := arcs_row nr _ _ (fun i => rfl)
  rw [e3, ← arcs_len nr] at h3
  by_cases c : (Nat.beq (lo + I) xl && (Nat.beq I0 1 && Nat.beq I3 1)) = true
  · rw [c] at h3
    have h4 : ptz (rep 68 (arcs nr).length) (ofD 68 ((arcs nr).map (fun w => psu X (far κr w)))) (pex xr nr) = true := h3
    rw [e4] at h4
    refine ptz_of (fun w => psu_lt _ _) (fun w => ?_) h4 (i, i0, i3) (arcs_mem hi hi0 hi3) ?_
    · cases Nat.beq w.1 xr && (Nat.beq w.2.1 1 && Nat.beq w.2.2 1) <;> decide
    · show (bif Nat.beq i xr && (Nat.beq i0 1 && Nat.beq i3 1) then 1 else 0) = 0
      cases c2 : Nat.beq i xr && (Nat.beq i0 1 && Nat.beq i3 1) with
      | false => rfl
      | true =>
        exfalso
        rw [Bool.and_eq_true, Bool.and_eq_true] at c c2
        exact hx ⟨Nat.eq_of_beq_eq_true c.1, Nat.eq_of_beq_eq_true c.2.1, Nat.eq_of_beq_eq_true c.2.2, Nat.eq_of_beq_eq_true c2.1, Nat.eq_of_beq_eq_true c2.2.1, Nat.eq_of_beq_eq_true c2.2.2⟩
  · rw [Bool.eq_false_iff.mpr c] at h3
    have h4 : ptz (rep 68 (arcs nr).length) (ofD 68 ((arcs nr).map (fun w => psu X (far κr w)))) 0 = true := h3
    rw [← ofD_zero (f := fun _ => 0) (arcs nr) (fun _ _ => rfl)] at h4
    exact ptz_of (fun w => psu_lt _ _) (fun w => Nat.zero_le _) h4 (i, i0, i3) (arcs_mem hi hi0 hi3) rfl
theorem dt_66 : pdt kk2 kk2 9 1 1 0 9 = true := by decide +kernel
