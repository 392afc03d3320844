/-! ===== the law's wrappers (laid by a program) ===== -/
section LKX
variable {b b' : Bool} {I I' : Nat → Nat → Int32} {J J' : Nat → Nat → Int64} {I2 : Nat → Nat → Int32} {J2 : Nat → Nat → Int64} {o : Int64} {X : ij_R} {d : Nat}
abbrev lk_cx2 (X : ij_R) (d j : Nat) (as : List Value) (σ : ij_S) (v : ix_O) (τ : ij_S) : Prop := ix_cr xk_P xk_M xk_K xk_T (ik_cr xk_P xk_M xk_Y xk_K X) (fun _ _ _ _ _ => False) d j as σ v τ
set_option maxRecDepth 100000 in
theorem lk_w_board {v : Int32} (x1 : Int32) (h : lk_cx2 X d 112 [.ref 0, .int x1] (xk_R b, I, J) (.inl (some (.int v))) (xk_R b', I', J')) : lk_C2 X d lk_K 240 [.ref 0, .int x1, .ref 88] (lk_S b I J I2 J2 o) (.inl (some (.int 0))) (lk_S b' I' J' I2 J2 (v.toInt64)) := by
  refine ⟨by decide, Nat.le_of_ble_eq_true rfl, ?_⟩
  refine ix_gp [0, 0, 0, 0] (φ := []) (q' := (4, [some (.ref 0), some (.int x1), some (.ref 88), none], [.int x1, .ref 0, .int 0, .ref 88], lk_S b I J I2 J2 o)) rfl trivial ?_
  refine ix_gc2 (j := 112) (as := [.ref 0, .int x1]) (r := [.int 0, .ref 88]) (w := some (.int v)) (σ' := lk_S b' I' J' I2 J2 o) rfl rfl (by decide) (lk_c2x (o := o) (I2 := I2) (J2 := J2) (by decide) h) ?_
  refine ix_gp [0, 0, 0, 0] (φ := [vp_in 0 1]) (q' := (16, [some (.ref 0), some (.int x1), some (.ref 88), none], [.int 0], ((lk_S b' I' J' I2 J2 o).1, (lk_S b' I' J' I2 J2 o).2.1, ij_u (lk_S b' I' J' I2 J2 o).2.2 88 0 (v.toInt64)))) rfl (iy_inok rfl) ?_
  rw [lk_out]
  exact ix_gr rfl rfl trivial
set_option maxRecDepth 100000 in
theorem lk_w_board_I (x1 : Int32) (h : lk_cx2 X d 112 [.ref 0, .int x1] (xk_R b, I, J) (.inr "java/lang/IllegalArgumentException") (xk_R b', I', J')) : lk_C2 X d lk_K 240 [.ref 0, .int x1, .ref 88] (lk_S b I J I2 J2 o) (.inl (some (.int 1))) (lk_S b' I' J' I2 J2 o) := by
  refine ⟨by decide, Nat.le_of_ble_eq_true rfl, ?_⟩
  refine ix_gp [0, 0, 0, 0] (φ := []) (q' := (4, [some (.ref 0), some (.int x1), some (.ref 88), none], [.int x1, .ref 0, .int 0, .ref 88], lk_S b I J I2 J2 o)) rfl trivial ?_
  refine ix_gh (j := 112) (as := [.ref 0, .int x1]) (r := [.int 0, .ref 88]) (E := "java/lang/IllegalArgumentException") (h := 12) (i := 3) (len := 1) (L' := []) (σ' := lk_S b' I' J' I2 J2 o) rfl rfl (by decide) (lk_c2x (o := o) (I2 := I2) (J2 := J2) (by decide) h) (by decide +kernel) rfl rfl (by decide) (fun k w hk => by rw [ij_get_nil] at hk; cases hk) ?_
  refine ix_gp [0] (φ := []) (q' := (14, [], [.int 1], lk_S b' I' J' I2 J2 o)) rfl trivial ?_
  exact ix_gr rfl rfl trivial
set_option maxRecDepth 100000 in
theorem lk_w_count {v : Int32} (x1 : Int32) (h : lk_cx2 X d 114 [.ref 0, .int x1] (xk_R b, I, J) (.inl (some (.int v))) (xk_R b', I', J')) : lk_C2 X d lk_K 241 [.ref 0, .int x1, .ref 88] (lk_S b I J I2 J2 o) (.inl (some (.int 0))) (lk_S b' I' J' I2 J2 (v.toInt64)) := by
  refine ⟨by decide, Nat.le_of_ble_eq_true rfl, ?_⟩
  refine ix_gp [0, 0, 0, 0] (φ := []) (q' := (4, [some (.ref 0), some (.int x1), some (.ref 88), none], [.int x1, .ref 0, .int 0, .ref 88], lk_S b I J I2 J2 o)) rfl trivial ?_
  refine ix_gc2 (j := 114) (as := [.ref 0, .int x1]) (r := [.int 0, .ref 88]) (w := some (.int v)) (σ' := lk_S b' I' J' I2 J2 o) rfl rfl (by decide) (lk_c2x (o := o) (I2 := I2) (J2 := J2) (by decide) h) ?_
  refine ix_gp [0, 0, 0, 0] (φ := [vp_in 0 1]) (q' := (16, [some (.ref 0), some (.int x1), some (.ref 88), none], [.int 0], ((lk_S b' I' J' I2 J2 o).1, (lk_S b' I' J' I2 J2 o).2.1, ij_u (lk_S b' I' J' I2 J2 o).2.2 88 0 (v.toInt64)))) rfl (iy_inok rfl) ?_
  rw [lk_out]
  exact ix_gr rfl rfl trivial
set_option maxRecDepth 100000 in
theorem lk_w_count_S (x1 : Int32) (h : lk_cx2 X d 114 [.ref 0, .int x1] (xk_R b, I, J) (.inr "java/util/NoSuchElementException") (xk_R b', I', J')) : lk_C2 X d lk_K 241 [.ref 0, .int x1, .ref 88] (lk_S b I J I2 J2 o) (.inl (some (.int 1))) (lk_S b' I' J' I2 J2 o) := by
  refine ⟨by decide, Nat.le_of_ble_eq_true rfl, ?_⟩
  refine ix_gp [0, 0, 0, 0] (φ := []) (q' := (4, [some (.ref 0), some (.int x1), some (.ref 88), none], [.int x1, .ref 0, .int 0, .ref 88], lk_S b I J I2 J2 o)) rfl trivial ?_
  refine ix_gh (j := 114) (as := [.ref 0, .int x1]) (r := [.int 0, .ref 88]) (E := "java/util/NoSuchElementException") (h := 12) (i := 3) (len := 1) (L' := []) (σ' := lk_S b' I' J' I2 J2 o) rfl rfl (by decide) (lk_c2x (o := o) (I2 := I2) (J2 := J2) (by decide) h) (by decide +kernel) rfl rfl (by decide) (fun k w hk => by rw [ij_get_nil] at hk; cases hk) ?_
  refine ix_gp [0] (φ := []) (q' := (14, [], [.int 1], lk_S b' I' J' I2 J2 o)) rfl trivial ?_
  exact ix_gr rfl rfl trivial
set_option maxRecDepth 100000 in
theorem lk_w_corner {v : Int32} (x1 : Int32) (h : lk_cx2 X d 115 [.ref 0, .int x1] (xk_R b, I, J) (.inl (some (.int v))) (xk_R b', I', J')) : lk_C2 X d lk_K 242 [.ref 0, .int x1, .ref 88] (lk_S b I J I2 J2 o) (.inl (some (.int 0))) (lk_S b' I' J' I2 J2 (v.toInt64)) := by
  refine ⟨by decide, Nat.le_of_ble_eq_true rfl, ?_⟩
  refine ix_gp [0, 0, 0, 0] (φ := []) (q' := (4, [some (.ref 0), some (.int x1), some (.ref 88), none], [.int x1, .ref 0, .int 0, .ref 88], lk_S b I J I2 J2 o)) rfl trivial ?_
  refine ix_gc2 (j := 115) (as := [.ref 0, .int x1]) (r := [.int 0, .ref 88]) (w := some (.int v)) (σ' := lk_S b' I' J' I2 J2 o) rfl rfl (by decide) (lk_c2x (o := o) (I2 := I2) (J2 := J2) (by decide) h) ?_
  refine ix_gp [0, 0, 0, 0] (φ := [vp_in 0 1]) (q' := (16, [some (.ref 0), some (.int x1), some (.ref 88), none], [.int 0], ((lk_S b' I' J' I2 J2 o).1, (lk_S b' I' J' I2 J2 o).2.1, ij_u (lk_S b' I' J' I2 J2 o).2.2 88 0 (v.toInt64)))) rfl (iy_inok rfl) ?_
  rw [lk_out]
  exact ix_gr rfl rfl trivial
set_option maxRecDepth 100000 in
theorem lk_w_corner_S (x1 : Int32) (h : lk_cx2 X d 115 [.ref 0, .int x1] (xk_R b, I, J) (.inr "java/util/NoSuchElementException") (xk_R b', I', J')) : lk_C2 X d lk_K 242 [.ref 0, .int x1, .ref 88] (lk_S b I J I2 J2 o) (.inl (some (.int 1))) (lk_S b' I' J' I2 J2 o) := by
  refine ⟨by decide, Nat.le_of_ble_eq_true rfl, ?_⟩
  refine ix_gp [0, 0, 0, 0] (φ := []) (q' := (4, [some (.ref 0), some (.int x1), some (.ref 88), none], [.int x1, .ref 0, .int 0, .ref 88], lk_S b I J I2 J2 o)) rfl trivial ?_
  refine ix_gh (j := 115) (as := [.ref 0, .int x1]) (r := [.int 0, .ref 88]) (E := "java/util/NoSuchElementException") (h := 12) (i := 3) (len := 1) (L' := []) (σ' := lk_S b' I' J' I2 J2 o) rfl rfl (by decide) (lk_c2x (o := o) (I2 := I2) (J2 := J2) (by decide) h) (by decide +kernel) rfl rfl (by decide) (fun k w hk => by rw [ij_get_nil] at hk; cases hk) ?_
  refine ix_gp [0] (φ := []) (q' := (14, [], [.int 1], lk_S b' I' J' I2 J2 o)) rfl trivial ?_
  exact ix_gr rfl rfl trivial
set_option maxRecDepth 100000 in
theorem lk_w_tile {v : Int32} (x1 : Int32) (x2 : Int32) (h : lk_cx2 X d 116 [.ref 0, .int x1, .int x2] (xk_R b, I, J) (.inl (some (.int v))) (xk_R b', I', J')) : lk_C2 X d lk_K 243 [.ref 0, .int x1, .int x2, .ref 88] (lk_S b I J I2 J2 o) (.inl (some (.int 0))) (lk_S b' I' J' I2 J2 (v.toInt64)) := by
  refine ⟨by decide, Nat.le_of_ble_eq_true rfl, ?_⟩
  refine ix_gp [0, 0, 0, 0, 0] (φ := []) (q' := (5, [some (.ref 0), some (.int x1), some (.int x2), some (.ref 88), none], [.int x2, .int x1, .ref 0, .int 0, .ref 88], lk_S b I J I2 J2 o)) rfl trivial ?_
  refine ix_gc2 (j := 116) (as := [.ref 0, .int x1, .int x2]) (r := [.int 0, .ref 88]) (w := some (.int v)) (σ' := lk_S b' I' J' I2 J2 o) rfl rfl (by decide) (lk_c2x (o := o) (I2 := I2) (J2 := J2) (by decide) h) ?_
  refine ix_gp [0, 0, 0, 0] (φ := [vp_in 0 1]) (q' := (18, [some (.ref 0), some (.int x1), some (.int x2), some (.ref 88), none], [.int 0], ((lk_S b' I' J' I2 J2 o).1, (lk_S b' I' J' I2 J2 o).2.1, ij_u (lk_S b' I' J' I2 J2 o).2.2 88 0 (v.toInt64)))) rfl (iy_inok rfl) ?_
  rw [lk_out]
  exact ix_gr rfl rfl trivial
set_option maxRecDepth 100000 in
theorem lk_w_tile_S (x1 : Int32) (x2 : Int32) (h : lk_cx2 X d 116 [.ref 0, .int x1, .int x2] (xk_R b, I, J) (.inr "java/util/NoSuchElementException") (xk_R b', I', J')) : lk_C2 X d lk_K 243 [.ref 0, .int x1, .int x2, .ref 88] (lk_S b I J I2 J2 o) (.inl (some (.int 1))) (lk_S b' I' J' I2 J2 o) := by
  refine ⟨by decide, Nat.le_of_ble_eq_true rfl, ?_⟩
  refine ix_gp [0, 0, 0, 0, 0] (φ := []) (q' := (5, [some (.ref 0), some (.int x1), some (.int x2), some (.ref 88), none], [.int x2, .int x1, .ref 0, .int 0, .ref 88], lk_S b I J I2 J2 o)) rfl trivial ?_
  refine ix_gh (j := 116) (as := [.ref 0, .int x1, .int x2]) (r := [.int 0, .ref 88]) (E := "java/util/NoSuchElementException") (h := 13) (i := 4) (len := 2) (L' := []) (σ' := lk_S b' I' J' I2 J2 o) rfl rfl (by decide) (lk_c2x (o := o) (I2 := I2) (J2 := J2) (by decide) h) (by decide +kernel) rfl rfl (by decide) (fun k w hk => by rw [ij_get_nil] at hk; cases hk) ?_
  refine ix_gp [0] (φ := []) (q' := (16, [], [.int 1], lk_S b' I' J' I2 J2 o)) rfl trivial ?_
  exact ix_gr rfl rfl trivial
set_option maxRecDepth 100000 in
theorem lk_w_across {v : Int32} (x1 : Int32) (x2 : Int32) (h : lk_cx2 X d 117 [.ref 0, .int x1, .int x2] (xk_R b, I, J) (.inl (some (.int v))) (xk_R b', I', J')) : lk_C2 X d lk_K 244 [.ref 0, .int x1, .int x2, .ref 88] (lk_S b I J I2 J2 o) (.inl (some (.int 0))) (lk_S b' I' J' I2 J2 (v.toInt64)) := by
  refine ⟨by decide, Nat.le_of_ble_eq_true rfl, ?_⟩
  refine ix_gp [0, 0, 0, 0, 0] (φ := []) (q' := (5, [some (.ref 0), some (.int x1), some (.int x2), some (.ref 88), none], [.int x2, .int x1, .ref 0, .int 0, .ref 88], lk_S b I J I2 J2 o)) rfl trivial ?_
  refine ix_gc2 (j := 117) (as := [.ref 0, .int x1, .int x2]) (r := [.int 0, .ref 88]) (w := some (.int v)) (σ' := lk_S b' I' J' I2 J2 o) rfl rfl (by decide) (lk_c2x (o := o) (I2 := I2) (J2 := J2) (by decide) h) ?_
  refine ix_gp [0, 0, 0, 0] (φ := [vp_in 0 1]) (q' := (18, [some (.ref 0), some (.int x1), some (.int x2), some (.ref 88), none], [.int 0], ((lk_S b' I' J' I2 J2 o).1, (lk_S b' I' J' I2 J2 o).2.1, ij_u (lk_S b' I' J' I2 J2 o).2.2 88 0 (v.toInt64)))) rfl (iy_inok rfl) ?_
  rw [lk_out]
  exact ix_gr rfl rfl trivial
set_option maxRecDepth 100000 in
theorem lk_w_across_S (x1 : Int32) (x2 : Int32) (h : lk_cx2 X d 117 [.ref 0, .int x1, .int x2] (xk_R b, I, J) (.inr "java/util/NoSuchElementException") (xk_R b', I', J')) : lk_C2 X d lk_K 244 [.ref 0, .int x1, .int x2, .ref 88] (lk_S b I J I2 J2 o) (.inl (some (.int 1))) (lk_S b' I' J' I2 J2 o) := by
  refine ⟨by decide, Nat.le_of_ble_eq_true rfl, ?_⟩
  refine ix_gp [0, 0, 0, 0, 0] (φ := []) (q' := (5, [some (.ref 0), some (.int x1), some (.int x2), some (.ref 88), none], [.int x2, .int x1, .ref 0, .int 0, .ref 88], lk_S b I J I2 J2 o)) rfl trivial ?_
  refine ix_gh (j := 117) (as := [.ref 0, .int x1, .int x2]) (r := [.int 0, .ref 88]) (E := "java/util/NoSuchElementException") (h := 13) (i := 4) (len := 2) (L' := []) (σ' := lk_S b' I' J' I2 J2 o) rfl rfl (by decide) (lk_c2x (o := o) (I2 := I2) (J2 := J2) (by decide) h) (by decide +kernel) rfl rfl (by decide) (fun k w hk => by rw [ij_get_nil] at hk; cases hk) ?_
  refine ix_gp [0] (φ := []) (q' := (16, [], [.int 1], lk_S b' I' J' I2 J2 o)) rfl trivial ?_
  exact ix_gr rfl rfl trivial
set_option maxRecDepth 100000 in
theorem lk_w_name {v : Int32} (x1 : Int32) (x2 : Int32) (h : lk_cx2 X d 118 [.ref 0, .int x1, .int x2] (xk_R b, I, J) (.inl (some (.int v))) (xk_R b', I', J')) : lk_C2 X d lk_K 245 [.ref 0, .int x1, .int x2, .ref 88] (lk_S b I J I2 J2 o) (.inl (some (.int 0))) (lk_S b' I' J' I2 J2 (v.toInt64)) := by
  refine ⟨by decide, Nat.le_of_ble_eq_true rfl, ?_⟩
  refine ix_gp [0, 0, 0, 0, 0] (φ := []) (q' := (5, [some (.ref 0), some (.int x1), some (.int x2), some (.ref 88), none], [.int x2, .int x1, .ref 0, .int 0, .ref 88], lk_S b I J I2 J2 o)) rfl trivial ?_
  refine ix_gc2 (j := 118) (as := [.ref 0, .int x1, .int x2]) (r := [.int 0, .ref 88]) (w := some (.int v)) (σ' := lk_S b' I' J' I2 J2 o) rfl rfl (by decide) (lk_c2x (o := o) (I2 := I2) (J2 := J2) (by decide) h) ?_
  refine ix_gp [0, 0, 0, 0] (φ := [vp_in 0 1]) (q' := (18, [some (.ref 0), some (.int x1), some (.int x2), some (.ref 88), none], [.int 0], ((lk_S b' I' J' I2 J2 o).1, (lk_S b' I' J' I2 J2 o).2.1, ij_u (lk_S b' I' J' I2 J2 o).2.2 88 0 (v.toInt64)))) rfl (iy_inok rfl) ?_
  rw [lk_out]
  exact ix_gr rfl rfl trivial
set_option maxRecDepth 100000 in
theorem lk_w_name_S (x1 : Int32) (x2 : Int32) (h : lk_cx2 X d 118 [.ref 0, .int x1, .int x2] (xk_R b, I, J) (.inr "java/util/NoSuchElementException") (xk_R b', I', J')) : lk_C2 X d lk_K 245 [.ref 0, .int x1, .int x2, .ref 88] (lk_S b I J I2 J2 o) (.inl (some (.int 1))) (lk_S b' I' J' I2 J2 o) := by
  refine ⟨by decide, Nat.le_of_ble_eq_true rfl, ?_⟩
  refine ix_gp [0, 0, 0, 0, 0] (φ := []) (q' := (5, [some (.ref 0), some (.int x1), some (.int x2), some (.ref 88), none], [.int x2, .int x1, .ref 0, .int 0, .ref 88], lk_S b I J I2 J2 o)) rfl trivial ?_
  refine ix_gh (j := 118) (as := [.ref 0, .int x1, .int x2]) (r := [.int 0, .ref 88]) (E := "java/util/NoSuchElementException") (h := 13) (i := 4) (len := 2) (L' := []) (σ' := lk_S b' I' J' I2 J2 o) rfl rfl (by decide) (lk_c2x (o := o) (I2 := I2) (J2 := J2) (by decide) h) (by decide +kernel) rfl rfl (by decide) (fun k w hk => by rw [ij_get_nil] at hk; cases hk) ?_
  refine ix_gp [0] (φ := []) (q' := (16, [], [.int 1], lk_S b' I' J' I2 J2 o)) rfl trivial ?_
  exact ix_gr rfl rfl trivial
set_option maxRecDepth 100000 in
theorem lk_w_ways {v : Int64} (x1 : Int32) (h : lk_cx2 X d 119 [.ref 0, .int x1] (xk_R b, I, J) (.inl (some (.long v))) (xk_R b', I', J')) : lk_C2 X d lk_K 246 [.ref 0, .int x1, .ref 88] (lk_S b I J I2 J2 o) (.inl (some (.int 0))) (lk_S b' I' J' I2 J2 (v)) := by
  refine ⟨by decide, Nat.le_of_ble_eq_true rfl, ?_⟩
  refine ix_gp [0, 0, 0, 0] (φ := []) (q' := (4, [some (.ref 0), some (.int x1), some (.ref 88), none], [.int x1, .ref 0, .int 0, .ref 88], lk_S b I J I2 J2 o)) rfl trivial ?_
  refine ix_gc2 (j := 119) (as := [.ref 0, .int x1]) (r := [.int 0, .ref 88]) (w := some (.long v)) (σ' := lk_S b' I' J' I2 J2 o) rfl rfl (by decide) (lk_c2x (o := o) (I2 := I2) (J2 := J2) (by decide) h) ?_
  refine ix_gp [0, 0, 0] (φ := [vp_in 0 1]) (q' := (15, [some (.ref 0), some (.int x1), some (.ref 88), none], [.int 0], ((lk_S b' I' J' I2 J2 o).1, (lk_S b' I' J' I2 J2 o).2.1, ij_u (lk_S b' I' J' I2 J2 o).2.2 88 0 (v)))) rfl (iy_inok rfl) ?_
  rw [lk_out]
  exact ix_gr rfl rfl trivial
set_option maxRecDepth 100000 in
theorem lk_w_ways_S (x1 : Int32) (h : lk_cx2 X d 119 [.ref 0, .int x1] (xk_R b, I, J) (.inr "java/util/NoSuchElementException") (xk_R b', I', J')) : lk_C2 X d lk_K 246 [.ref 0, .int x1, .ref 88] (lk_S b I J I2 J2 o) (.inl (some (.int 1))) (lk_S b' I' J' I2 J2 o) := by
  refine ⟨by decide, Nat.le_of_ble_eq_true rfl, ?_⟩
  refine ix_gp [0, 0, 0, 0] (φ := []) (q' := (4, [some (.ref 0), some (.int x1), some (.ref 88), none], [.int x1, .ref 0, .int 0, .ref 88], lk_S b I J I2 J2 o)) rfl trivial ?_
  refine ix_gh (j := 119) (as := [.ref 0, .int x1]) (r := [.int 0, .ref 88]) (E := "java/util/NoSuchElementException") (h := 11) (i := 3) (len := 1) (L' := []) (σ' := lk_S b' I' J' I2 J2 o) rfl rfl (by decide) (lk_c2x (o := o) (I2 := I2) (J2 := J2) (by decide) h) (by decide +kernel) rfl rfl (by decide) (fun k w hk => by rw [ij_get_nil] at hk; cases hk) ?_
  refine ix_gp [0] (φ := []) (q' := (13, [], [.int 1], lk_S b' I' J' I2 J2 o)) rfl trivial ?_
  exact ix_gr rfl rfl trivial
set_option maxRecDepth 100000 in
theorem lk_w_ring {v : Int32} (x1 : Int32) (h : lk_cx2 X d 120 [.ref 0, .int x1] (xk_R b, I, J) (.inl (some (.int v))) (xk_R b', I', J')) : lk_C2 X d lk_K 247 [.ref 0, .int x1, .ref 88] (lk_S b I J I2 J2 o) (.inl (some (.int 0))) (lk_S b' I' J' I2 J2 (v.toInt64)) := by
  refine ⟨by decide, Nat.le_of_ble_eq_true rfl, ?_⟩
  refine ix_gp [0, 0, 0, 0] (φ := []) (q' := (4, [some (.ref 0), some (.int x1), some (.ref 88), none], [.int x1, .ref 0, .int 0, .ref 88], lk_S b I J I2 J2 o)) rfl trivial ?_
  refine ix_gc2 (j := 120) (as := [.ref 0, .int x1]) (r := [.int 0, .ref 88]) (w := some (.int v)) (σ' := lk_S b' I' J' I2 J2 o) rfl rfl (by decide) (lk_c2x (o := o) (I2 := I2) (J2 := J2) (by decide) h) ?_
  refine ix_gp [0, 0, 0, 0] (φ := [vp_in 0 1]) (q' := (16, [some (.ref 0), some (.int x1), some (.ref 88), none], [.int 0], ((lk_S b' I' J' I2 J2 o).1, (lk_S b' I' J' I2 J2 o).2.1, ij_u (lk_S b' I' J' I2 J2 o).2.2 88 0 (v.toInt64)))) rfl (iy_inok rfl) ?_
  rw [lk_out]
  exact ix_gr rfl rfl trivial
set_option maxRecDepth 100000 in
theorem lk_w_ring_S (x1 : Int32) (h : lk_cx2 X d 120 [.ref 0, .int x1] (xk_R b, I, J) (.inr "java/util/NoSuchElementException") (xk_R b', I', J')) : lk_C2 X d lk_K 247 [.ref 0, .int x1, .ref 88] (lk_S b I J I2 J2 o) (.inl (some (.int 1))) (lk_S b' I' J' I2 J2 o) := by
  refine ⟨by decide, Nat.le_of_ble_eq_true rfl, ?_⟩
  refine ix_gp [0, 0, 0, 0] (φ := []) (q' := (4, [some (.ref 0), some (.int x1), some (.ref 88), none], [.int x1, .ref 0, .int 0, .ref 88], lk_S b I J I2 J2 o)) rfl trivial ?_
  refine ix_gh (j := 120) (as := [.ref 0, .int x1]) (r := [.int 0, .ref 88]) (E := "java/util/NoSuchElementException") (h := 12) (i := 3) (len := 1) (L' := []) (σ' := lk_S b' I' J' I2 J2 o) rfl rfl (by decide) (lk_c2x (o := o) (I2 := I2) (J2 := J2) (by decide) h) (by decide +kernel) rfl rfl (by decide) (fun k w hk => by rw [ij_get_nil] at hk; cases hk) ?_
  refine ix_gp [0] (φ := []) (q' := (14, [], [.int 1], lk_S b' I' J' I2 J2 o)) rfl trivial ?_
  exact ix_gr rfl rfl trivial
set_option maxRecDepth 100000 in
theorem lk_w_growth {v : Int64} (x1 : Int32) (h : lk_cx2 X d 121 [.ref 0, .int x1] (xk_R b, I, J) (.inl (some (.long v))) (xk_R b', I', J')) : lk_C2 X d lk_K 248 [.ref 0, .int x1, .ref 88] (lk_S b I J I2 J2 o) (.inl (some (.int 0))) (lk_S b' I' J' I2 J2 (v)) := by
  refine ⟨by decide, Nat.le_of_ble_eq_true rfl, ?_⟩
  refine ix_gp [0, 0, 0, 0] (φ := []) (q' := (4, [some (.ref 0), some (.int x1), some (.ref 88), none], [.int x1, .ref 0, .int 0, .ref 88], lk_S b I J I2 J2 o)) rfl trivial ?_
  refine ix_gc2 (j := 121) (as := [.ref 0, .int x1]) (r := [.int 0, .ref 88]) (w := some (.long v)) (σ' := lk_S b' I' J' I2 J2 o) rfl rfl (by decide) (lk_c2x (o := o) (I2 := I2) (J2 := J2) (by decide) h) ?_
  refine ix_gp [0, 0, 0] (φ := [vp_in 0 1]) (q' := (15, [some (.ref 0), some (.int x1), some (.ref 88), none], [.int 0], ((lk_S b' I' J' I2 J2 o).1, (lk_S b' I' J' I2 J2 o).2.1, ij_u (lk_S b' I' J' I2 J2 o).2.2 88 0 (v)))) rfl (iy_inok rfl) ?_
  rw [lk_out]
  exact ix_gr rfl rfl trivial
set_option maxRecDepth 100000 in
theorem lk_w_growth_S (x1 : Int32) (h : lk_cx2 X d 121 [.ref 0, .int x1] (xk_R b, I, J) (.inr "java/util/NoSuchElementException") (xk_R b', I', J')) : lk_C2 X d lk_K 248 [.ref 0, .int x1, .ref 88] (lk_S b I J I2 J2 o) (.inl (some (.int 1))) (lk_S b' I' J' I2 J2 o) := by
  refine ⟨by decide, Nat.le_of_ble_eq_true rfl, ?_⟩
  refine ix_gp [0, 0, 0, 0] (φ := []) (q' := (4, [some (.ref 0), some (.int x1), some (.ref 88), none], [.int x1, .ref 0, .int 0, .ref 88], lk_S b I J I2 J2 o)) rfl trivial ?_
  refine ix_gh (j := 121) (as := [.ref 0, .int x1]) (r := [.int 0, .ref 88]) (E := "java/util/NoSuchElementException") (h := 11) (i := 3) (len := 1) (L' := []) (σ' := lk_S b' I' J' I2 J2 o) rfl rfl (by decide) (lk_c2x (o := o) (I2 := I2) (J2 := J2) (by decide) h) (by decide +kernel) rfl rfl (by decide) (fun k w hk => by rw [ij_get_nil] at hk; cases hk) ?_
  refine ix_gp [0] (φ := []) (q' := (13, [], [.int 1], lk_S b' I' J' I2 J2 o)) rfl trivial ?_
  exact ix_gr rfl rfl trivial
set_option maxRecDepth 100000 in
theorem lk_w_walks {v : Int64} (x1 : Int32) (x2 : Int32) (h : lk_cx2 X d 122 [.ref 0, .int x1, .int x2] (xk_R b, I, J) (.inl (some (.long v))) (xk_R b', I', J')) : lk_C2 X d lk_K 249 [.ref 0, .int x1, .int x2, .ref 88] (lk_S b I J I2 J2 o) (.inl (some (.int 0))) (lk_S b' I' J' I2 J2 (v)) := by
  refine ⟨by decide, Nat.le_of_ble_eq_true rfl, ?_⟩
  refine ix_gp [0, 0, 0, 0, 0] (φ := []) (q' := (5, [some (.ref 0), some (.int x1), some (.int x2), some (.ref 88), none], [.int x2, .int x1, .ref 0, .int 0, .ref 88], lk_S b I J I2 J2 o)) rfl trivial ?_
  refine ix_gc2 (j := 122) (as := [.ref 0, .int x1, .int x2]) (r := [.int 0, .ref 88]) (w := some (.long v)) (σ' := lk_S b' I' J' I2 J2 o) rfl rfl (by decide) (lk_c2x (o := o) (I2 := I2) (J2 := J2) (by decide) h) ?_
  refine ix_gp [0, 0, 0] (φ := [vp_in 0 1]) (q' := (21, [some (.ref 0), some (.int x1), some (.int x2), some (.ref 88), none], [.int 0], ((lk_S b' I' J' I2 J2 o).1, (lk_S b' I' J' I2 J2 o).2.1, ij_u (lk_S b' I' J' I2 J2 o).2.2 88 0 (v)))) rfl (iy_inok rfl) ?_
  rw [lk_out]
  exact ix_gr rfl rfl trivial
set_option maxRecDepth 100000 in
theorem lk_w_walks_S (x1 : Int32) (x2 : Int32) (h : lk_cx2 X d 122 [.ref 0, .int x1, .int x2] (xk_R b, I, J) (.inr "java/util/NoSuchElementException") (xk_R b', I', J')) : lk_C2 X d lk_K 249 [.ref 0, .int x1, .int x2, .ref 88] (lk_S b I J I2 J2 o) (.inl (some (.int 1))) (lk_S b' I' J' I2 J2 o) := by
  refine ⟨by decide, Nat.le_of_ble_eq_true rfl, ?_⟩
  refine ix_gp [0, 0, 0, 0, 0] (φ := []) (q' := (5, [some (.ref 0), some (.int x1), some (.int x2), some (.ref 88), none], [.int x2, .int x1, .ref 0, .int 0, .ref 88], lk_S b I J I2 J2 o)) rfl trivial ?_
  refine ix_gh (j := 122) (as := [.ref 0, .int x1, .int x2]) (r := [.int 0, .ref 88]) (E := "java/util/NoSuchElementException") (h := 12) (i := 4) (len := 2) (L' := []) (σ' := lk_S b' I' J' I2 J2 o) rfl rfl (by decide) (lk_c2x (o := o) (I2 := I2) (J2 := J2) (by decide) h) (by decide +kernel) rfl rfl (by decide) (fun k w hk => by rw [ij_get_nil] at hk; cases hk) ?_
  refine ix_gp [0] (φ := []) (q' := (15, [], [.int 1], lk_S b' I' J' I2 J2 o)) rfl trivial ?_
  exact ix_gr rfl rfl trivial
set_option maxRecDepth 100000 in
theorem lk_w_walks_I (x1 : Int32) (x2 : Int32) (h : lk_cx2 X d 122 [.ref 0, .int x1, .int x2] (xk_R b, I, J) (.inr "java/lang/IllegalArgumentException") (xk_R b', I', J')) : lk_C2 X d lk_K 249 [.ref 0, .int x1, .int x2, .ref 88] (lk_S b I J I2 J2 o) (.inl (some (.int 2))) (lk_S b' I' J' I2 J2 o) := by
  refine ⟨by decide, Nat.le_of_ble_eq_true rfl, ?_⟩
  refine ix_gp [0, 0, 0, 0, 0] (φ := []) (q' := (5, [some (.ref 0), some (.int x1), some (.int x2), some (.ref 88), none], [.int x2, .int x1, .ref 0, .int 0, .ref 88], lk_S b I J I2 J2 o)) rfl trivial ?_
  refine ix_gh (j := 122) (as := [.ref 0, .int x1, .int x2]) (r := [.int 0, .ref 88]) (E := "java/lang/IllegalArgumentException") (h := 16) (i := 4) (len := 2) (L' := []) (σ' := lk_S b' I' J' I2 J2 o) rfl rfl (by decide) (lk_c2x (o := o) (I2 := I2) (J2 := J2) (by decide) h) (by decide +kernel) rfl rfl (by decide) (fun k w hk => by rw [ij_get_nil] at hk; cases hk) ?_
  refine ix_gp [0] (φ := []) (q' := (19, [], [.int 2], lk_S b' I' J' I2 J2 o)) rfl trivial ?_
  exact ix_gr rfl rfl trivial
set_option maxRecDepth 100000 in
theorem lk_w_home {v : Int64} (x1 : Int32) (h : lk_cx2 X d 123 [.ref 0, .int x1] (xk_R b, I, J) (.inl (some (.long v))) (xk_R b', I', J')) : lk_C2 X d lk_K 250 [.ref 0, .int x1, .ref 88] (lk_S b I J I2 J2 o) (.inl (some (.int 0))) (lk_S b' I' J' I2 J2 (v)) := by
  refine ⟨by decide, Nat.le_of_ble_eq_true rfl, ?_⟩
  refine ix_gp [0, 0, 0, 0] (φ := []) (q' := (4, [some (.ref 0), some (.int x1), some (.ref 88), none], [.int x1, .ref 0, .int 0, .ref 88], lk_S b I J I2 J2 o)) rfl trivial ?_
  refine ix_gc2 (j := 123) (as := [.ref 0, .int x1]) (r := [.int 0, .ref 88]) (w := some (.long v)) (σ' := lk_S b' I' J' I2 J2 o) rfl rfl (by decide) (lk_c2x (o := o) (I2 := I2) (J2 := J2) (by decide) h) ?_
  refine ix_gp [0, 0, 0] (φ := [vp_in 0 1]) (q' := (15, [some (.ref 0), some (.int x1), some (.ref 88), none], [.int 0], ((lk_S b' I' J' I2 J2 o).1, (lk_S b' I' J' I2 J2 o).2.1, ij_u (lk_S b' I' J' I2 J2 o).2.2 88 0 (v)))) rfl (iy_inok rfl) ?_
  rw [lk_out]
  exact ix_gr rfl rfl trivial
set_option maxRecDepth 100000 in
theorem lk_w_home_I (x1 : Int32) (h : lk_cx2 X d 123 [.ref 0, .int x1] (xk_R b, I, J) (.inr "java/lang/IllegalArgumentException") (xk_R b', I', J')) : lk_C2 X d lk_K 250 [.ref 0, .int x1, .ref 88] (lk_S b I J I2 J2 o) (.inl (some (.int 1))) (lk_S b' I' J' I2 J2 o) := by
  refine ⟨by decide, Nat.le_of_ble_eq_true rfl, ?_⟩
  refine ix_gp [0, 0, 0, 0] (φ := []) (q' := (4, [some (.ref 0), some (.int x1), some (.ref 88), none], [.int x1, .ref 0, .int 0, .ref 88], lk_S b I J I2 J2 o)) rfl trivial ?_
  refine ix_gh (j := 123) (as := [.ref 0, .int x1]) (r := [.int 0, .ref 88]) (E := "java/lang/IllegalArgumentException") (h := 11) (i := 3) (len := 1) (L' := []) (σ' := lk_S b' I' J' I2 J2 o) rfl rfl (by decide) (lk_c2x (o := o) (I2 := I2) (J2 := J2) (by decide) h) (by decide +kernel) rfl rfl (by decide) (fun k w hk => by rw [ij_get_nil] at hk; cases hk) ?_
  refine ix_gp [0] (φ := []) (q' := (13, [], [.int 1], lk_S b' I' J' I2 J2 o)) rfl trivial ?_
  exact ix_gr rfl rfl trivial
set_option maxRecDepth 100000 in
theorem lk_w_far {v : Int64} (x1 : Int32) (x2 : Int32) (h : lk_cx2 X d 124 [.ref 0, .int x1, .int x2] (xk_R b, I, J) (.inl (some (.long v))) (xk_R b', I', J')) : lk_C2 X d lk_K 251 [.ref 0, .int x1, .int x2, .ref 88] (lk_S b I J I2 J2 o) (.inl (some (.int 0))) (lk_S b' I' J' I2 J2 (v)) := by
  refine ⟨by decide, Nat.le_of_ble_eq_true rfl, ?_⟩
  refine ix_gp [0, 0, 0, 0, 0] (φ := []) (q' := (5, [some (.ref 0), some (.int x1), some (.int x2), some (.ref 88), none], [.int x2, .int x1, .ref 0, .int 0, .ref 88], lk_S b I J I2 J2 o)) rfl trivial ?_
  refine ix_gc2 (j := 124) (as := [.ref 0, .int x1, .int x2]) (r := [.int 0, .ref 88]) (w := some (.long v)) (σ' := lk_S b' I' J' I2 J2 o) rfl rfl (by decide) (lk_c2x (o := o) (I2 := I2) (J2 := J2) (by decide) h) ?_
  refine ix_gp [0, 0, 0] (φ := [vp_in 0 1]) (q' := (21, [some (.ref 0), some (.int x1), some (.int x2), some (.ref 88), none], [.int 0], ((lk_S b' I' J' I2 J2 o).1, (lk_S b' I' J' I2 J2 o).2.1, ij_u (lk_S b' I' J' I2 J2 o).2.2 88 0 (v)))) rfl (iy_inok rfl) ?_
  rw [lk_out]
  exact ix_gr rfl rfl trivial
set_option maxRecDepth 100000 in
theorem lk_w_far_S (x1 : Int32) (x2 : Int32) (h : lk_cx2 X d 124 [.ref 0, .int x1, .int x2] (xk_R b, I, J) (.inr "java/util/NoSuchElementException") (xk_R b', I', J')) : lk_C2 X d lk_K 251 [.ref 0, .int x1, .int x2, .ref 88] (lk_S b I J I2 J2 o) (.inl (some (.int 1))) (lk_S b' I' J' I2 J2 o) := by
  refine ⟨by decide, Nat.le_of_ble_eq_true rfl, ?_⟩
  refine ix_gp [0, 0, 0, 0, 0] (φ := []) (q' := (5, [some (.ref 0), some (.int x1), some (.int x2), some (.ref 88), none], [.int x2, .int x1, .ref 0, .int 0, .ref 88], lk_S b I J I2 J2 o)) rfl trivial ?_
  refine ix_gh (j := 124) (as := [.ref 0, .int x1, .int x2]) (r := [.int 0, .ref 88]) (E := "java/util/NoSuchElementException") (h := 12) (i := 4) (len := 2) (L' := []) (σ' := lk_S b' I' J' I2 J2 o) rfl rfl (by decide) (lk_c2x (o := o) (I2 := I2) (J2 := J2) (by decide) h) (by decide +kernel) rfl rfl (by decide) (fun k w hk => by rw [ij_get_nil] at hk; cases hk) ?_
  refine ix_gp [0] (φ := []) (q' := (15, [], [.int 1], lk_S b' I' J' I2 J2 o)) rfl trivial ?_
  exact ix_gr rfl rfl trivial
set_option maxRecDepth 100000 in
theorem lk_w_far_I (x1 : Int32) (x2 : Int32) (h : lk_cx2 X d 124 [.ref 0, .int x1, .int x2] (xk_R b, I, J) (.inr "java/lang/IllegalArgumentException") (xk_R b', I', J')) : lk_C2 X d lk_K 251 [.ref 0, .int x1, .int x2, .ref 88] (lk_S b I J I2 J2 o) (.inl (some (.int 2))) (lk_S b' I' J' I2 J2 o) := by
  refine ⟨by decide, Nat.le_of_ble_eq_true rfl, ?_⟩
  refine ix_gp [0, 0, 0, 0, 0] (φ := []) (q' := (5, [some (.ref 0), some (.int x1), some (.int x2), some (.ref 88), none], [.int x2, .int x1, .ref 0, .int 0, .ref 88], lk_S b I J I2 J2 o)) rfl trivial ?_
  refine ix_gh (j := 124) (as := [.ref 0, .int x1, .int x2]) (r := [.int 0, .ref 88]) (E := "java/lang/IllegalArgumentException") (h := 16) (i := 4) (len := 2) (L' := []) (σ' := lk_S b' I' J' I2 J2 o) rfl rfl (by decide) (lk_c2x (o := o) (I2 := I2) (J2 := J2) (by decide) h) (by decide +kernel) rfl rfl (by decide) (fun k w hk => by rw [ij_get_nil] at hk; cases hk) ?_
  refine ix_gp [0] (φ := []) (q' := (19, [], [.int 2], lk_S b' I' J' I2 J2 o)) rfl trivial ?_
  exact ix_gr rfl rfl trivial
set_option maxRecDepth 100000 in
theorem lk_w_walk {v : Int32} (x1 : Int32) (x2 : Int64) (x3 : Int32) (h : lk_cx2 X d 125 [.ref 0, .int x1, .long x2, .int x3] (xk_R b, I, J) (.inl (some (.int v))) (xk_R b', I', J')) : lk_C2 X d lk_K 252 [.ref 0, .int x1, .long x2, .int x3, .ref 88] (lk_S b I J I2 J2 o) (.inl (some (.int 0))) (lk_S b' I' J' I2 J2 (v.toInt64)) := by
  refine ⟨by decide, Nat.le_of_ble_eq_true rfl, ?_⟩
  refine ix_gp [0, 0, 0, 0, 0, 0] (φ := []) (q' := (8, [some (.ref 0), some (.int x1), some (.long x2), none, some (.int x3), some (.ref 88), none], [.int x3, .long x2, .int x1, .ref 0, .int 0, .ref 88], lk_S b I J I2 J2 o)) rfl trivial ?_
  refine ix_gc2 (j := 125) (as := [.ref 0, .int x1, .long x2, .int x3]) (r := [.int 0, .ref 88]) (w := some (.int v)) (σ' := lk_S b' I' J' I2 J2 o) rfl rfl (by decide) (lk_c2x (o := o) (I2 := I2) (J2 := J2) (by decide) h) ?_
  refine ix_gp [0, 0, 0, 0] (φ := [vp_in 0 1]) (q' := (25, [some (.ref 0), some (.int x1), some (.long x2), none, some (.int x3), some (.ref 88), none], [.int 0], ((lk_S b' I' J' I2 J2 o).1, (lk_S b' I' J' I2 J2 o).2.1, ij_u (lk_S b' I' J' I2 J2 o).2.2 88 0 (v.toInt64)))) rfl (iy_inok rfl) ?_
  rw [lk_out]
  exact ix_gr rfl rfl trivial
set_option maxRecDepth 100000 in
theorem lk_w_walk_S (x1 : Int32) (x2 : Int64) (x3 : Int32) (h : lk_cx2 X d 125 [.ref 0, .int x1, .long x2, .int x3] (xk_R b, I, J) (.inr "java/util/NoSuchElementException") (xk_R b', I', J')) : lk_C2 X d lk_K 252 [.ref 0, .int x1, .long x2, .int x3, .ref 88] (lk_S b I J I2 J2 o) (.inl (some (.int 1))) (lk_S b' I' J' I2 J2 o) := by
  refine ⟨by decide, Nat.le_of_ble_eq_true rfl, ?_⟩
  refine ix_gp [0, 0, 0, 0, 0, 0] (φ := []) (q' := (8, [some (.ref 0), some (.int x1), some (.long x2), none, some (.int x3), some (.ref 88), none], [.int x3, .long x2, .int x1, .ref 0, .int 0, .ref 88], lk_S b I J I2 J2 o)) rfl trivial ?_
  refine ix_gh (j := 125) (as := [.ref 0, .int x1, .long x2, .int x3]) (r := [.int 0, .ref 88]) (E := "java/util/NoSuchElementException") (h := 16) (i := 6) (len := 2) (L' := []) (σ' := lk_S b' I' J' I2 J2 o) rfl rfl (by decide) (lk_c2x (o := o) (I2 := I2) (J2 := J2) (by decide) h) (by decide +kernel) rfl rfl (by decide) (fun k w hk => by rw [ij_get_nil] at hk; cases hk) ?_
  refine ix_gp [0] (φ := []) (q' := (19, [], [.int 1], lk_S b' I' J' I2 J2 o)) rfl trivial ?_
  exact ix_gr rfl rfl trivial
set_option maxRecDepth 100000 in
theorem lk_w_walk_I (x1 : Int32) (x2 : Int64) (x3 : Int32) (h : lk_cx2 X d 125 [.ref 0, .int x1, .long x2, .int x3] (xk_R b, I, J) (.inr "java/lang/IllegalArgumentException") (xk_R b', I', J')) : lk_C2 X d lk_K 252 [.ref 0, .int x1, .long x2, .int x3, .ref 88] (lk_S b I J I2 J2 o) (.inl (some (.int 2))) (lk_S b' I' J' I2 J2 o) := by
  refine ⟨by decide, Nat.le_of_ble_eq_true rfl, ?_⟩
  refine ix_gp [0, 0, 0, 0, 0, 0] (φ := []) (q' := (8, [some (.ref 0), some (.int x1), some (.long x2), none, some (.int x3), some (.ref 88), none], [.int x3, .long x2, .int x1, .ref 0, .int 0, .ref 88], lk_S b I J I2 J2 o)) rfl trivial ?_
  refine ix_gh (j := 125) (as := [.ref 0, .int x1, .long x2, .int x3]) (r := [.int 0, .ref 88]) (E := "java/lang/IllegalArgumentException") (h := 20) (i := 6) (len := 2) (L' := []) (σ' := lk_S b' I' J' I2 J2 o) rfl rfl (by decide) (lk_c2x (o := o) (I2 := I2) (J2 := J2) (by decide) h) (by decide +kernel) rfl rfl (by decide) (fun k w hk => by rw [ij_get_nil] at hk; cases hk) ?_
  refine ix_gp [0] (φ := []) (q' := (23, [], [.int 2], lk_S b' I' J' I2 J2 o)) rfl trivial ?_
  exact ix_gr rfl rfl trivial
set_option maxRecDepth 100000 in
theorem lk_w_move {v : Int32} (x1 : Int32) (x2 : Int32) (h : lk_cx2 X d 126 [.ref 0, .int x1, .int x2] (xk_R b, I, J) (.inl (some (.int v))) (xk_R b', I', J')) : lk_C2 X d lk_K 253 [.ref 0, .int x1, .int x2, .ref 88] (lk_S b I J I2 J2 o) (.inl (some (.int 0))) (lk_S b' I' J' I2 J2 (v.toInt64)) := by
  refine ⟨by decide, Nat.le_of_ble_eq_true rfl, ?_⟩
  refine ix_gp [0, 0, 0, 0, 0] (φ := []) (q' := (5, [some (.ref 0), some (.int x1), some (.int x2), some (.ref 88), none], [.int x2, .int x1, .ref 0, .int 0, .ref 88], lk_S b I J I2 J2 o)) rfl trivial ?_
  refine ix_gc2 (j := 126) (as := [.ref 0, .int x1, .int x2]) (r := [.int 0, .ref 88]) (w := some (.int v)) (σ' := lk_S b' I' J' I2 J2 o) rfl rfl (by decide) (lk_c2x (o := o) (I2 := I2) (J2 := J2) (by decide) h) ?_
  refine ix_gp [0, 0, 0, 0] (φ := [vp_in 0 1]) (q' := (18, [some (.ref 0), some (.int x1), some (.int x2), some (.ref 88), none], [.int 0], ((lk_S b' I' J' I2 J2 o).1, (lk_S b' I' J' I2 J2 o).2.1, ij_u (lk_S b' I' J' I2 J2 o).2.2 88 0 (v.toInt64)))) rfl (iy_inok rfl) ?_
  rw [lk_out]
  exact ix_gr rfl rfl trivial
set_option maxRecDepth 100000 in
theorem lk_w_move_S (x1 : Int32) (x2 : Int32) (h : lk_cx2 X d 126 [.ref 0, .int x1, .int x2] (xk_R b, I, J) (.inr "java/util/NoSuchElementException") (xk_R b', I', J')) : lk_C2 X d lk_K 253 [.ref 0, .int x1, .int x2, .ref 88] (lk_S b I J I2 J2 o) (.inl (some (.int 1))) (lk_S b' I' J' I2 J2 o) := by
  refine ⟨by decide, Nat.le_of_ble_eq_true rfl, ?_⟩
  refine ix_gp [0, 0, 0, 0, 0] (φ := []) (q' := (5, [some (.ref 0), some (.int x1), some (.int x2), some (.ref 88), none], [.int x2, .int x1, .ref 0, .int 0, .ref 88], lk_S b I J I2 J2 o)) rfl trivial ?_
  refine ix_gh (j := 126) (as := [.ref 0, .int x1, .int x2]) (r := [.int 0, .ref 88]) (E := "java/util/NoSuchElementException") (h := 13) (i := 4) (len := 2) (L' := []) (σ' := lk_S b' I' J' I2 J2 o) rfl rfl (by decide) (lk_c2x (o := o) (I2 := I2) (J2 := J2) (by decide) h) (by decide +kernel) rfl rfl (by decide) (fun k w hk => by rw [ij_get_nil] at hk; cases hk) ?_
  refine ix_gp [0] (φ := []) (q' := (16, [], [.int 1], lk_S b' I' J' I2 J2 o)) rfl trivial ?_
  exact ix_gr rfl rfl trivial
set_option maxRecDepth 100000 in
theorem lk_w_order {v : Int32} (x1 : Int32) (h : lk_cx2 X d 127 [.ref 0, .int x1] (xk_R b, I, J) (.inl (some (.int v))) (xk_R b', I', J')) : lk_C2 X d lk_K 254 [.ref 0, .int x1, .ref 88] (lk_S b I J I2 J2 o) (.inl (some (.int 0))) (lk_S b' I' J' I2 J2 (v.toInt64)) := by
  refine ⟨by decide, Nat.le_of_ble_eq_true rfl, ?_⟩
  refine ix_gp [0, 0, 0, 0] (φ := []) (q' := (4, [some (.ref 0), some (.int x1), some (.ref 88), none], [.int x1, .ref 0, .int 0, .ref 88], lk_S b I J I2 J2 o)) rfl trivial ?_
  refine ix_gc2 (j := 127) (as := [.ref 0, .int x1]) (r := [.int 0, .ref 88]) (w := some (.int v)) (σ' := lk_S b' I' J' I2 J2 o) rfl rfl (by decide) (lk_c2x (o := o) (I2 := I2) (J2 := J2) (by decide) h) ?_
  refine ix_gp [0, 0, 0, 0] (φ := [vp_in 0 1]) (q' := (16, [some (.ref 0), some (.int x1), some (.ref 88), none], [.int 0], ((lk_S b' I' J' I2 J2 o).1, (lk_S b' I' J' I2 J2 o).2.1, ij_u (lk_S b' I' J' I2 J2 o).2.2 88 0 (v.toInt64)))) rfl (iy_inok rfl) ?_
  rw [lk_out]
  exact ix_gr rfl rfl trivial
set_option maxRecDepth 100000 in
theorem lk_w_order_S (x1 : Int32) (h : lk_cx2 X d 127 [.ref 0, .int x1] (xk_R b, I, J) (.inr "java/util/NoSuchElementException") (xk_R b', I', J')) : lk_C2 X d lk_K 254 [.ref 0, .int x1, .ref 88] (lk_S b I J I2 J2 o) (.inl (some (.int 1))) (lk_S b' I' J' I2 J2 o) := by
  refine ⟨by decide, Nat.le_of_ble_eq_true rfl, ?_⟩
  refine ix_gp [0, 0, 0, 0] (φ := []) (q' := (4, [some (.ref 0), some (.int x1), some (.ref 88), none], [.int x1, .ref 0, .int 0, .ref 88], lk_S b I J I2 J2 o)) rfl trivial ?_
  refine ix_gh (j := 127) (as := [.ref 0, .int x1]) (r := [.int 0, .ref 88]) (E := "java/util/NoSuchElementException") (h := 12) (i := 3) (len := 1) (L' := []) (σ' := lk_S b' I' J' I2 J2 o) rfl rfl (by decide) (lk_c2x (o := o) (I2 := I2) (J2 := J2) (by decide) h) (by decide +kernel) rfl rfl (by decide) (fun k w hk => by rw [ij_get_nil] at hk; cases hk) ?_
  refine ix_gp [0] (φ := []) (q' := (14, [], [.int 1], lk_S b' I' J' I2 J2 o)) rfl trivial ?_
  exact ix_gr rfl rfl trivial
set_option maxRecDepth 100000 in
theorem lk_w_back {v : Int32} (x1 : Int32) (h : lk_cx2 X d 128 [.ref 0, .int x1] (xk_R b, I, J) (.inl (some (.int v))) (xk_R b', I', J')) : lk_C2 X d lk_K 255 [.ref 0, .int x1, .ref 88] (lk_S b I J I2 J2 o) (.inl (some (.int 0))) (lk_S b' I' J' I2 J2 (v.toInt64)) := by
  refine ⟨by decide, Nat.le_of_ble_eq_true rfl, ?_⟩
  refine ix_gp [0, 0, 0, 0] (φ := []) (q' := (4, [some (.ref 0), some (.int x1), some (.ref 88), none], [.int x1, .ref 0, .int 0, .ref 88], lk_S b I J I2 J2 o)) rfl trivial ?_
  refine ix_gc2 (j := 128) (as := [.ref 0, .int x1]) (r := [.int 0, .ref 88]) (w := some (.int v)) (σ' := lk_S b' I' J' I2 J2 o) rfl rfl (by decide) (lk_c2x (o := o) (I2 := I2) (J2 := J2) (by decide) h) ?_
  refine ix_gp [0, 0, 0, 0] (φ := [vp_in 0 1]) (q' := (16, [some (.ref 0), some (.int x1), some (.ref 88), none], [.int 0], ((lk_S b' I' J' I2 J2 o).1, (lk_S b' I' J' I2 J2 o).2.1, ij_u (lk_S b' I' J' I2 J2 o).2.2 88 0 (v.toInt64)))) rfl (iy_inok rfl) ?_
  rw [lk_out]
  exact ix_gr rfl rfl trivial
set_option maxRecDepth 100000 in
theorem lk_w_back_S (x1 : Int32) (h : lk_cx2 X d 128 [.ref 0, .int x1] (xk_R b, I, J) (.inr "java/util/NoSuchElementException") (xk_R b', I', J')) : lk_C2 X d lk_K 255 [.ref 0, .int x1, .ref 88] (lk_S b I J I2 J2 o) (.inl (some (.int 1))) (lk_S b' I' J' I2 J2 o) := by
  refine ⟨by decide, Nat.le_of_ble_eq_true rfl, ?_⟩
  refine ix_gp [0, 0, 0, 0] (φ := []) (q' := (4, [some (.ref 0), some (.int x1), some (.ref 88), none], [.int x1, .ref 0, .int 0, .ref 88], lk_S b I J I2 J2 o)) rfl trivial ?_
  refine ix_gh (j := 128) (as := [.ref 0, .int x1]) (r := [.int 0, .ref 88]) (E := "java/util/NoSuchElementException") (h := 12) (i := 3) (len := 1) (L' := []) (σ' := lk_S b' I' J' I2 J2 o) rfl rfl (by decide) (lk_c2x (o := o) (I2 := I2) (J2 := J2) (by decide) h) (by decide +kernel) rfl rfl (by decide) (fun k w hk => by rw [ij_get_nil] at hk; cases hk) ?_
  refine ix_gp [0] (φ := []) (q' := (14, [], [.int 1], lk_S b' I' J' I2 J2 o)) rfl trivial ?_
  exact ix_gr rfl rfl trivial
set_option maxRecDepth 100000 in
theorem lk_w_apart {v : Int32} (x1 : Int32) (x2 : Int32) (h : lk_cx2 X d 129 [.ref 0, .int x1, .int x2] (xk_R b, I, J) (.inl (some (.int v))) (xk_R b', I', J')) : lk_C2 X d lk_K 256 [.ref 0, .int x1, .int x2, .ref 88] (lk_S b I J I2 J2 o) (.inl (some (.int 0))) (lk_S b' I' J' I2 J2 (v.toInt64)) := by
  refine ⟨by decide, Nat.le_of_ble_eq_true rfl, ?_⟩
  refine ix_gp [0, 0, 0, 0, 0] (φ := []) (q' := (5, [some (.ref 0), some (.int x1), some (.int x2), some (.ref 88), none], [.int x2, .int x1, .ref 0, .int 0, .ref 88], lk_S b I J I2 J2 o)) rfl trivial ?_
  refine ix_gc2 (j := 129) (as := [.ref 0, .int x1, .int x2]) (r := [.int 0, .ref 88]) (w := some (.int v)) (σ' := lk_S b' I' J' I2 J2 o) rfl rfl (by decide) (lk_c2x (o := o) (I2 := I2) (J2 := J2) (by decide) h) ?_
  refine ix_gp [0, 0, 0, 0] (φ := [vp_in 0 1]) (q' := (18, [some (.ref 0), some (.int x1), some (.int x2), some (.ref 88), none], [.int 0], ((lk_S b' I' J' I2 J2 o).1, (lk_S b' I' J' I2 J2 o).2.1, ij_u (lk_S b' I' J' I2 J2 o).2.2 88 0 (v.toInt64)))) rfl (iy_inok rfl) ?_
  rw [lk_out]
  exact ix_gr rfl rfl trivial
set_option maxRecDepth 100000 in
theorem lk_w_apart_S (x1 : Int32) (x2 : Int32) (h : lk_cx2 X d 129 [.ref 0, .int x1, .int x2] (xk_R b, I, J) (.inr "java/util/NoSuchElementException") (xk_R b', I', J')) : lk_C2 X d lk_K 256 [.ref 0, .int x1, .int x2, .ref 88] (lk_S b I J I2 J2 o) (.inl (some (.int 1))) (lk_S b' I' J' I2 J2 o) := by
  refine ⟨by decide, Nat.le_of_ble_eq_true rfl, ?_⟩
  refine ix_gp [0, 0, 0, 0, 0] (φ := []) (q' := (5, [some (.ref 0), some (.int x1), some (.int x2), some (.ref 88), none], [.int x2, .int x1, .ref 0, .int 0, .ref 88], lk_S b I J I2 J2 o)) rfl trivial ?_
  refine ix_gh (j := 129) (as := [.ref 0, .int x1, .int x2]) (r := [.int 0, .ref 88]) (E := "java/util/NoSuchElementException") (h := 13) (i := 4) (len := 2) (L' := []) (σ' := lk_S b' I' J' I2 J2 o) rfl rfl (by decide) (lk_c2x (o := o) (I2 := I2) (J2 := J2) (by decide) h) (by decide +kernel) rfl rfl (by decide) (fun k w hk => by rw [ij_get_nil] at hk; cases hk) ?_
  refine ix_gp [0] (φ := []) (q' := (16, [], [.int 1], lk_S b' I' J' I2 J2 o)) rfl trivial ?_
  exact ix_gr rfl rfl trivial
set_option maxRecDepth 100000 in
theorem lk_w_side {v : Int32} (x1 : Int32) (h : lk_cx2 X d 130 [.ref 0, .int x1] (xk_R b, I, J) (.inl (some (.int v))) (xk_R b', I', J')) : lk_C2 X d lk_K 257 [.ref 0, .int x1, .ref 88] (lk_S b I J I2 J2 o) (.inl (some (.int 0))) (lk_S b' I' J' I2 J2 (v.toInt64)) := by
  refine ⟨by decide, Nat.le_of_ble_eq_true rfl, ?_⟩
  refine ix_gp [0, 0, 0, 0] (φ := []) (q' := (4, [some (.ref 0), some (.int x1), some (.ref 88), none], [.int x1, .ref 0, .int 0, .ref 88], lk_S b I J I2 J2 o)) rfl trivial ?_
  refine ix_gc2 (j := 130) (as := [.ref 0, .int x1]) (r := [.int 0, .ref 88]) (w := some (.int v)) (σ' := lk_S b' I' J' I2 J2 o) rfl rfl (by decide) (lk_c2x (o := o) (I2 := I2) (J2 := J2) (by decide) h) ?_
  refine ix_gp [0, 0, 0, 0] (φ := [vp_in 0 1]) (q' := (16, [some (.ref 0), some (.int x1), some (.ref 88), none], [.int 0], ((lk_S b' I' J' I2 J2 o).1, (lk_S b' I' J' I2 J2 o).2.1, ij_u (lk_S b' I' J' I2 J2 o).2.2 88 0 (v.toInt64)))) rfl (iy_inok rfl) ?_
  rw [lk_out]
  exact ix_gr rfl rfl trivial
set_option maxRecDepth 100000 in
theorem lk_w_side_S (x1 : Int32) (h : lk_cx2 X d 130 [.ref 0, .int x1] (xk_R b, I, J) (.inr "java/util/NoSuchElementException") (xk_R b', I', J')) : lk_C2 X d lk_K 257 [.ref 0, .int x1, .ref 88] (lk_S b I J I2 J2 o) (.inl (some (.int 1))) (lk_S b' I' J' I2 J2 o) := by
  refine ⟨by decide, Nat.le_of_ble_eq_true rfl, ?_⟩
  refine ix_gp [0, 0, 0, 0] (φ := []) (q' := (4, [some (.ref 0), some (.int x1), some (.ref 88), none], [.int x1, .ref 0, .int 0, .ref 88], lk_S b I J I2 J2 o)) rfl trivial ?_
  refine ix_gh (j := 130) (as := [.ref 0, .int x1]) (r := [.int 0, .ref 88]) (E := "java/util/NoSuchElementException") (h := 12) (i := 3) (len := 1) (L' := []) (σ' := lk_S b' I' J' I2 J2 o) rfl rfl (by decide) (lk_c2x (o := o) (I2 := I2) (J2 := J2) (by decide) h) (by decide +kernel) rfl rfl (by decide) (fun k w hk => by rw [ij_get_nil] at hk; cases hk) ?_
  refine ix_gp [0] (φ := []) (q' := (14, [], [.int 1], lk_S b' I' J' I2 J2 o)) rfl trivial ?_
  exact ix_gr rfl rfl trivial
set_option maxRecDepth 100000 in
theorem lk_w_closed {v : Int32} (x1 : Int32) (x2 : Int32) (h : lk_cx2 X d 131 [.ref 0, .int x1, .int x2] (xk_R b, I, J) (.inl (some (.int v))) (xk_R b', I', J')) : lk_C2 X d lk_K 258 [.ref 0, .int x1, .int x2, .ref 88] (lk_S b I J I2 J2 o) (.inl (some (.int 0))) (lk_S b' I' J' I2 J2 (v.toInt64)) := by
  refine ⟨by decide, Nat.le_of_ble_eq_true rfl, ?_⟩
  refine ix_gp [0, 0, 0, 0, 0] (φ := []) (q' := (5, [some (.ref 0), some (.int x1), some (.int x2), some (.ref 88), none], [.int x2, .int x1, .ref 0, .int 0, .ref 88], lk_S b I J I2 J2 o)) rfl trivial ?_
  refine ix_gc2 (j := 131) (as := [.ref 0, .int x1, .int x2]) (r := [.int 0, .ref 88]) (w := some (.int v)) (σ' := lk_S b' I' J' I2 J2 o) rfl rfl (by decide) (lk_c2x (o := o) (I2 := I2) (J2 := J2) (by decide) h) ?_
  refine ix_gp [0, 0, 0, 0] (φ := [vp_in 0 1]) (q' := (22, [some (.ref 0), some (.int x1), some (.int x2), some (.ref 88), none], [.int 0], ((lk_S b' I' J' I2 J2 o).1, (lk_S b' I' J' I2 J2 o).2.1, ij_u (lk_S b' I' J' I2 J2 o).2.2 88 0 (v.toInt64)))) rfl (iy_inok rfl) ?_
  rw [lk_out]
  exact ix_gr rfl rfl trivial
set_option maxRecDepth 100000 in
theorem lk_w_closed_S (x1 : Int32) (x2 : Int32) (h : lk_cx2 X d 131 [.ref 0, .int x1, .int x2] (xk_R b, I, J) (.inr "java/util/NoSuchElementException") (xk_R b', I', J')) : lk_C2 X d lk_K 258 [.ref 0, .int x1, .int x2, .ref 88] (lk_S b I J I2 J2 o) (.inl (some (.int 1))) (lk_S b' I' J' I2 J2 o) := by
  refine ⟨by decide, Nat.le_of_ble_eq_true rfl, ?_⟩
  refine ix_gp [0, 0, 0, 0, 0] (φ := []) (q' := (5, [some (.ref 0), some (.int x1), some (.int x2), some (.ref 88), none], [.int x2, .int x1, .ref 0, .int 0, .ref 88], lk_S b I J I2 J2 o)) rfl trivial ?_
  refine ix_gh (j := 131) (as := [.ref 0, .int x1, .int x2]) (r := [.int 0, .ref 88]) (E := "java/util/NoSuchElementException") (h := 13) (i := 4) (len := 2) (L' := []) (σ' := lk_S b' I' J' I2 J2 o) rfl rfl (by decide) (lk_c2x (o := o) (I2 := I2) (J2 := J2) (by decide) h) (by decide +kernel) rfl rfl (by decide) (fun k w hk => by rw [ij_get_nil] at hk; cases hk) ?_
  refine ix_gp [0] (φ := []) (q' := (16, [], [.int 1], lk_S b' I' J' I2 J2 o)) rfl trivial ?_
  exact ix_gr rfl rfl trivial
set_option maxRecDepth 100000 in
theorem lk_w_closed_I (x1 : Int32) (x2 : Int32) (h : lk_cx2 X d 131 [.ref 0, .int x1, .int x2] (xk_R b, I, J) (.inr "java/lang/IllegalArgumentException") (xk_R b', I', J')) : lk_C2 X d lk_K 258 [.ref 0, .int x1, .int x2, .ref 88] (lk_S b I J I2 J2 o) (.inl (some (.int 2))) (lk_S b' I' J' I2 J2 o) := by
  refine ⟨by decide, Nat.le_of_ble_eq_true rfl, ?_⟩
  refine ix_gp [0, 0, 0, 0, 0] (φ := []) (q' := (5, [some (.ref 0), some (.int x1), some (.int x2), some (.ref 88), none], [.int x2, .int x1, .ref 0, .int 0, .ref 88], lk_S b I J I2 J2 o)) rfl trivial ?_
  refine ix_gh (j := 131) (as := [.ref 0, .int x1, .int x2]) (r := [.int 0, .ref 88]) (E := "java/lang/IllegalArgumentException") (h := 17) (i := 4) (len := 2) (L' := []) (σ' := lk_S b' I' J' I2 J2 o) rfl rfl (by decide) (lk_c2x (o := o) (I2 := I2) (J2 := J2) (by decide) h) (by decide +kernel) rfl rfl (by decide) (fun k w hk => by rw [ij_get_nil] at hk; cases hk) ?_
  refine ix_gp [0] (φ := []) (q' := (20, [], [.int 2], lk_S b' I' J' I2 J2 o)) rfl trivial ?_
  exact ix_gr rfl rfl trivial
set_option maxRecDepth 100000 in
theorem lk_w_first {v : Int32} (x1 : Int32) (x2 : Int32) (x3 : Int32) (h : lk_cx2 X d 132 [.ref 0, .int x1, .int x2, .int x3] (xk_R b, I, J) (.inl (some (.int v))) (xk_R b', I', J')) : lk_C2 X d lk_K 259 [.ref 0, .int x1, .int x2, .int x3, .ref 88] (lk_S b I J I2 J2 o) (.inl (some (.int 0))) (lk_S b' I' J' I2 J2 (v.toInt64)) := by
  refine ⟨by decide, Nat.le_of_ble_eq_true rfl, ?_⟩
  refine ix_gp [0, 0, 0, 0, 0, 0] (φ := []) (q' := (7, [some (.ref 0), some (.int x1), some (.int x2), some (.int x3), some (.ref 88), none], [.int x3, .int x2, .int x1, .ref 0, .int 0, .ref 88], lk_S b I J I2 J2 o)) rfl trivial ?_
  refine ix_gc2 (j := 132) (as := [.ref 0, .int x1, .int x2, .int x3]) (r := [.int 0, .ref 88]) (w := some (.int v)) (σ' := lk_S b' I' J' I2 J2 o) rfl rfl (by decide) (lk_c2x (o := o) (I2 := I2) (J2 := J2) (by decide) h) ?_
  refine ix_gp [0, 0, 0, 0] (φ := [vp_in 0 1]) (q' := (24, [some (.ref 0), some (.int x1), some (.int x2), some (.int x3), some (.ref 88), none], [.int 0], ((lk_S b' I' J' I2 J2 o).1, (lk_S b' I' J' I2 J2 o).2.1, ij_u (lk_S b' I' J' I2 J2 o).2.2 88 0 (v.toInt64)))) rfl (iy_inok rfl) ?_
  rw [lk_out]
  exact ix_gr rfl rfl trivial
set_option maxRecDepth 100000 in
theorem lk_w_first_S (x1 : Int32) (x2 : Int32) (x3 : Int32) (h : lk_cx2 X d 132 [.ref 0, .int x1, .int x2, .int x3] (xk_R b, I, J) (.inr "java/util/NoSuchElementException") (xk_R b', I', J')) : lk_C2 X d lk_K 259 [.ref 0, .int x1, .int x2, .int x3, .ref 88] (lk_S b I J I2 J2 o) (.inl (some (.int 1))) (lk_S b' I' J' I2 J2 o) := by
  refine ⟨by decide, Nat.le_of_ble_eq_true rfl, ?_⟩
  refine ix_gp [0, 0, 0, 0, 0, 0] (φ := []) (q' := (7, [some (.ref 0), some (.int x1), some (.int x2), some (.int x3), some (.ref 88), none], [.int x3, .int x2, .int x1, .ref 0, .int 0, .ref 88], lk_S b I J I2 J2 o)) rfl trivial ?_
  refine ix_gh (j := 132) (as := [.ref 0, .int x1, .int x2, .int x3]) (r := [.int 0, .ref 88]) (E := "java/util/NoSuchElementException") (h := 15) (i := 5) (len := 2) (L' := []) (σ' := lk_S b' I' J' I2 J2 o) rfl rfl (by decide) (lk_c2x (o := o) (I2 := I2) (J2 := J2) (by decide) h) (by decide +kernel) rfl rfl (by decide) (fun k w hk => by rw [ij_get_nil] at hk; cases hk) ?_
  refine ix_gp [0] (φ := []) (q' := (18, [], [.int 1], lk_S b' I' J' I2 J2 o)) rfl trivial ?_
  exact ix_gr rfl rfl trivial
set_option maxRecDepth 100000 in
theorem lk_w_first_I (x1 : Int32) (x2 : Int32) (x3 : Int32) (h : lk_cx2 X d 132 [.ref 0, .int x1, .int x2, .int x3] (xk_R b, I, J) (.inr "java/lang/IllegalArgumentException") (xk_R b', I', J')) : lk_C2 X d lk_K 259 [.ref 0, .int x1, .int x2, .int x3, .ref 88] (lk_S b I J I2 J2 o) (.inl (some (.int 2))) (lk_S b' I' J' I2 J2 o) := by
  refine ⟨by decide, Nat.le_of_ble_eq_true rfl, ?_⟩
  refine ix_gp [0, 0, 0, 0, 0, 0] (φ := []) (q' := (7, [some (.ref 0), some (.int x1), some (.int x2), some (.int x3), some (.ref 88), none], [.int x3, .int x2, .int x1, .ref 0, .int 0, .ref 88], lk_S b I J I2 J2 o)) rfl trivial ?_
  refine ix_gh (j := 132) (as := [.ref 0, .int x1, .int x2, .int x3]) (r := [.int 0, .ref 88]) (E := "java/lang/IllegalArgumentException") (h := 19) (i := 5) (len := 2) (L' := []) (σ' := lk_S b' I' J' I2 J2 o) rfl rfl (by decide) (lk_c2x (o := o) (I2 := I2) (J2 := J2) (by decide) h) (by decide +kernel) rfl rfl (by decide) (fun k w hk => by rw [ij_get_nil] at hk; cases hk) ?_
  refine ix_gp [0] (φ := []) (q' := (22, [], [.int 2], lk_S b' I' J' I2 J2 o)) rfl trivial ?_
  exact ix_gr rfl rfl trivial
set_option maxRecDepth 100000 in
theorem lk_w_steps {v : Int32} (x1 : Int32) (h : lk_cx2 X d 133 [.ref 0, .int x1] (xk_R b, I, J) (.inl (some (.int v))) (xk_R b', I', J')) : lk_C2 X d lk_K 260 [.ref 0, .int x1, .ref 88] (lk_S b I J I2 J2 o) (.inl (some (.int 0))) (lk_S b' I' J' I2 J2 (v.toInt64)) := by
  refine ⟨by decide, Nat.le_of_ble_eq_true rfl, ?_⟩
  refine ix_gp [0, 0, 0, 0] (φ := []) (q' := (4, [some (.ref 0), some (.int x1), some (.ref 88), none], [.int x1, .ref 0, .int 0, .ref 88], lk_S b I J I2 J2 o)) rfl trivial ?_
  refine ix_gc2 (j := 133) (as := [.ref 0, .int x1]) (r := [.int 0, .ref 88]) (w := some (.int v)) (σ' := lk_S b' I' J' I2 J2 o) rfl rfl (by decide) (lk_c2x (o := o) (I2 := I2) (J2 := J2) (by decide) h) ?_
  refine ix_gp [0, 0, 0, 0] (φ := [vp_in 0 1]) (q' := (16, [some (.ref 0), some (.int x1), some (.ref 88), none], [.int 0], ((lk_S b' I' J' I2 J2 o).1, (lk_S b' I' J' I2 J2 o).2.1, ij_u (lk_S b' I' J' I2 J2 o).2.2 88 0 (v.toInt64)))) rfl (iy_inok rfl) ?_
  rw [lk_out]
  exact ix_gr rfl rfl trivial
set_option maxRecDepth 100000 in
theorem lk_w_steps_I (x1 : Int32) (h : lk_cx2 X d 133 [.ref 0, .int x1] (xk_R b, I, J) (.inr "java/lang/IllegalArgumentException") (xk_R b', I', J')) : lk_C2 X d lk_K 260 [.ref 0, .int x1, .ref 88] (lk_S b I J I2 J2 o) (.inl (some (.int 1))) (lk_S b' I' J' I2 J2 o) := by
  refine ⟨by decide, Nat.le_of_ble_eq_true rfl, ?_⟩
  refine ix_gp [0, 0, 0, 0] (φ := []) (q' := (4, [some (.ref 0), some (.int x1), some (.ref 88), none], [.int x1, .ref 0, .int 0, .ref 88], lk_S b I J I2 J2 o)) rfl trivial ?_
  refine ix_gh (j := 133) (as := [.ref 0, .int x1]) (r := [.int 0, .ref 88]) (E := "java/lang/IllegalArgumentException") (h := 12) (i := 3) (len := 1) (L' := []) (σ' := lk_S b' I' J' I2 J2 o) rfl rfl (by decide) (lk_c2x (o := o) (I2 := I2) (J2 := J2) (by decide) h) (by decide +kernel) rfl rfl (by decide) (fun k w hk => by rw [ij_get_nil] at hk; cases hk) ?_
  refine ix_gp [0] (φ := []) (q' := (14, [], [.int 1], lk_S b' I' J' I2 J2 o)) rfl trivial ?_
  exact ix_gr rfl rfl trivial
set_option maxRecDepth 100000 in
theorem lk_w_ant {v : Int32} (x1 : Int32) (h : lk_cx2 X d 134 [.ref 0, .int x1] (xk_R b, I, J) (.inl (some (.int v))) (xk_R b', I', J')) : lk_C2 X d lk_K 261 [.ref 0, .int x1, .ref 88] (lk_S b I J I2 J2 o) (.inl (some (.int 0))) (lk_S b' I' J' I2 J2 (v.toInt64)) := by
  refine ⟨by decide, Nat.le_of_ble_eq_true rfl, ?_⟩
  refine ix_gp [0, 0, 0, 0] (φ := []) (q' := (4, [some (.ref 0), some (.int x1), some (.ref 88), none], [.int x1, .ref 0, .int 0, .ref 88], lk_S b I J I2 J2 o)) rfl trivial ?_
  refine ix_gc2 (j := 134) (as := [.ref 0, .int x1]) (r := [.int 0, .ref 88]) (w := some (.int v)) (σ' := lk_S b' I' J' I2 J2 o) rfl rfl (by decide) (lk_c2x (o := o) (I2 := I2) (J2 := J2) (by decide) h) ?_
  refine ix_gp [0, 0, 0, 0] (φ := [vp_in 0 1]) (q' := (16, [some (.ref 0), some (.int x1), some (.ref 88), none], [.int 0], ((lk_S b' I' J' I2 J2 o).1, (lk_S b' I' J' I2 J2 o).2.1, ij_u (lk_S b' I' J' I2 J2 o).2.2 88 0 (v.toInt64)))) rfl (iy_inok rfl) ?_
  rw [lk_out]
  exact ix_gr rfl rfl trivial
set_option maxRecDepth 100000 in
theorem lk_w_ant_S (x1 : Int32) (h : lk_cx2 X d 134 [.ref 0, .int x1] (xk_R b, I, J) (.inr "java/util/NoSuchElementException") (xk_R b', I', J')) : lk_C2 X d lk_K 261 [.ref 0, .int x1, .ref 88] (lk_S b I J I2 J2 o) (.inl (some (.int 1))) (lk_S b' I' J' I2 J2 o) := by
  refine ⟨by decide, Nat.le_of_ble_eq_true rfl, ?_⟩
  refine ix_gp [0, 0, 0, 0] (φ := []) (q' := (4, [some (.ref 0), some (.int x1), some (.ref 88), none], [.int x1, .ref 0, .int 0, .ref 88], lk_S b I J I2 J2 o)) rfl trivial ?_
  refine ix_gh (j := 134) (as := [.ref 0, .int x1]) (r := [.int 0, .ref 88]) (E := "java/util/NoSuchElementException") (h := 12) (i := 3) (len := 1) (L' := []) (σ' := lk_S b' I' J' I2 J2 o) rfl rfl (by decide) (lk_c2x (o := o) (I2 := I2) (J2 := J2) (by decide) h) (by decide +kernel) rfl rfl (by decide) (fun k w hk => by rw [ij_get_nil] at hk; cases hk) ?_
  refine ix_gp [0] (φ := []) (q' := (14, [], [.int 1], lk_S b' I' J' I2 J2 o)) rfl trivial ?_
  exact ix_gr rfl rfl trivial
end LKX
