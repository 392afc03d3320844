/-! ===== what the tables say of the reference ===== -/
theorem rk_chk : ∀ j, ij_chk (rk_mb j) (rk_tb j) = true
  | 0 => rkC_thrown
  | 1 => rkC_right
  | 2 => rkC_copies
  | 3 => rkC_feed
  | 4 => rkC_puts
  | 5 => rkC_byteAt
  | 6 => rkC_isLetter
  | 7 => rkC_isDigit
  | 8 => rkC_steps0
  | 9 => rkC_letters
  | 10 => rkC_wrong
  | 11 => rkC_isGood
  | 12 => rkC_need
  | 13 => rkC_isCorners
  | 14 => rkC_isAnt
  | 15 => rkC_readsCorners
  | 16 => rkC_readsAnt
  | 17 => rkC_isBoard
  | 18 => rkC_board
  | 19 => rkC_fault
  | 20 => rkC_power
  | 21 => rkC_angles
  | 22 => rkC_classes
  | 23 => rkC_turns
  | 24 => rkC_spot
  | 25 => rkC_isHere
  | 26 => rkC_found
  | 27 => rkC_comes
  | 28 => rkC_rings
  | 29 => rkC_lays
  | 30 => rkC_isTile
  | 31 => rkC_isSide
  | 32 => rkC_count
  | 33 => rkC_corner
  | 34 => rkC_tile
  | 35 => rkC_across
  | 36 => rkC_names
  | 37 => rkC_name
  | 38 => rkC_ways
  | 39 => rkC_ring
  | 40 => rkC_divides
  | 41 => rkC_growth
  | 42 => rkC_walks0
  | 43 => rkC_isLong
  | 44 => rkC_walks
  | 45 => rkC_home
  | 46 => rkC_far
  | 47 => rkC_leads
  | 48 => rkC_walk
  | 49 => rkC_move
  | 50 => rkC_order
  | 51 => rkC_backOf
  | 52 => rkC_back
  | 53 => rkC_apart
  | 54 => rkC_side
  | 55 => rkC_lists
  | 56 => rkC_go
  | 57 => rkC_round
  | 58 => rkC_isRound
  | 59 => rkC_numbers
  | 60 => rkC_beside
  | 61 => rkC_isSmooth
  | 62 => rkC_takes
  | 63 => rkC_seeks
  | 64 => rkC_handles
  | 65 => rkC_isFirstBy
  | 66 => rkC_closed
  | 67 => rkC_first
  | 68 => rkC_goes
  | 69 => rkC_steps
  | 70 => rkC_ant
  | 71 => rkC_undo
  | 72 => rkC_redo
  | 73 => rkC_image
  | 74 => rkC_restore
  | _ + 75 => rfl
def rk_js : List Nat := List.range 75
def rk_Tf : List Cond := rk_pfl.map (fun e => Cond.fieldLink RX11 e.1 (TX11 e.2).1 (TX11 e.2).2.1 (TX11 e.2).2.2.1)
def rk_Tl : List Cond := rk_pll.map (fun e => Cond.constantLong RX11 e.1 e.2)
def rk_Ti : List Cond := rk_pil.map (fun e => Cond.constant RX11 e.1 e.2)
def rk_Tm : List Cond := rk_pml.map (fun e => Cond.methodLink RX11 e.1 (rk_my e.2))
def rk_Tc : List Cond := rk_js.map (fun j => Cond.code (rk_my j) (rk_mb j) (rk_ml j) (rk_mr j))
def rk_Tst : List Cond := (rk_js.filter (fun j => rk_ms j)).map (fun j => Cond.static (rk_my j))
def rk_Tin : List Cond := (rk_js.filter (fun j => !rk_ms j)).map (fun j => Cond.instanceMethod (rk_my j))
def rk_Tse : List Cond := (rk_js.filter (fun j => !rk_ms j)).map (fun j => Cond.selects (rk_my j).cls (rk_my j) (rk_my j))
/-- the words that the reference needs -/
def rk_Ts : List Cond := rk_Tf ++ (u_ws RX11 TX11 72 ++ (rk_Tl ++ (rk_Ti ++ (rk_Tm ++ (rk_Tc ++ (Cond.initialized RX11 :: (rk_Tst ++ (rk_Tin ++ rk_Tse))))))))
def rk_nf : Nat → Nat := fun _ => 72
def rk_ty : Nat → Nat → FieldType := fun _ => tyX11
def rk_cn : Nat → String := fun _ => RX11
theorem rk_c1 : rk_pfl.all (fun e => Nat.blt e.2 72 && (ij_tok (ij_nth 9 rk_ftl e.2) (tyX11 e.2) && (!(ij_nth false rk_fwl e.2) || !(TX11 e.2).2.2.2))) = true := by decide +kernel
theorem rk_c2 : rk_pml.all (fun e => Nat.blt e.2 75) = true := by decide +kernel
theorem rk_c3 : rk_js.all (fun j => decide ((parseMethodDescriptor (rk_my j).desc).map (fun d => d.parameters.length) = some (rk_mn j)) && (Nat.ble (rk_ml j) 40 && decide ((rk_my j).cls = RX11))) = true := by decide +kernel
set_option maxRecDepth 100000 in
theorem rk_good : rk_Ts.all goodWord = true := by decide +kernel
theorem rk_cls : ∀ j, (rk_my j).cls = RX11
  | 0 => rfl
  | 1 => rfl
  | 2 => rfl
  | 3 => rfl
  | 4 => rfl
  | 5 => rfl
  | 6 => rfl
  | 7 => rfl
  | 8 => rfl
  | 9 => rfl
  | 10 => rfl
  | 11 => rfl
  | 12 => rfl
  | 13 => rfl
  | 14 => rfl
  | 15 => rfl
  | 16 => rfl
  | 17 => rfl
  | 18 => rfl
  | 19 => rfl
  | 20 => rfl
  | 21 => rfl
  | 22 => rfl
  | 23 => rfl
  | 24 => rfl
  | 25 => rfl
  | 26 => rfl
  | 27 => rfl
  | 28 => rfl
  | 29 => rfl
  | 30 => rfl
  | 31 => rfl
  | 32 => rfl
  | 33 => rfl
  | 34 => rfl
  | 35 => rfl
  | 36 => rfl
  | 37 => rfl
  | 38 => rfl
  | 39 => rfl
  | 40 => rfl
  | 41 => rfl
  | 42 => rfl
  | 43 => rfl
  | 44 => rfl
  | 45 => rfl
  | 46 => rfl
  | 47 => rfl
  | 48 => rfl
  | 49 => rfl
  | 50 => rfl
  | 51 => rfl
  | 52 => rfl
  | 53 => rfl
  | 54 => rfl
  | 55 => rfl
  | 56 => rfl
  | 57 => rfl
  | 58 => rfl
  | 59 => rfl
  | 60 => rfl
  | 61 => rfl
  | 62 => rfl
  | 63 => rfl
  | 64 => rfl
  | 65 => rfl
  | 66 => rfl
  | 67 => rfl
  | 68 => rfl
  | 69 => rfl
  | 70 => rfl
  | 71 => rfl
  | 72 => rfl
  | 73 => rfl
  | 74 => rfl
  | _ + 75 => rfl
theorem rk_ok {cl : List vw_C} (hcl : cl[11]? = some (RX11, TX11, 72)) : ij_ok rk_P rk_Ts cl rk_nf rk_ty rk_cn rk_mb := by
  refine ⟨fun mi pc x h => ij_chk_ok (rk_chk mi) h, fun o i q h => ?_, fun o i v h => ?_, fun o i v h => ?_⟩
  · obtain ⟨k, hk, rfl⟩ := Option.map_eq_some_iff.mp h
    have hm := ij_look_mem hk
    have hc := List.all_eq_true.mp rk_c1 _ hm
    simp only [Bool.and_eq_true, Bool.or_eq_true, Bool.not_eq_true'] at hc
    obtain ⟨h1, h2, h3⟩ := hc
    have h1 : k < 72 := Nat.le_of_ble_eq_true h1
    refine ⟨RX11, TX11, hcl, h1, ?_, ?_, tyX11_ok, nmX11, ?_, h2⟩
    · exact List.mem_append_left _ (List.mem_map.mpr ⟨(i, k), hm, rfl⟩)
    · exact fun w hw => List.mem_append_right _ (List.mem_append_left _ hw)
    · intro hw
      rcases h3 with h3 | h3
      · have hw : ij_nth false rk_fwl k = true := hw
        rw [h3] at hw
        cases hw
      · exact h3
  · have hm := ij_look_mem h
    exact List.mem_append_right _ (List.mem_append_right _ (List.mem_append_left _ (List.mem_map.mpr ⟨(i, v), hm, rfl⟩)))
  · have hm := ij_look_mem h
    exact List.mem_append_right _ (List.mem_append_right _ (List.mem_append_right _ (List.mem_append_left _ (List.mem_map.mpr ⟨(i, v), hm, rfl⟩))))
theorem rk_okm {cl : List vw_C} (hcl : cl[11]? = some (RX11, TX11, 72)) : ij_okm rk_P rk_M rk_Ts cl rk_cn rk_my rk_mb := by
  refine ⟨fun w hw => List.all_eq_true.mp rk_good w hw, fun o i j h => ?_, fun mi x h => ⟨?_, (rk_cls mi).symm⟩⟩
  · have hm := ij_look_mem h
    have hj : j < 75 := Nat.le_of_ble_eq_true (List.all_eq_true.mp rk_c2 _ hm)
    have hjs : j ∈ rk_js := List.mem_range.mpr hj
    have hc := List.all_eq_true.mp rk_c3 _ hjs
    simp only [Bool.and_eq_true, decide_eq_true_eq] at hc
    obtain ⟨h1, h2, h3⟩ := hc
    refine ⟨?_, ?_, ?_, fun hs => ?_, fun hs => ⟨?_, ?_, _, hcl, h3.symm⟩, ⟨?_, ?_, h1⟩, Nat.le_of_ble_eq_true h2⟩
    · exact List.mem_append_right _ (List.mem_append_right _ (List.mem_append_right _ (List.mem_append_right _ (List.mem_append_left _ (List.mem_map.mpr ⟨(i, j), hm, rfl⟩)))))
    · exact List.mem_append_right _ (List.mem_append_right _ (List.mem_append_right _ (List.mem_append_right _ (List.mem_append_right _ (List.mem_append_left _ (List.mem_map.mpr ⟨j, hjs, rfl⟩))))))
    · rw [h3]
      exact List.mem_append_right _ (List.mem_append_right _ (List.mem_append_right _ (List.mem_append_right _ (List.mem_append_right _ (List.mem_append_right _ List.mem_cons_self)))))
    · exact List.mem_append_right _ (List.mem_append_right _ (List.mem_append_right _ (List.mem_append_right _ (List.mem_append_right _ (List.mem_append_right _ (List.mem_cons_of_mem _ (List.mem_append_left _ (List.mem_map.mpr ⟨j, List.mem_filter.mpr ⟨hjs, hs⟩, rfl⟩))))))))
    · exact List.mem_append_right _ (List.mem_append_right _ (List.mem_append_right _ (List.mem_append_right _ (List.mem_append_right _ (List.mem_append_right _ (List.mem_cons_of_mem _ (List.mem_append_right _ (List.mem_append_left _ (List.mem_map.mpr ⟨j, List.mem_filter.mpr ⟨hjs, by rw [show rk_ms j = false from hs]; rfl⟩, rfl⟩)))))))))
    · exact List.mem_append_right _ (List.mem_append_right _ (List.mem_append_right _ (List.mem_append_right _ (List.mem_append_right _ (List.mem_append_right _ (List.mem_cons_of_mem _ (List.mem_append_right _ (List.mem_append_right _ (List.mem_map.mpr ⟨j, List.mem_filter.mpr ⟨hjs, by rw [show rk_ms j = false from hs]; rfl⟩, rfl⟩)))))))))
    · rw [h3]; decide +kernel
    · rw [h3]; decide +kernel
  · rw [rk_cls]; decide +kernel
/-- every call of the reference's pure picture is a contract of the machine -/
theorem rk_met {l : Launch} {cl : List vw_C} (hcl : cl[11]? = some (RX11, TX11, 72)) {D : va_G} {cA : Nat → ClassId} {ad : Nat → Nat} {K : ij_Ks} {A : Nat → Prop} (d : Nat) : ij_known l rk_P rk_M rk_Ts cl rk_nf rk_my rk_mb D cA ad K A (ij_cr rk_P rk_M K (fun _ _ _ _ _ => False) d) d :=
  ij_met (rk_ok hcl) (rk_okm hcl) (fun _ _ _ _ _ _ h => h.elim) d
