/-! ===== what the tables say of the class ===== -/
def xk_Rn : Nat → String := fun c => match c with
  | 0 => RX0
  | 1 => RX1
  | 2 => RX2
  | 3 => RX3
  | 4 => RX4
  | 5 => RX5
  | 6 => RX6
  | 7 => RX7
  | 8 => RX8
  | 9 => RX9
  | _ => RX10
def xk_Tc : Nat → u_T := fun c => match c with
  | 0 => TX0
  | 1 => TX1
  | 2 => TX2
  | 3 => TX3
  | 4 => TX4
  | 5 => TX5
  | 6 => TX6
  | 7 => TX7
  | 8 => TX8
  | 9 => TX9
  | _ => TX10
def xk_ty : Nat → Nat → FieldType := fun c => match c with
  | 0 => tyX0
  | 1 => tyX1
  | 2 => tyX2
  | 3 => tyX3
  | 4 => tyX4
  | 5 => tyX5
  | 6 => tyX6
  | 7 => tyX7
  | 8 => tyX8
  | 9 => tyX9
  | _ => tyX10
def xk_cn : Nat → String := fun c => match c with
  | 0 => RX0
  | 1 => RX1
  | 2 => RX2
  | 3 => RX3
  | 4 => RX4
  | 5 => RX5
  | 6 => RX6
  | 7 => RX7
  | 8 => RX8
  | 9 => RX9
  | 20 => RJ7
  | 21 => RJ9
  | _ => RX10
theorem xk_chk : ∀ j, ij_chk (xk_mb j) (xk_tb j) = true
  | 0 => xkC_X0_beginAnew
  | 1 => xkC_X0_paintOn
  | 2 => xkC_X0_goOn
  | 3 => xkC_X0_goBack
  | 4 => xkC_X0_goAgain
  | 5 => xkC_X0_keep
  | 6 => xkC_X0_bringBack
  | 7 => xkC_X0_stepAhead
  | 8 => xkC_X0_turnOf
  | 9 => xkC_X1_begin
  | 10 => xkC_X1_choose
  | 11 => xkC_X1_rowOf
  | 12 => xkC_X1_lyingAcross
  | 13 => xkC_X1_forbiddenAt
  | 14 => xkC_X1_closesUp
  | 15 => xkC_X1_link
  | 16 => xkC_X1_hangsTogether
  | 17 => xkC_X1_isSmooth
  | 18 => xkC_X1_isNumberedAsMet
  | 19 => xkC_X1_ownLikenesses
  | 20 => xkC_X1_isLikeAsNoted
  | 21 => xkC_X1_handles
  | 22 => xkC_X1_noteSorts
  | 23 => xkC_X1_sortsLieApart
  | 24 => xkC_X1_groupOf
  | 25 => xkC_X1_setGroup
  | 26 => xkC_X1_note
  | 27 => xkC_X1_valueAt
  | 28 => xkC_X2_lay
  | 29 => xkC_X2_hasTile
  | 30 => xkC_X2_hasSide
  | 31 => xkC_X2_cornerBehind
  | 32 => xkC_X2_classOfSide
  | 33 => xkC_X2_beyond
  | 34 => xkC_X2_ringOfTile
  | 35 => xkC_X2_tilesOfRing
  | 36 => xkC_X2_waysTo
  | 37 => xkC_X2_isLesser
  | 38 => xkC_X2_lesserOf
  | 39 => xkC_X2_neighboursOf
  | 40 => xkC_X2_colourOf
  | 41 => xkC_X2_nameSide
  | 42 => xkC_X2_byName
  | 43 => xkC_X2_byNameFromEnd
  | 44 => xkC_X2_spell
  | 45 => xkC_X2_spelledAt
  | 46 => xkC_X2_sortClasses
  | 47 => xkC_X2_isOdd
  | 48 => xkC_X2_beginAtHome
  | 49 => xkC_X2_layRing
  | 50 => xkC_X2_takeBackRing
  | 51 => xkC_X2_numberBeyond
  | 52 => xkC_X2_addTile
  | 53 => xkC_X2_join
  | 54 => xkC_X2_setAcross
  | 55 => xkC_X2_joinRound
  | 56 => xkC_X3_read
  | 57 => xkC_X3_readCorners
  | 58 => xkC_X3_isFar
  | 59 => xkC_X3_antWithoutText
  | 60 => xkC_X3_readAnt
  | 61 => xkC_X3_takeToken
  | 62 => xkC_X3_takeWord
  | 63 => xkC_X3_takeNumber
  | 64 => xkC_X3_isWord
  | 65 => xkC_X3_isBlank
  | 66 => xkC_X3_isLetter
  | 67 => xkC_X3_isDigit
  | 68 => xkC_X4_list
  | 69 => xkC_X4_numberAt
  | 70 => xkC_X4_lapsOf
  | 71 => xkC_X4_leavesAlone
  | 72 => xkC_X4_pairUp
  | 73 => xkC_X4_partnerOf
  | 74 => xkC_X4_setPartners
  | 75 => xkC_X4_writeRow
  | 76 => xkC_X4_setLaps
  | 77 => xkC_X4_lap
  | 78 => xkC_X5_forget
  | 79 => xkC_X5_answer
  | 80 => xkC_X5_hasFirst
  | 81 => xkC_X5_firstAcross
  | 82 => xkC_X5_firstPlace
  | 83 => xkC_X5_makeKnown
  | 84 => xkC_X5_reckonTries
  | 85 => xkC_X5_draftsWith
  | 86 => xkC_X5_seek
  | 87 => xkC_X5_weigh
  | 88 => xkC_X5_keepFirst
  | 89 => xkC_X5_setAnswer
  | 90 => xkC_X6_term
  | 91 => xkC_X6_reckon
  | 92 => xkC_X6_beginDivisor
  | 93 => xkC_X6_addCorner
  | 94 => xkC_X6_dividePartByOnes
  | 95 => xkC_X6_divide
  | 96 => xkC_X7_clear
  | 97 => xkC_X7_copyFrom
  | 98 => xkC_X7_paintOn
  | 99 => xkC_X7_setPaint
  | 100 => xkC_X8_hasRoom
  | 101 => xkC_X8_put
  | 102 => xkC_X8_byteAt
  | 103 => xkC_X9_forget
  | 104 => xkC_X9_endingAt
  | 105 => xkC_X9_comingHome
  | 106 => xkC_X9_ringsTogether
  | 107 => xkC_X9_allWalks
  | 108 => xkC_X9_endsAt
  | 109 => xkC_X9_walkTo
  | 110 => xkC_X9_walkOneMore
  | 111 => xkC_X10_feed
  | 112 => xkC_X10_board
  | 113 => xkC_X10_fault
  | 114 => xkC_X10_count
  | 115 => xkC_X10_corner
  | 116 => xkC_X10_tile
  | 117 => xkC_X10_across
  | 118 => xkC_X10_name
  | 119 => xkC_X10_ways
  | 120 => xkC_X10_ring
  | 121 => xkC_X10_growth
  | 122 => xkC_X10_walks
  | 123 => xkC_X10_home
  | 124 => xkC_X10_far
  | 125 => xkC_X10_walk
  | 126 => xkC_X10_move
  | 127 => xkC_X10_order
  | 128 => xkC_X10_back
  | 129 => xkC_X10_apart
  | 130 => xkC_X10_side
  | 131 => xkC_X10_closed
  | 132 => xkC_X10_first
  | 133 => xkC_X10_steps
  | 134 => xkC_X10_ant
  | 135 => xkC_X10_undo
  | 136 => xkC_X10_redo
  | 137 => xkC_X10_image
  | 138 => xkC_X10_restore
  | 139 => xkC_X10_layAnew
  | 140 => xkC_X10_countedChange
  | 141 => xkC_X10_needTile
  | 142 => xkC_X10_needSide
  | 143 => xkC_X10_needWalkSteps
  | 144 => xkC_X10_needClosedSize
  | 145 => xkC_X10_figure
  | 146 => xkC_X10_commonDivisor
  | 147 => xkC_X10_modulo
  | 148 => xkC_J9_floorMod_7cf53
  | 149 => xkC_J9_min_7cf53
  | 150 => xkC_J7_fill_53178
  | 151 => xkC_J7_fill_d0a16
  | 152 => xkC_X0_init
  | 153 => xkC_X1_init
  | 154 => xkC_X2_init
  | 155 => xkC_X3_init
  | 156 => xkC_X4_init
  | 157 => xkC_X5_init
  | 158 => xkC_X6_init
  | 159 => xkC_X7_init
  | 160 => xkC_X8_init
  | 161 => xkC_X9_init
  | 162 => xkC_X10_init
  | _ + 163 => rfl
theorem xk_tyok : ∀ c, c < 11 → ∀ k, k < xk_nf c → parseFieldDescriptor (xk_Tc c k).2.2.1 = some (xk_ty c k)
  | 0, _ => tyX0_ok
  | 1, _ => tyX1_ok
  | 2, _ => tyX2_ok
  | 3, _ => tyX3_ok
  | 4, _ => tyX4_ok
  | 5, _ => tyX5_ok
  | 6, _ => tyX6_ok
  | 7, _ => tyX7_ok
  | 8, _ => tyX8_ok
  | 9, _ => tyX9_ok
  | 10, _ => tyX10_ok
  | c + 11, h => absurd h (by omega)
theorem xk_nm : ∀ c, c < 11 → ∀ a, a < xk_nf c → ∀ b, b < xk_nf c → a ≠ b → (xk_Tc c a).2.1 ≠ (xk_Tc c b).2.1
  | 0, _ => nmX0
  | 1, _ => nmX1
  | 2, _ => nmX2
  | 3, _ => nmX3
  | 4, _ => nmX4
  | 5, _ => nmX5
  | 6, _ => nmX6
  | 7, _ => nmX7
  | 8, _ => nmX8
  | 9, _ => nmX9
  | 10, _ => nmX10
  | c + 11, h => absurd h (by omega)
def xk_js : List Nat := List.range 163
def xk_cs : List Nat := List.range 11
def xk_Tf : List Cond := xk_pfl.map (fun e => Cond.fieldLink (xk_cn (e.1 / 65536)) (e.1 % 65536) (xk_Tc e.2.1 e.2.2).1 (xk_Tc e.2.1 e.2.2).2.1 (xk_Tc e.2.1 e.2.2).2.2.1)
def xk_Tw : List Cond := xk_cs.flatMap (fun c => u_ws (xk_Rn c) (xk_Tc c) (xk_nf c))
def xk_Tl : List Cond := xk_pll.map (fun e => Cond.constantLong (xk_cn (e.1 / 65536)) (e.1 % 65536) e.2)
def xk_Ti : List Cond := xk_pil.map (fun e => Cond.constant (xk_cn (e.1 / 65536)) (e.1 % 65536) e.2)
def xk_Tm : List Cond := xk_pml.map (fun e => Cond.methodLink (xk_cn (e.1 / 65536)) (e.1 % 65536) (xk_my e.2))
def xk_Tk : List Cond := xk_js.map (fun j => Cond.code (xk_my j) (xk_mb j) (xk_ml j) (xk_mr j))
def xk_Tn : List Cond := xk_js.map (fun j => Cond.initialized (xk_my j).cls)
def xk_Tst : List Cond := (xk_js.filter (fun j => xk_ms j)).map (fun j => Cond.static (xk_my j))
def xk_Tin : List Cond := (xk_js.filter (fun j => !xk_ms j)).map (fun j => Cond.instanceMethod (xk_my j))
def xk_jv : List Nat := (xk_js.filter (fun j => !xk_ms j)).filter (fun j => Nat.blt j 152)
def xk_Tse : List Cond := xk_jv.map (fun j => Cond.selects (xk_my j).cls (xk_my j) (xk_my j))
def xk_Tcp : List Cond := xk_cpl.map (fun e => Cond.methodLink (xk_cn (e.1 / 65536)) (e.1 % 65536) arraycopyName) ++ [Cond.native arraycopyName, .static arraycopyName, .initialized "java/lang/System"]
/-- the words that the class's methods need, but for making objects and throwing -/
def xk_Ts : List Cond := xk_Tf ++ (xk_Tw ++ (xk_Tl ++ (xk_Ti ++ (xk_Tm ++ (xk_Tk ++ (xk_Tn ++ (xk_Tst ++ (xk_Tin ++ (xk_Tse ++ xk_Tcp)))))))))
theorem xk_c1 : xk_pfl.all (fun e => Nat.blt e.2.1 11 && (Nat.blt e.2.2 (xk_nf e.2.1) && (ij_tok (ij_ft xk_P e.2.1 e.2.2) (xk_ty e.2.1 e.2.2) && (!(ij_fw xk_P e.2.1 e.2.2) || !(xk_Tc e.2.1 e.2.2).2.2.2)))) = true := by decide +kernel
theorem xk_c2 : xk_pml.all (fun e => Nat.blt e.2 152) = true := by decide +kernel
theorem xk_c3 : xk_js.all (fun j => decide ((parseMethodDescriptor (xk_my j).desc).map (fun d => d.parameters.length) = some (xk_mn j)) && (Nat.ble (xk_ml j) 40 && (decide ((xk_my j).cls = xk_cn (xk_mo j)) && (decide ((xk_my j).cls ≠ "java/lang/invoke/MethodHandle") && (decide ((xk_my j).cls ≠ "java/lang/invoke/VarHandle") && (plainFor (xk_my j) && (xk_ms j || (Nat.blt (xk_mo j) 11 && decide (xk_Rn (xk_mo j) = (xk_my j).cls))))))))) = true := by decide +kernel
theorem xk_c4 : xk_nel.all (fun e => Nat.blt e.2 163 && xk_ms e.2) = true := by decide +kernel
set_option maxRecDepth 100000 in
theorem xk_good : xk_Ts.all goodWord = true := by decide +kernel
theorem xk_tb_nil : ∀ j, 163 ≤ j → xk_tb j = [] := by
  intro j hj
  obtain ⟨i, rfl⟩ : ∃ i, j = i + 163 := ⟨j - 163, by omega⟩
  rfl
theorem xk_key {o i : Nat} (hi : i < 65536) : (o * 65536 + i) / 65536 = o ∧ (o * 65536 + i) % 65536 = i := by omega
theorem xk_lk_mem {α : Type} {l : List (Nat × α)} {o i : Nat} {x : α} (h : xk_lk l o i = some x) : i < 65536 ∧ (o * 65536 + i, x) ∈ l := by
  unfold xk_lk at h
  cases hb : Nat.blt i 65536 with
  | true =>
    rw [hb] at h
    exact ⟨Nat.le_of_ble_eq_true hb, ij_look_mem h⟩
  | false =>
    rw [hb] at h
    cases h
theorem xk_ok {cl : List vw_C} (hcl : ∀ c, c < 11 → cl[c]? = some (xk_Rn c, xk_Tc c, xk_nf c)) {Ts : List Cond} (hT : ∀ w ∈ xk_Ts, w ∈ Ts) : ij_ok xk_P Ts cl xk_nf xk_ty xk_cn xk_mb := by
  refine ⟨fun mi pc x h => ij_chk_ok (xk_chk mi) h, fun o i q h => ?_, fun o i v h => ?_, fun o i v h => ?_⟩
  · obtain ⟨hi, hm⟩ := xk_lk_mem h
    obtain ⟨e1, e2⟩ := xk_key (o := o) hi
    have hc := List.all_eq_true.mp xk_c1 _ hm
    simp only [Bool.and_eq_true, Bool.or_eq_true, Bool.not_eq_true'] at hc
    obtain ⟨h1, h2, h3, h4⟩ := hc
    have h1 : q.1 < 11 := Nat.le_of_ble_eq_true h1
    have h2 : q.2 < xk_nf q.1 := Nat.le_of_ble_eq_true h2
    refine ⟨xk_Rn q.1, xk_Tc q.1, hcl _ h1, h2, ?_, ?_, xk_tyok _ h1, xk_nm _ h1, ?_, h3⟩
    · have hw : Cond.fieldLink (xk_cn ((o * 65536 + i) / 65536)) ((o * 65536 + i) % 65536) (xk_Tc q.1 q.2).1 (xk_Tc q.1 q.2).2.1 (xk_Tc q.1 q.2).2.2.1 ∈ xk_Tf := List.mem_map.mpr ⟨_, hm, rfl⟩
      rw [e1, e2] at hw
      exact hT _ (List.mem_append_left _ (hw))
    · exact fun w hw => hT _ (List.mem_append_right _ (List.mem_append_left _ (List.mem_flatMap.mpr ⟨q.1, List.mem_range.mpr h1, hw⟩)))
    · intro hw
      rcases h4 with h4 | h4
      · rw [show ij_fw xk_P q.1 q.2 = false from h4] at hw
        cases hw
      · exact h4
  · obtain ⟨hi, hm⟩ := xk_lk_mem h
    obtain ⟨e1, e2⟩ := xk_key (o := o) hi
    have hw : Cond.constantLong (xk_cn ((o * 65536 + i) / 65536)) ((o * 65536 + i) % 65536) v ∈ xk_Tl := List.mem_map.mpr ⟨_, hm, rfl⟩
    rw [e1, e2] at hw
    exact hT _ (List.mem_append_right _ (List.mem_append_right _ (List.mem_append_left _ (hw))))
  · obtain ⟨hi, hm⟩ := xk_lk_mem h
    obtain ⟨e1, e2⟩ := xk_key (o := o) hi
    have hw : Cond.constant (xk_cn ((o * 65536 + i) / 65536)) ((o * 65536 + i) % 65536) v ∈ xk_Ti := List.mem_map.mpr ⟨_, hm, rfl⟩
    rw [e1, e2] at hw
    exact hT _ (List.mem_append_right _ (List.mem_append_right _ (List.mem_append_right _ (List.mem_append_left _ (hw)))))
theorem xk_j {j : Nat} (hj : j < 163) : (parseMethodDescriptor (xk_my j).desc).map (fun d => d.parameters.length) = some (xk_mn j) ∧ xk_ml j ≤ 40 ∧ (xk_my j).cls = xk_cn (xk_mo j) ∧ (xk_my j).cls ≠ "java/lang/invoke/MethodHandle" ∧ (xk_my j).cls ≠ "java/lang/invoke/VarHandle" ∧ plainFor (xk_my j) = true ∧ (xk_ms j = true ∨ (xk_mo j < 11 ∧ xk_Rn (xk_mo j) = (xk_my j).cls)) := by
  have hc := List.all_eq_true.mp xk_c3 j (List.mem_range.mpr hj)
  simp only [Bool.and_eq_true, Bool.or_eq_true, decide_eq_true_eq] at hc
  obtain ⟨h1, h2, h3, h4, h5, h6, h7⟩ := hc
  exact ⟨h1, Nat.le_of_ble_eq_true h2, h3, h4, h5, h6, h7.imp id (fun q => ⟨Nat.le_of_ble_eq_true q.1, q.2⟩)⟩
theorem xk_okm {cl : List vw_C} (hcl : ∀ c, c < 11 → cl[c]? = some (xk_Rn c, xk_Tc c, xk_nf c)) {Ts : List Cond} (hT : ∀ w ∈ xk_Ts, w ∈ Ts) (hgood : ∀ w ∈ Ts, goodWord w = true) {N : State → Prop} {ad : Nat → Nat}
    (hne : ∀ e ∈ xk_nel, ∀ s, N s → va_Nw (.methodLinkNest (xk_cn (e.1 / 65536)) (e.1 % 65536) (xk_my e.2) RX10) s) (hsl : ∀ e ∈ xk_sll, ∀ s, N s → ∃ tx, vk_R (xk_cn (e.1 / 65536)) (e.1 % 65536) tx (ad e.2) s) : ik_okm xk_P xk_M xk_Y N ad Ts cl xk_cn xk_my xk_mb := by
  refine ⟨hgood, fun o i j h => ?_, fun mi x h => ?_, fun o i j h => ?_, fun o i h => ?_, fun o i pl h s hs => ?_⟩
  · obtain ⟨hi, hm⟩ := xk_lk_mem h
    obtain ⟨e1, e2⟩ := xk_key (o := o) hi
    have hj0 : j < 152 := Nat.le_of_ble_eq_true (List.all_eq_true.mp xk_c2 _ hm)
    have hj : j < 163 := by omega
    have hjs : j ∈ xk_js := List.mem_range.mpr hj
    obtain ⟨g1, g2, g3, g4, g5, g6, g7⟩ := xk_j hj
    have hw : Cond.methodLink (xk_cn ((o * 65536 + i) / 65536)) ((o * 65536 + i) % 65536) (xk_my j) ∈ xk_Tm := List.mem_map.mpr ⟨_, hm, rfl⟩
    rw [e1, e2] at hw
    refine ⟨hT _ (List.mem_append_right _ (List.mem_append_right _ (List.mem_append_right _ (List.mem_append_right _ (List.mem_append_left _ (hw)))))), hT _ (List.mem_append_right _ (List.mem_append_right _ (List.mem_append_right _ (List.mem_append_right _ (List.mem_append_right _ (List.mem_append_left _ (List.mem_map.mpr ⟨j, hjs, rfl⟩))))))), hT _ (List.mem_append_right _ (List.mem_append_right _ (List.mem_append_right _ (List.mem_append_right _ (List.mem_append_right _ (List.mem_append_right _ (List.mem_append_left _ (List.mem_map.mpr ⟨j, hjs, rfl⟩)))))))), fun hs => hT _ (List.mem_append_right _ (List.mem_append_right _ (List.mem_append_right _ (List.mem_append_right _ (List.mem_append_right _ (List.mem_append_right _ (List.mem_append_right _ (List.mem_append_left _ (List.mem_map.mpr ⟨j, List.mem_filter.mpr ⟨hjs, hs⟩, rfl⟩))))))))), fun hs => ⟨hT _ (List.mem_append_right _ (List.mem_append_right _ (List.mem_append_right _ (List.mem_append_right _ (List.mem_append_right _ (List.mem_append_right _ (List.mem_append_right _ (List.mem_append_right _ (List.mem_append_left _ (List.mem_map.mpr ⟨j, List.mem_filter.mpr ⟨hjs, by rw [show xk_ms j = false from hs]; rfl⟩, rfl⟩)))))))))), hT _ (List.mem_append_right _ (List.mem_append_right _ (List.mem_append_right _ (List.mem_append_right _ (List.mem_append_right _ (List.mem_append_right _ (List.mem_append_right _ (List.mem_append_right _ (List.mem_append_right _ (List.mem_append_left _ (List.mem_map.mpr ⟨j, List.mem_filter.mpr ⟨List.mem_filter.mpr ⟨hjs, by rw [show xk_ms j = false from hs]; rfl⟩, Nat.ble_eq_true_of_le hj0⟩, rfl⟩))))))))))), ?_⟩, ⟨g4, g5, g1⟩, g2⟩
    rcases g7 with g7 | g7
    · rw [show xk_ms j = false from hs] at g7
      cases g7
    · exact ⟨_, hcl _ g7.1, g7.2⟩
  · have hj : mi < 163 := by
      refine Decidable.byContradiction (fun hn => ?_)
      have h9 : ij_look (xk_tb mi) 0 = some x := h
      rw [xk_tb_nil mi (by omega)] at h9
      cases h9
    obtain ⟨g1, g2, g3, g4, g5, g6, g7⟩ := xk_j hj
    exact ⟨g6, g3.symm⟩
  · obtain ⟨hi, hm⟩ := xk_lk_mem h
    obtain ⟨e1, e2⟩ := xk_key (o := o) hi
    have hc := List.all_eq_true.mp xk_c4 _ hm
    simp only [Bool.and_eq_true] at hc
    have hj : j < 163 := Nat.le_of_ble_eq_true hc.1
    have hjs : j ∈ xk_js := List.mem_range.mpr hj
    have hs : xk_ms j = true := hc.2
    obtain ⟨g1, g2, g3, g4, g5, g6, g7⟩ := xk_j hj
    refine ⟨⟨RX10, fun s hs => ?_⟩, hT _ (List.mem_append_right _ (List.mem_append_right _ (List.mem_append_right _ (List.mem_append_right _ (List.mem_append_right _ (List.mem_append_left _ (List.mem_map.mpr ⟨j, hjs, rfl⟩))))))), hT _ (List.mem_append_right _ (List.mem_append_right _ (List.mem_append_right _ (List.mem_append_right _ (List.mem_append_right _ (List.mem_append_right _ (List.mem_append_left _ (List.mem_map.mpr ⟨j, hjs, rfl⟩)))))))), hT _ (List.mem_append_right _ (List.mem_append_right _ (List.mem_append_right _ (List.mem_append_right _ (List.mem_append_right _ (List.mem_append_right _ (List.mem_append_right _ (List.mem_append_left _ (List.mem_map.mpr ⟨j, List.mem_filter.mpr ⟨hjs, hs⟩, rfl⟩))))))))), ⟨g4, g5, g1⟩, g2⟩
    have := hne _ hm s hs
    rw [e1, e2] at this
    exact this
  · have h9 : (xk_lk xk_cpl o i).getD false = true := h
    cases hx : xk_lk xk_cpl o i with
    | none => rw [hx] at h9; cases h9
    | some b =>
      obtain ⟨hi, hm⟩ := xk_lk_mem hx
      obtain ⟨e1, e2⟩ := xk_key (o := o) hi
      have hw : Cond.methodLink (xk_cn ((o * 65536 + i) / 65536)) ((o * 65536 + i) % 65536) arraycopyName ∈ xk_cpl.map (fun e => Cond.methodLink (xk_cn (e.1 / 65536)) (e.1 % 65536) arraycopyName) := List.mem_map.mpr ⟨_, hm, rfl⟩
      rw [e1, e2] at hw
      exact ⟨hT _ (List.mem_append_right _ (List.mem_append_right _ (List.mem_append_right _ (List.mem_append_right _ (List.mem_append_right _ (List.mem_append_right _ (List.mem_append_right _ (List.mem_append_right _ (List.mem_append_right _ (List.mem_append_right _ (List.mem_append_left _ hw))))))))))), hT _ (List.mem_append_right _ (List.mem_append_right _ (List.mem_append_right _ (List.mem_append_right _ (List.mem_append_right _ (List.mem_append_right _ (List.mem_append_right _ (List.mem_append_right _ (List.mem_append_right _ (List.mem_append_right _ (List.mem_append_right _ List.mem_cons_self))))))))))), hT _ (List.mem_append_right _ (List.mem_append_right _ (List.mem_append_right _ (List.mem_append_right _ (List.mem_append_right _ (List.mem_append_right _ (List.mem_append_right _ (List.mem_append_right _ (List.mem_append_right _ (List.mem_append_right _ (List.mem_append_right _ (List.mem_cons_of_mem _ List.mem_cons_self)))))))))))), hT _ (List.mem_append_right _ (List.mem_append_right _ (List.mem_append_right _ (List.mem_append_right _ (List.mem_append_right _ (List.mem_append_right _ (List.mem_append_right _ (List.mem_append_right _ (List.mem_append_right _ (List.mem_append_right _ (List.mem_append_right _ (List.mem_cons_of_mem _ (List.mem_cons_of_mem _ List.mem_cons_self)))))))))))))⟩
  · obtain ⟨hi, hm⟩ := xk_lk_mem h
    obtain ⟨e1, e2⟩ := xk_key (o := o) hi
    have := hsl _ hm s hs
    rw [e1, e2] at this
    exact this
/-- every call of the class's pure picture that throws nothing is a contract of the machine; X: isWord, forbiddenAt -/
theorem xk_met {l : Launch} {cl : List vw_C} (hcl : ∀ c, c < 11 → cl[c]? = some (xk_Rn c, xk_Tc c, xk_nf c)) {Ts : List Cond} (hT : ∀ w ∈ xk_Ts, w ∈ Ts) (hgood : ∀ w ∈ Ts, goodWord w = true) {N : State → Prop} {ad : Nat → Nat}
    (hne : ∀ e ∈ xk_nel, ∀ s, N s → va_Nw (.methodLinkNest (xk_cn (e.1 / 65536)) (e.1 % 65536) (xk_my e.2) RX10) s) (hsl : ∀ e ∈ xk_sll, ∀ s, N s → ∃ tx, vk_R (xk_cn (e.1 / 65536)) (e.1 % 65536) tx (ad e.2) s)
    {D : va_G} {cA : Nat → ClassId} {K : ij_Ks} {A : Nat → Prop} (hst : ik_stays N A) {X : ij_R} (hX : ∀ d, ik_known N l xk_P xk_M Ts cl xk_nf xk_my xk_mb D cA ad K A X (d + 1)) (d : Nat) : ik_known N l xk_P xk_M Ts cl xk_nf xk_my xk_mb D cA ad K A (ik_cr xk_P xk_M xk_Y K X d) d :=
  ik_met hst (xk_ok hcl hT) (xk_okm hcl hT hgood hne hsl) hX d
