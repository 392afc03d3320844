/-! ===== the JDK's own String.length and charAt, over the class's two String constants ===== -/
def RJ0 : String := "java/lang/String"
def RJ1 : String := "java/lang/StringLatin1"
def RJ3 : String := "jdk/internal/util/Preconditions"
abbrev cJ0_length_8abf5 : ByteArray := prog_21_method_54_code
def yJ0_length_8abf5 : MethodName := ⟨RJ0, "length", "()I"⟩
theorem dJ0_length_8abf5_0 : decode cJ0_length_8abf5 0 = .ok (.aload_n 0, 1) := by decide +kernel
theorem dJ0_length_8abf5_1 : decode cJ0_length_8abf5 1 = .ok (.getfield 9, 3) := by decide +kernel
theorem dJ0_length_8abf5_4 : decode cJ0_length_8abf5 4 = .ok (.arraylength, 1) := by decide +kernel
theorem dJ0_length_8abf5_5 : decode cJ0_length_8abf5 5 = .ok (.aload_n 0, 1) := by decide +kernel
theorem dJ0_length_8abf5_6 : decode cJ0_length_8abf5 6 = .ok (.invokevirtual 335, 3) := by decide +kernel
theorem dJ0_length_8abf5_9 : decode cJ0_length_8abf5 9 = .ok (.ishr, 1) := by decide +kernel
theorem dJ0_length_8abf5_10 : decode cJ0_length_8abf5 10 = .ok (.ireturn, 1) := by decide +kernel
abbrev cJ0_coder_7d493 : ByteArray := prog_21_method_152_code
def yJ0_coder_7d493 : MethodName := ⟨RJ0, "coder", "()B"⟩
theorem dJ0_coder_7d493_0 : decode cJ0_coder_7d493 0 = .ok (.getstatic 38, 3) := by decide +kernel
theorem dJ0_coder_7d493_3 : decode cJ0_coder_7d493 3 = .ok (.ifCond .eq 10, 3) := by decide +kernel
theorem dJ0_coder_7d493_6 : decode cJ0_coder_7d493 6 = .ok (.aload_n 0, 1) := by decide +kernel
theorem dJ0_coder_7d493_7 : decode cJ0_coder_7d493 7 = .ok (.getfield 15, 3) := by decide +kernel
theorem dJ0_coder_7d493_10 : decode cJ0_coder_7d493 10 = .ok (.goto 4, 3) := by decide +kernel
theorem dJ0_coder_7d493_13 : decode cJ0_coder_7d493 13 = .ok (.iconst 1, 1) := by decide +kernel
theorem dJ0_coder_7d493_14 : decode cJ0_coder_7d493 14 = .ok (.ireturn, 1) := by decide +kernel
abbrev cJ0_charAt_5068e : ByteArray := prog_21_method_56_code
def yJ0_charAt_5068e : MethodName := ⟨RJ0, "charAt", "(I)C"⟩
theorem dJ0_charAt_5068e_0 : decode cJ0_charAt_5068e 0 = .ok (.aload_n 0, 1) := by decide +kernel
theorem dJ0_charAt_5068e_1 : decode cJ0_charAt_5068e 1 = .ok (.invokevirtual 492, 3) := by decide +kernel
theorem dJ0_charAt_5068e_4 : decode cJ0_charAt_5068e 4 = .ok (.ifCond .eq 12, 3) := by decide +kernel
theorem dJ0_charAt_5068e_7 : decode cJ0_charAt_5068e 7 = .ok (.aload_n 0, 1) := by decide +kernel
theorem dJ0_charAt_5068e_8 : decode cJ0_charAt_5068e 8 = .ok (.getfield 9, 3) := by decide +kernel
theorem dJ0_charAt_5068e_11 : decode cJ0_charAt_5068e 11 = .ok (.iload_n 1, 1) := by decide +kernel
theorem dJ0_charAt_5068e_12 : decode cJ0_charAt_5068e 12 = .ok (.invokestatic 495, 3) := by decide +kernel
theorem dJ0_charAt_5068e_15 : decode cJ0_charAt_5068e 15 = .ok (.ireturn, 1) := by decide +kernel
theorem dJ0_charAt_5068e_16 : decode cJ0_charAt_5068e 16 = .ok (.aload_n 0, 1) := by decide +kernel
theorem dJ0_charAt_5068e_17 : decode cJ0_charAt_5068e 17 = .ok (.getfield 9, 3) := by decide +kernel
theorem dJ0_charAt_5068e_20 : decode cJ0_charAt_5068e 20 = .ok (.iload_n 1, 1) := by decide +kernel
theorem dJ0_charAt_5068e_21 : decode cJ0_charAt_5068e 21 = .ok (.invokestatic 498, 3) := by decide +kernel
theorem dJ0_charAt_5068e_24 : decode cJ0_charAt_5068e 24 = .ok (.ireturn, 1) := by decide +kernel
abbrev cJ0_isLatin1_aae02 : ByteArray := prog_21_method_154_code
def yJ0_isLatin1_aae02 : MethodName := ⟨RJ0, "isLatin1", "()Z"⟩
theorem dJ0_isLatin1_aae02_0 : decode cJ0_isLatin1_aae02 0 = .ok (.getstatic 38, 3) := by decide +kernel
theorem dJ0_isLatin1_aae02_3 : decode cJ0_isLatin1_aae02 3 = .ok (.ifCond .eq 14, 3) := by decide +kernel
theorem dJ0_isLatin1_aae02_6 : decode cJ0_isLatin1_aae02 6 = .ok (.aload_n 0, 1) := by decide +kernel
theorem dJ0_isLatin1_aae02_7 : decode cJ0_isLatin1_aae02 7 = .ok (.getfield 15, 3) := by decide +kernel
theorem dJ0_isLatin1_aae02_10 : decode cJ0_isLatin1_aae02 10 = .ok (.ifCond .ne 7, 3) := by decide +kernel
theorem dJ0_isLatin1_aae02_13 : decode cJ0_isLatin1_aae02 13 = .ok (.iconst 1, 1) := by decide +kernel
theorem dJ0_isLatin1_aae02_14 : decode cJ0_isLatin1_aae02 14 = .ok (.goto 4, 3) := by decide +kernel
theorem dJ0_isLatin1_aae02_17 : decode cJ0_isLatin1_aae02 17 = .ok (.iconst 0, 1) := by decide +kernel
theorem dJ0_isLatin1_aae02_18 : decode cJ0_isLatin1_aae02 18 = .ok (.ireturn, 1) := by decide +kernel
abbrev cJ0_checkIndex_df160 : ByteArray := prog_21_method_155_code
def yJ0_checkIndex_df160 : MethodName := ⟨RJ0, "checkIndex", "(II)V"⟩
theorem dJ0_checkIndex_df160_0 : decode cJ0_checkIndex_df160 0 = .ok (.iload_n 0, 1) := by decide +kernel
theorem dJ0_checkIndex_df160_1 : decode cJ0_checkIndex_df160 1 = .ok (.iload_n 1, 1) := by decide +kernel
theorem dJ0_checkIndex_df160_2 : decode cJ0_checkIndex_df160 2 = .ok (.getstatic 1053, 3) := by decide +kernel
theorem dJ0_checkIndex_df160_5 : decode cJ0_checkIndex_df160 5 = .ok (.invokestatic 1059, 3) := by decide +kernel
theorem dJ0_checkIndex_df160_8 : decode cJ0_checkIndex_df160 8 = .ok (.pop, 1) := by decide +kernel
theorem dJ0_checkIndex_df160_9 : decode cJ0_checkIndex_df160 9 = .ok (.return_, 1) := by decide +kernel
abbrev cJ1_charAt_3b067 : ByteArray := prog_22_method_2_code
def yJ1_charAt_3b067 : MethodName := ⟨RJ1, "charAt", "([BI)C"⟩
theorem dJ1_charAt_3b067_0 : decode cJ1_charAt_3b067 0 = .ok (.iload_n 1, 1) := by decide +kernel
theorem dJ1_charAt_3b067_1 : decode cJ1_charAt_3b067 1 = .ok (.aload_n 0, 1) := by decide +kernel
theorem dJ1_charAt_3b067_2 : decode cJ1_charAt_3b067 2 = .ok (.arraylength, 1) := by decide +kernel
theorem dJ1_charAt_3b067_3 : decode cJ1_charAt_3b067 3 = .ok (.invokestatic 9, 3) := by decide +kernel
theorem dJ1_charAt_3b067_6 : decode cJ1_charAt_3b067 6 = .ok (.aload_n 0, 1) := by decide +kernel
theorem dJ1_charAt_3b067_7 : decode cJ1_charAt_3b067 7 = .ok (.iload_n 1, 1) := by decide +kernel
theorem dJ1_charAt_3b067_8 : decode cJ1_charAt_3b067 8 = .ok (.baload, 1) := by decide +kernel
theorem dJ1_charAt_3b067_9 : decode cJ1_charAt_3b067 9 = .ok (.sipush 255, 3) := by decide +kernel
theorem dJ1_charAt_3b067_12 : decode cJ1_charAt_3b067 12 = .ok (.iand, 1) := by decide +kernel
theorem dJ1_charAt_3b067_13 : decode cJ1_charAt_3b067 13 = .ok (.i2c, 1) := by decide +kernel
theorem dJ1_charAt_3b067_14 : decode cJ1_charAt_3b067 14 = .ok (.ireturn, 1) := by decide +kernel
abbrev cJ3_checkIndex_8e157 : ByteArray := prog_30_method_11_code
def yJ3_checkIndex_8e157 : MethodName := ⟨RJ3, "checkIndex", "(IILjava/util/function/BiFunction;)I"⟩
theorem dJ3_checkIndex_8e157_0 : decode cJ3_checkIndex_8e157 0 = .ok (.iload_n 0, 1) := by decide +kernel
theorem dJ3_checkIndex_8e157_1 : decode cJ3_checkIndex_8e157 1 = .ok (.ifCond .lt 8, 3) := by decide +kernel
theorem dJ3_checkIndex_8e157_4 : decode cJ3_checkIndex_8e157 4 = .ok (.iload_n 0, 1) := by decide +kernel
theorem dJ3_checkIndex_8e157_5 : decode cJ3_checkIndex_8e157 5 = .ok (.iload_n 1, 1) := by decide +kernel
theorem dJ3_checkIndex_8e157_6 : decode cJ3_checkIndex_8e157 6 = .ok (.if_icmp .lt 10, 3) := by decide +kernel
theorem dJ3_checkIndex_8e157_9 : decode cJ3_checkIndex_8e157 9 = .ok (.aload_n 2, 1) := by decide +kernel
theorem dJ3_checkIndex_8e157_10 : decode cJ3_checkIndex_8e157 10 = .ok (.iload_n 0, 1) := by decide +kernel
theorem dJ3_checkIndex_8e157_11 : decode cJ3_checkIndex_8e157 11 = .ok (.iload_n 1, 1) := by decide +kernel
theorem dJ3_checkIndex_8e157_12 : decode cJ3_checkIndex_8e157 12 = .ok (.invokestatic 95, 3) := by decide +kernel
theorem dJ3_checkIndex_8e157_15 : decode cJ3_checkIndex_8e157 15 = .ok (.athrow, 1) := by decide +kernel
theorem dJ3_checkIndex_8e157_16 : decode cJ3_checkIndex_8e157 16 = .ok (.iload_n 0, 1) := by decide +kernel
theorem dJ3_checkIndex_8e157_17 : decode cJ3_checkIndex_8e157 17 = .ok (.ireturn, 1) := by decide +kernel
def jx_Ts : List Cond := [Cond.methodLink RX3 90 yJ0_length_8abf5, Cond.instanceMethod yJ0_length_8abf5, Cond.selects RJ0 yJ0_length_8abf5 yJ0_length_8abf5, Cond.initialized RJ0, Cond.code yJ0_length_8abf5 cJ0_length_8abf5 1 (some .int), Cond.fieldLink RJ0 9 "java/lang/String" "value" "[B", Cond.methodLink RJ0 335 yJ0_coder_7d493, Cond.instanceMethod yJ0_coder_7d493, Cond.selects RJ0 yJ0_coder_7d493 yJ0_coder_7d493, Cond.code yJ0_coder_7d493 cJ0_coder_7d493 1 (some .byte), Cond.fieldLink RJ0 38 "java/lang/String" "COMPACT_STRINGS" "Z", Cond.fieldLink RJ0 15 "java/lang/String" "coder" "B",
  Cond.methodLink RX3 94 yJ0_charAt_5068e, Cond.instanceMethod yJ0_charAt_5068e, Cond.selects RJ0 yJ0_charAt_5068e yJ0_charAt_5068e, Cond.code yJ0_charAt_5068e cJ0_charAt_5068e 2 (some .char), Cond.methodLink RJ0 492 yJ0_isLatin1_aae02, Cond.instanceMethod yJ0_isLatin1_aae02, Cond.selects RJ0 yJ0_isLatin1_aae02 yJ0_isLatin1_aae02, Cond.code yJ0_isLatin1_aae02 cJ0_isLatin1_aae02 1 (some .boolean), Cond.methodLink RJ0 495 yJ1_charAt_3b067, Cond.static yJ1_charAt_3b067, Cond.initialized RJ1, Cond.code yJ1_charAt_3b067 cJ1_charAt_3b067 2 (some .char), Cond.methodLink RJ1 9 yJ0_checkIndex_df160, Cond.static yJ0_checkIndex_df160, Cond.code yJ0_checkIndex_df160 cJ0_checkIndex_df160 2 none, Cond.fieldLink RJ0 1053 "jdk/internal/util/Preconditions" "SIOOBE_FORMATTER" "Ljava/util/function/BiFunction;", Cond.methodLink RJ0 1059 yJ3_checkIndex_8e157, Cond.static yJ3_checkIndex_8e157, Cond.initialized RJ3, Cond.code yJ3_checkIndex_8e157 cJ3_checkIndex_8e157 3 (some .int),
  Cond.fieldLink RX1 53 "FarBoard$Draft" "NOT_DIVIDING" "[I"]
set_option maxRecDepth 100000 in
theorem jx_good : jx_Ts.all goodWord = true := by decide +kernel
def jx_len : List Nat := [7, 3]
def jx_byt : List (List Int32) := [[99, 111, 114, 110, 101, 114, 115], [97, 110, 116]]
/-- what lies round: String's flag, the two constants, the checker's formatter -/
def jx_N (A : Nat → Prop) (adK adV : Nat → Nat) (s : State) : Prop := va_Z "java/lang/String" "COMPACT_STRINGS" "Z" (.int 1) A s s.heap ∧ vk_S 2 jx_len jx_byt adK adV A s s.heap ∧ va_Zq "jdk/internal/util/Preconditions" "SIOOBE_FORMATTER" "Ljava/util/function/BiFunction;" A s s.heap
theorem jx_N.moved {A : Nat → Prop} {adK adV : Nat → Nat} {u U : State} (hvm : u.vm.Alike U.vm) (hh : U.heap = u.heap) (h : jx_N A adK adV u) : jx_N A adK adV U := by
  unfold jx_N
  rw [hh]
  exact ⟨va_Z.moved hvm h.1, vk_S.moved hvm h.2.1, va_Zq.moved hvm h.2.2⟩
theorem jx_N.kept {A : Nat → Prop} {adK adV : Nat → Nat} {u U : State} (hvm : u.vm.Alike U.vm) (hh : ∀ q : Nat, q < u.heap.size → ¬ A q → U.heap[q]? = u.heap[q]?) (h : jx_N A adK adV u) : jx_N A adK adV U := ⟨va_Z.moved hvm (h.1.kept hh), vk_S.moved hvm (h.2.1.kept hh), va_Zq.moved hvm (h.2.2.kept hh)⟩
/-- nothing is changed, v is answered -/
def jx_Q (v : Option Value) : Array Value → State → Outcome → State → Prop := fun _ st oc t => oc = .returned v ∧ va_F (fun _ => False) st t
def jx_rm (k : Nat) : Room := { frames := k, cells := 0, slots := 0, locals := 64 * k }
section JX
variable {l : Launch} {Ts : List Cond} {A : Nat → Prop} {adK adV : Nat → Nat}
theorem jx_blind {as : List Value} : FrameBlind (va_Pc as (jx_N A adK adV)) := fun a U g mk q => ⟨q.1, jx_N.moved (u := U) (Vm.Alike.refl U.vm) rfl q.2⟩
theorem jx_F {s t : State} (h : t.heap = s.heap) : va_F (fun _ => False) s t := ⟨by rw [h]; exact Nat.le_refl _, fun q _ _ => by rw [h]⟩
/-- behind a call that changes nothing -/
theorem jx_callW {p : Program} {e : Env} {R : Room} {s : State} {m : MethodId} {args : Array Value} {below : List Frame} {meth : Method} {c : Code} {cells slots : Nat} {Q : State → Prop} {H : Heap} {locs : List Loc} {pc : Nat} {ls : Array Slot} {st0 rest : List Value} {v : Option Value} {a : Array Value}
    (hr : va_Run p l e R s m args below meth c H locs cells slots 0 0 (F0 m pc ls st0) rest (jx_Q v a) (fun _ => False))
    (kk : ∀ (H1 : Heap) (locs1 : List Loc), H.size ≤ H1.size → (∀ q : Nat, q < H.size → H1[q]? = H[q]?) → (∀ q ∈ locs1, q ∈ locs) → W p l e R s m args below meth c H1 locs1 cells slots Q (F0 m (pc + 3) ls (v.toList ++ rest))) :
    W p l e R s m args below meth c H locs cells slots Q (F0 m pc ls st0) := by
  intro T hT X
  obtain ⟨v', st₀, t, T', L, h0, X', hL, e1, e2, ⟨hv, hF⟩, st⟩ := hr T hT X
  cases hv
  obtain ⟨hF1, hF2⟩ := hF
  rw [h0] at hF1 hF2
  obtain ⟨t2, a1, b1⟩ := kk T'.heap (locs ++ L) (by rw [e1]; exact hF1) (fun q hq => by rw [e1]; exact hF2 q hq (fun h => h)) (fun q hq => (List.mem_append.mp hq).elim id (fun h => (hL q h).elim)) T' rfl X'
  exact ⟨t2, st t2 a1, b1⟩

theorem jx_in {k : Nat} {w : Cond} (hj : ∀ w ∈ jx_Ts, w ∈ Ts) (h : jx_Ts[k]? = some w) : w ∈ Ts := hj w (List.mem_of_getElem? h)
set_option maxRecDepth 100000 in
theorem jx_coder (hj : ∀ w ∈ jx_Ts, w ∈ Ts) {i : Nat} (hi : i < 2) : Met l yJ0_coder_7d493 (Cond.code yJ0_coder_7d493 cJ0_coder_7d493 1 (some .byte) :: Ts) (jx_rm 1) (va_Pc [.ref (adK i)] (jx_N A adK adV)) (jx_Q (some (.int 0))) 0 0 (fun _ => False) := by
  refine ik_ofW (cc := cJ0_coder_7d493) (maxL := 1) (ret := some .byte) (by decide +kernel) rfl ?_
  intro p e s m args below meth c s₁ B hml hv
  obtain ⟨rfl, hZ, hS, hF⟩ := hv
  have hx := B.exec
  have hb := B.bytes
  have hts : ∀ w ∈ Ts, w.before ([Value.ref (adK i)].toArray) s = true := fun w hw => atoms_spec (ws := Cond.code yJ0_coder_7d493 cJ0_coder_7d493 1 (some .byte) :: Ts) B.pre w (List.mem_cons_of_mem _ hw)
  have hown : s.vm.findClass RJ0 = some m.cls := findClass_of_methodNamed B.named
  have hl := lv_entry [.ref (adK i)] (n := 1) (Nat.le_of_ble_eq_true rfl)
  rw [lg_entry_eq]
  generalize (lg_sl ([.ref (adK i)]) ++ List.replicate (1 - (lg_sl ([.ref (adK i)])).length) Slot.unset).toArray = ls at hl ⊢
  have hl : lv_has ls 1 [(0, .ref (adK i))] := hl
  refine va_gets hx hb hZ va_S.rf hown (hts _ (jx_in (k := 10) hj rfl)) (fun _ h => h) dJ0_coder_7d493_0 ?_
  refine lv_if_eq hx hb dJ0_coder_7d493_3 (tgt := 13) rfl (fun h => absurd h (by decide)) (fun _ => ?_)
  refine lv_aload_n hx hb dJ0_coder_7d493_6 rfl (lv_at hl 0 rfl) ?_
  refine vk_getf hx hb (hS.1 i hi).2.1 va_S.rf hown (hts _ (jx_in (k := 11) hj rfl)) (fun _ h => h) dJ0_coder_7d493_7 ?_
  refine lv_goto hx hb dJ0_coder_7d493_10 (tgt := 14) rfl ?_
  exact W.zret hx hb B.returns rfl (fun t ht _ => ⟨rfl, jx_F ht⟩) (fun _ h => nomatch h) dJ0_coder_7d493_14
set_option maxRecDepth 100000 in
theorem jx_isLatin1 (hj : ∀ w ∈ jx_Ts, w ∈ Ts) {i : Nat} (hi : i < 2) : Met l yJ0_isLatin1_aae02 (Cond.code yJ0_isLatin1_aae02 cJ0_isLatin1_aae02 1 (some .boolean) :: Ts) (jx_rm 1) (va_Pc [.ref (adK i)] (jx_N A adK adV)) (jx_Q (some (.int 1))) 0 0 (fun _ => False) := by
  refine ik_ofW (cc := cJ0_isLatin1_aae02) (maxL := 1) (ret := some .boolean) (by decide +kernel) rfl ?_
  intro p e s m args below meth c s₁ B hml hv
  obtain ⟨rfl, hZ, hS, hF⟩ := hv
  have hx := B.exec
  have hb := B.bytes
  have hts : ∀ w ∈ Ts, w.before ([Value.ref (adK i)].toArray) s = true := fun w hw => atoms_spec (ws := Cond.code yJ0_isLatin1_aae02 cJ0_isLatin1_aae02 1 (some .boolean) :: Ts) B.pre w (List.mem_cons_of_mem _ hw)
  have hown : s.vm.findClass RJ0 = some m.cls := findClass_of_methodNamed B.named
  have hl := lv_entry [.ref (adK i)] (n := 1) (Nat.le_of_ble_eq_true rfl)
  rw [lg_entry_eq]
  generalize (lg_sl ([.ref (adK i)]) ++ List.replicate (1 - (lg_sl ([.ref (adK i)])).length) Slot.unset).toArray = ls at hl ⊢
  have hl : lv_has ls 1 [(0, .ref (adK i))] := hl
  refine va_gets hx hb hZ va_S.rf hown (hts _ (jx_in (k := 10) hj rfl)) (fun _ h => h) dJ0_isLatin1_aae02_0 ?_
  refine lv_if_eq hx hb dJ0_isLatin1_aae02_3 (tgt := 17) rfl (fun h => absurd h (by decide)) (fun _ => ?_)
  refine lv_aload_n hx hb dJ0_isLatin1_aae02_6 rfl (lv_at hl 0 rfl) ?_
  refine vk_getf hx hb (hS.1 i hi).2.1 va_S.rf hown (hts _ (jx_in (k := 11) hj rfl)) (fun _ h => h) dJ0_isLatin1_aae02_7 ?_
  refine lv_if_ne hx hb dJ0_isLatin1_aae02_10 (tgt := 17) rfl (fun h => absurd rfl h) (fun _ => ?_)
  refine lv_iconst hx hb dJ0_isLatin1_aae02_13 rfl ?_
  refine lv_goto hx hb dJ0_isLatin1_aae02_14 (tgt := 18) rfl ?_
  exact W.zret hx hb B.returns rfl (fun t ht _ => ⟨rfl, jx_F ht⟩) (fun _ h => nomatch h) dJ0_isLatin1_aae02_18
set_option maxRecDepth 100000 in
theorem jx_length (hj : ∀ w ∈ jx_Ts, w ∈ Ts) (hg : ∀ w ∈ Ts, goodWord w = true) {i : Nat} (hi : i < 2) : Met l yJ0_length_8abf5 (Cond.code yJ0_length_8abf5 cJ0_length_8abf5 1 (some .int) :: Ts) (jx_rm 3) (va_Pc [.ref (adK i)] (jx_N A adK adV)) (jx_Q (some (.int (nI (jx_len.getD i 0))))) 0 0 (fun _ => False) := by
  refine ik_ofW (cc := cJ0_length_8abf5) (maxL := 1) (ret := some .int) (by decide +kernel) rfl ?_
  intro p e s m args below meth c s₁ B hml hv
  obtain ⟨rfl, hZ, hS, hF⟩ := id hv
  have hx := B.exec
  have hb := B.bytes
  have hts : ∀ w ∈ Ts, w.before ([Value.ref (adK i)].toArray) s = true := fun w hw => atoms_spec (ws := Cond.code yJ0_length_8abf5 cJ0_length_8abf5 1 (some .int) :: Ts) B.pre w (List.mem_cons_of_mem _ hw)
  have hgood : GoodIn Ts Ts := fun w hw => ⟨hw, good_of_word (hg w hw)⟩
  have hown : s.vm.findClass RJ0 = some m.cls := findClass_of_methodNamed B.named
  have hl := lv_entry [.ref (adK i)] (n := 1) (Nat.le_of_ble_eq_true rfl)
  rw [lg_entry_eq]
  generalize (lg_sl ([.ref (adK i)]) ++ List.replicate (1 - (lg_sl ([.ref (adK i)])).length) Slot.unset).toArray = ls at hl ⊢
  have hl : lv_has ls 1 [(0, .ref (adK i))] := hl
  refine lv_aload_n hx hb dJ0_length_8abf5_0 rfl (lv_at hl 0 rfl) ?_
  refine vk_getf hx hb (hS.1 i hi).2.2.1 va_S.rf hown (hts _ (jx_in (k := 5) hj rfl)) (fun _ h => h) dJ0_length_8abf5_1 ?_
  refine va_tlen hx hb (hS.1 i hi).2.2.2 va_S.rf rfl dJ0_length_8abf5_4 ?_
  refine lv_aload_n hx hb dJ0_length_8abf5_5 rfl (lv_at hl 0 rfl) ?_
  have hCB : CallB (headSpec (Cond.code yJ0_length_8abf5 cJ0_length_8abf5 1 (some .int) :: Ts) (jx_rm 3)).room s ([Value.ref (adK i)].toArray) RJ0 335 yJ0_coder_7d493 cJ0_coder_7d493 1 (some .byte) (Cond.code yJ0_coder_7d493 cJ0_coder_7d493 1 (some .byte) :: Ts) (jx_rm 1) 0 0 0 :=
    callB_of (ws' := Ts) 0 hts (fun w hw => by
      rcases List.mem_cons.mp hw with rfl | hw
      · exact ⟨jx_in (k := 9) hj rfl, good_of_word (hg _ (jx_in (k := 9) hj rfl))⟩
      · exact hgood w hw) rfl rfl rfl (hts _ (jx_in (k := 3) hj rfl)) (hts _ (jx_in (k := 6) hj rfl)) ⟨by decide +kernel, by decide +kernel, by decide +kernel⟩ ⟨Nat.le_of_ble_eq_true rfl, Nat.le_of_ble_eq_true rfl⟩
  refine jx_callW (va_runV (As := []) (rest := [.int (Int32.ofNat (jx_len.getD i 0))]) ⟨hx, hb, hml, hown, hts⟩ (jx_coder (A := A) (adV := adV) hj hi) ⟨hCB, hts _ (jx_in (k := 7) hj rfl), hts _ (jx_in (k := 8) hj rfl)⟩ ⟨jx_blind, vk_recv hS hi va_S.rf, fun U hU hW => ⟨rfl, jx_N.moved hW.alike hU hv.2⟩⟩ rfl rfl hl.1 rfl (lv_room (Nat.le_of_ble_eq_true rfl)) dJ0_length_8abf5_6 ⟨Nat.le_refl _, Nat.le_refl _⟩) (fun H1 locs1 h1 h2 h3 => ?_)
  refine lv_ishr hx hb dJ0_length_8abf5_9 ?_
  have he : Int32.ofNat (jx_len.getD i 0) >>> ((0 : Int32) &&& 31) = nI (jx_len.getD i 0) := by
    rcases (show i = 0 ∨ i = 1 by omega) with rfl | rfl <;> decide
  rw [he]
  exact W.iret hx hb B.returns (fun t ht _ => ⟨rfl, by rw [ht]; exact h1, fun q hq _ => by rw [ht]; exact h2 q hq⟩) (fun q h => nomatch h3 q h) dJ0_length_8abf5_10
set_option maxRecDepth 100000 in
theorem jx_check3 {k n : Nat} (hk : k < n) (hn : n < 2 ^ 31) (v : Value) (hv1 : v.category = 1) : Met l yJ3_checkIndex_8e157 (Cond.code yJ3_checkIndex_8e157 cJ3_checkIndex_8e157 3 (some .int) :: Ts) (jx_rm 1) (va_Pc [.int (nI k), .int (nI n), v] (fun _ => True)) (jx_Q (some (.int (nI k)))) 0 0 (fun _ => False) := by
  refine ik_ofW (cc := cJ3_checkIndex_8e157) (maxL := 3) (ret := some .int) (by decide +kernel) rfl ?_
  intro p e s m args below meth c s₁ B hml hv
  obtain ⟨rfl, -⟩ := hv
  have hx := B.exec
  have hb := B.bytes
  have hsl : (lg_sl [.int (nI k), .int (nI n), v]).length ≤ 3 := by
    have : lg_sl [v] = [Slot.val v] := by
      show (if v.category = 2 then [Slot.val v, .second] else [.val v]) ++ [] = _
      rw [hv1]; rfl
    show (([Slot.val (.int (nI k))] ++ ([Slot.val (.int (nI n))] ++ lg_sl [v]))).length ≤ 3
    rw [this]
    exact Nat.le_refl _
  have hl := lv_entry [.int (nI k), .int (nI n), v] (n := 3) hsl
  rw [lg_entry_eq]
  generalize (lg_sl ([.int (nI k), .int (nI n), v]) ++ List.replicate (3 - (lg_sl ([.int (nI k), .int (nI n), v])).length) Slot.unset).toArray = ls at hl ⊢
  have hl : lv_has ls 3 [(0, .int (nI k)), (1, .int (nI n)), (2, v)] := hl
  refine lv_iload_n hx hb dJ3_checkIndex_8e157_0 rfl (lv_at hl 0 rfl) ?_
  refine lv_if_lt hx hb dJ3_checkIndex_8e157_1 (tgt := 9) rfl (fun h => absurd h (nI_pos (by omega))) (fun _ => ?_)
  refine lv_iload_n hx hb dJ3_checkIndex_8e157_4 rfl (lv_at hl 0 rfl) ?_
  refine lv_iload_n hx hb dJ3_checkIndex_8e157_5 rfl (lv_at hl 1 rfl) ?_
  refine lv_icmp_lt hx hb dJ3_checkIndex_8e157_6 (tgt := 16) rfl (fun _ => ?_) (fun h => absurd (nI_lt hk hn) h)
  refine lv_iload_n hx hb dJ3_checkIndex_8e157_16 rfl (lv_at hl 0 rfl) ?_
  exact W.iret hx hb B.returns (fun t ht _ => ⟨rfl, jx_F ht⟩) (fun _ h => nomatch h) dJ3_checkIndex_8e157_17
theorem jx_blindT {as : List Value} : FrameBlind (va_Pc as (fun _ => True)) := fun a U g mk q => ⟨q.1, trivial⟩
set_option maxRecDepth 100000 in
theorem jx_check0 (hj : ∀ w ∈ jx_Ts, w ∈ Ts) (hg : ∀ w ∈ Ts, goodWord w = true) {k n : Nat} (hk : k < n) (hn : n < 2 ^ 31) : Met l yJ0_checkIndex_df160 (Cond.code yJ0_checkIndex_df160 cJ0_checkIndex_df160 2 none :: Ts) (jx_rm 3) (va_Pc [.int (nI k), .int (nI n)] (jx_N A adK adV)) (jx_Q none) 0 0 (fun _ => False) := by
  refine ik_ofW (cc := cJ0_checkIndex_df160) (maxL := 2) (ret := none) (by decide +kernel) rfl ?_
  intro p e s m args below meth c s₁ B hml hv
  obtain ⟨rfl, hZ, hS, hF⟩ := id hv
  have hx := B.exec
  have hb := B.bytes
  have hts : ∀ w ∈ Ts, w.before ([Value.int (nI k), .int (nI n)].toArray) s = true := fun w hw => atoms_spec (ws := Cond.code yJ0_checkIndex_df160 cJ0_checkIndex_df160 2 none :: Ts) B.pre w (List.mem_cons_of_mem _ hw)
  have hgood : GoodIn Ts Ts := fun w hw => ⟨hw, good_of_word (hg w hw)⟩
  have hown : s.vm.findClass RJ0 = some m.cls := findClass_of_methodNamed B.named
  have hl := lv_entry [.int (nI k), .int (nI n)] (n := 2) (Nat.le_of_ble_eq_true rfl)
  rw [lg_entry_eq]
  generalize (lg_sl ([.int (nI k), .int (nI n)]) ++ List.replicate (2 - (lg_sl ([.int (nI k), .int (nI n)])).length) Slot.unset).toArray = ls at hl ⊢
  have hl : lv_has ls 2 [(0, .int (nI k)), (1, .int (nI n))] := hl
  have key : ∀ v : Value, v.category = 1 → va_Z "jdk/internal/util/Preconditions" "SIOOBE_FORMATTER" "Ljava/util/function/BiFunction;" v A s s.heap → W p l e (headSpec (Cond.code yJ0_checkIndex_df160 cJ0_checkIndex_df160 2 none :: Ts) (jx_rm 3)).room s m ([Value.int (nI k), .int (nI n)].toArray) below meth c s.heap [] 0 0 (MQ below (jx_Q none) ([Value.int (nI k), .int (nI n)].toArray) s 0 0 (fun _ => False)) (F0 m 0 ls []) := by
    intro v hv1 hZ9
    refine lv_iload_n hx hb dJ0_checkIndex_df160_0 rfl (lv_at hl 0 rfl) ?_
    refine lv_iload_n hx hb dJ0_checkIndex_df160_1 rfl (lv_at hl 1 rfl) ?_
    refine va_gets hx hb hZ9 va_S.rf hown (hts _ (jx_in (k := 27) hj rfl)) (fun _ h => h) dJ0_checkIndex_df160_2 ?_
    have hCB : CallB (headSpec (Cond.code yJ0_checkIndex_df160 cJ0_checkIndex_df160 2 none :: Ts) (jx_rm 3)).room s ([Value.int (nI k), .int (nI n)].toArray) RJ0 1059 yJ3_checkIndex_8e157 cJ3_checkIndex_8e157 3 (some .int) (Cond.code yJ3_checkIndex_8e157 cJ3_checkIndex_8e157 3 (some .int) :: Ts) (jx_rm 1) 0 0 3 :=
      callB_of (ws' := Ts) 3 hts (fun w hw => by
        rcases List.mem_cons.mp hw with rfl | hw
        · exact ⟨jx_in (k := 31) hj rfl, good_of_word (hg _ (jx_in (k := 31) hj rfl))⟩
        · exact hgood w hw) rfl rfl rfl (hts _ (jx_in (k := 30) hj rfl)) (hts _ (jx_in (k := 28) hj rfl)) ⟨by decide +kernel, by decide +kernel, by decide +kernel⟩ ⟨Nat.le_of_ble_eq_true rfl, Nat.le_of_ble_eq_true rfl⟩
    refine jx_callW (va_runS (As := [.int (nI k), .int (nI n), v]) (rest := []) ⟨hx, hb, hml, hown, hts⟩ (jx_check3 hk hn v hv1) ⟨hCB, hts _ (jx_in (k := 29) hj rfl)⟩ ⟨jx_blindT, fun U hU hW => ⟨rfl, trivial⟩⟩ rfl rfl hl.1 rfl (lv_room (Nat.le_of_ble_eq_true rfl)) dJ0_checkIndex_df160_5 ⟨Nat.le_refl _, Nat.le_refl _⟩) (fun H1 locs1 h1 h2 h3 => ?_)
    refine lv_pop hx hb dJ0_checkIndex_df160_8 rfl ?_
    exact W.vret hx hb B.returns (fun t ht _ => ⟨rfl, by rw [ht]; exact h1, fun q hq _ => by rw [ht]; exact h2 q hq⟩) (fun q h => nomatch h3 q h) dJ0_checkIndex_df160_9
  rcases hF with hF | ⟨t, hF⟩
  · exact key .null rfl hF
  · exact key (.ref t) rfl hF
def jx_ch (i k : Nat) : Int32 := (jx_byt.getD i []).getD k 0
theorem jx_chs : ∀ i, i < 2 → ∀ k, k < jx_len.getD i 0 → ((jx_ch i k &&& (Int16.ofInt 255).toInt32).toUInt32 % 65536).toInt32 = jx_ch i k ∧ narrow .char (.int (jx_ch i k)) = .int (jx_ch i k) := by decide +kernel
theorem jx_lens : ∀ i, i < 2 → jx_len.getD i 0 < 2 ^ 31 := by decide
set_option maxRecDepth 100000 in
theorem jx_charAt1 (hj : ∀ w ∈ jx_Ts, w ∈ Ts) (hg : ∀ w ∈ Ts, goodWord w = true) {i k : Nat} (hi : i < 2) (hk : k < jx_len.getD i 0) : Met l yJ1_charAt_3b067 (Cond.code yJ1_charAt_3b067 cJ1_charAt_3b067 2 (some .char) :: Ts) (jx_rm 5) (va_Pc [.ref (adV i), .int (nI k)] (jx_N A adK adV)) (jx_Q (some (.int (jx_ch i k)))) 0 0 (fun _ => False) := by
  refine ik_ofW (cc := cJ1_charAt_3b067) (maxL := 2) (ret := some .char) (by decide +kernel) rfl ?_
  intro p e s m args below meth c s₁ B hml hv
  obtain ⟨rfl, hZ, hS, hF⟩ := id hv
  have hx := B.exec
  have hb := B.bytes
  have hts : ∀ w ∈ Ts, w.before ([Value.ref (adV i), .int (nI k)].toArray) s = true := fun w hw => atoms_spec (ws := Cond.code yJ1_charAt_3b067 cJ1_charAt_3b067 2 (some .char) :: Ts) B.pre w (List.mem_cons_of_mem _ hw)
  have hgood : GoodIn Ts Ts := fun w hw => ⟨hw, good_of_word (hg w hw)⟩
  have hown : s.vm.findClass RJ1 = some m.cls := findClass_of_methodNamed B.named
  have hl := lv_entry [.ref (adV i), .int (nI k)] (n := 2) (Nat.le_of_ble_eq_true rfl)
  rw [lg_entry_eq]
  generalize (lg_sl ([.ref (adV i), .int (nI k)]) ++ List.replicate (2 - (lg_sl ([.ref (adV i), .int (nI k)])).length) Slot.unset).toArray = ls at hl ⊢
  have hl : lv_has ls 2 [(0, .ref (adV i)), (1, .int (nI k))] := hl
  refine lv_iload_n hx hb dJ1_charAt_3b067_0 rfl (lv_at hl 1 rfl) ?_
  refine lv_aload_n hx hb dJ1_charAt_3b067_1 rfl (lv_at hl 0 rfl) ?_
  refine va_tlen hx hb (hS.1 i hi).2.2.2 va_S.rf rfl dJ1_charAt_3b067_2 ?_
  have hCB : CallB (headSpec (Cond.code yJ1_charAt_3b067 cJ1_charAt_3b067 2 (some .char) :: Ts) (jx_rm 5)).room s ([Value.ref (adV i), .int (nI k)].toArray) RJ1 9 yJ0_checkIndex_df160 cJ0_checkIndex_df160 2 none (Cond.code yJ0_checkIndex_df160 cJ0_checkIndex_df160 2 none :: Ts) (jx_rm 3) 0 0 2 :=
    callB_of (ws' := Ts) 2 hts (fun w hw => by
      rcases List.mem_cons.mp hw with rfl | hw
      · exact ⟨jx_in (k := 26) hj rfl, good_of_word (hg _ (jx_in (k := 26) hj rfl))⟩
      · exact hgood w hw) rfl rfl rfl (hts _ (jx_in (k := 3) hj rfl)) (hts _ (jx_in (k := 24) hj rfl)) ⟨by decide +kernel, by decide +kernel, by decide +kernel⟩ ⟨Nat.le_of_ble_eq_true rfl, Nat.le_of_ble_eq_true rfl⟩
  refine jx_callW (va_runS (As := [.int (nI k), .int (nI (jx_len.getD i 0))]) (rest := []) ⟨hx, hb, hml, hown, hts⟩ (jx_check0 (A := A) (adK := adK) (adV := adV) hj hg hk (jx_lens i hi)) ⟨hCB, hts _ (jx_in (k := 25) hj rfl)⟩ ⟨jx_blind, fun U hU hW => ⟨rfl, jx_N.moved hW.alike hU hv.2⟩⟩ rfl rfl hl.1 rfl (lv_room (Nat.le_of_ble_eq_true rfl)) dJ1_charAt_3b067_3 ⟨Nat.le_refl _, Nat.le_refl _⟩) (fun H1 locs1 h1 h2 h3 => ?_)
  have hS1 : va_S A s.heap H1 locs1 := ⟨h1, fun q hq _ => h2 q hq, fun q h => nomatch h3 q h⟩
  refine lv_aload_n hx hb dJ1_charAt_3b067_6 rfl (lv_at hl 0 rfl) ?_
  refine lv_iload_n hx hb dJ1_charAt_3b067_7 rfl (lv_at hl 1 rfl) ?_
  refine va_tb hx hb (hS.1 i hi).2.2.2 hS1 (vp_in_nI hk (jx_lens i hi)) (v := .int (jx_ch i k)) (by rw [nI_clamp (by have := jx_lens i hi; omega)]; rfl) dJ1_charAt_3b067_8 ?_
  refine lv_sipush hx hb dJ1_charAt_3b067_9 rfl ?_
  refine lv_iand hx hb dJ1_charAt_3b067_12 ?_
  refine lv_i2c hx hb dJ1_charAt_3b067_13 (jx_chs i hi k hk).1 ?_
  exact W.zret hx hb B.returns (jx_chs i hi k hk).2 (fun t ht _ => ⟨rfl, by rw [ht]; exact h1, fun q hq _ => by rw [ht]; exact h2 q hq⟩) (fun q h => nomatch h3 q h) dJ1_charAt_3b067_14
set_option maxRecDepth 100000 in
theorem jx_charAt (hj : ∀ w ∈ jx_Ts, w ∈ Ts) (hg : ∀ w ∈ Ts, goodWord w = true) {i k : Nat} (hi : i < 2) (hk : k < jx_len.getD i 0) : Met l yJ0_charAt_5068e (Cond.code yJ0_charAt_5068e cJ0_charAt_5068e 2 (some .char) :: Ts) (jx_rm 7) (va_Pc [.ref (adK i), .int (nI k)] (jx_N A adK adV)) (jx_Q (some (.int (jx_ch i k)))) 0 0 (fun _ => False) := by
  refine ik_ofW (cc := cJ0_charAt_5068e) (maxL := 2) (ret := some .char) (by decide +kernel) rfl ?_
  intro p e s m args below meth c s₁ B hml hv
  obtain ⟨rfl, hZ, hS, hF⟩ := id hv
  have hx := B.exec
  have hb := B.bytes
  have hts : ∀ w ∈ Ts, w.before ([Value.ref (adK i), .int (nI k)].toArray) s = true := fun w hw => atoms_spec (ws := Cond.code yJ0_charAt_5068e cJ0_charAt_5068e 2 (some .char) :: Ts) B.pre w (List.mem_cons_of_mem _ hw)
  have hgood : GoodIn Ts Ts := fun w hw => ⟨hw, good_of_word (hg w hw)⟩
  have hown : s.vm.findClass RJ0 = some m.cls := findClass_of_methodNamed B.named
  have hl := lv_entry [.ref (adK i), .int (nI k)] (n := 2) (Nat.le_of_ble_eq_true rfl)
  rw [lg_entry_eq]
  generalize (lg_sl ([.ref (adK i), .int (nI k)]) ++ List.replicate (2 - (lg_sl ([.ref (adK i), .int (nI k)])).length) Slot.unset).toArray = ls at hl ⊢
  have hl : lv_has ls 2 [(0, .ref (adK i)), (1, .int (nI k))] := hl
  refine lv_aload_n hx hb dJ0_charAt_5068e_0 rfl (lv_at hl 0 rfl) ?_
  have hCB : CallB (headSpec (Cond.code yJ0_charAt_5068e cJ0_charAt_5068e 2 (some .char) :: Ts) (jx_rm 7)).room s ([Value.ref (adK i), .int (nI k)].toArray) RJ0 492 yJ0_isLatin1_aae02 cJ0_isLatin1_aae02 1 (some .boolean) (Cond.code yJ0_isLatin1_aae02 cJ0_isLatin1_aae02 1 (some .boolean) :: Ts) (jx_rm 1) 0 0 0 :=
    callB_of (ws' := Ts) 0 hts (fun w hw => by
      rcases List.mem_cons.mp hw with rfl | hw
      · exact ⟨jx_in (k := 19) hj rfl, good_of_word (hg _ (jx_in (k := 19) hj rfl))⟩
      · exact hgood w hw) rfl rfl rfl (hts _ (jx_in (k := 3) hj rfl)) (hts _ (jx_in (k := 16) hj rfl)) ⟨by decide +kernel, by decide +kernel, by decide +kernel⟩ ⟨Nat.le_of_ble_eq_true rfl, Nat.le_of_ble_eq_true rfl⟩
  refine jx_callW (va_runV (As := []) (rest := []) ⟨hx, hb, hml, hown, hts⟩ (jx_isLatin1 (A := A) (adV := adV) hj hi) ⟨hCB, hts _ (jx_in (k := 17) hj rfl), hts _ (jx_in (k := 18) hj rfl)⟩ ⟨jx_blind, vk_recv hS hi va_S.rf, fun U hU hW => ⟨rfl, jx_N.moved hW.alike hU hv.2⟩⟩ rfl rfl hl.1 rfl (lv_room (Nat.le_of_ble_eq_true rfl)) dJ0_charAt_5068e_1 ⟨Nat.le_refl _, Nat.le_refl _⟩) (fun H1 locs1 h1 h2 h3 => ?_)
  have hS1 : va_S A s.heap H1 locs1 := ⟨h1, fun q hq _ => h2 q hq, fun q h => nomatch h3 q h⟩
  refine lv_if_eq hx hb dJ0_charAt_5068e_4 (tgt := 16) rfl (fun h => absurd h (by decide)) (fun _ => ?_)
  refine lv_aload_n hx hb dJ0_charAt_5068e_7 rfl (lv_at hl 0 rfl) ?_
  refine vk_getf hx hb (hS.1 i hi).2.2.1 hS1 hown (hts _ (jx_in (k := 5) hj rfl)) (fun _ h => h) dJ0_charAt_5068e_8 ?_
  refine lv_iload_n hx hb dJ0_charAt_5068e_11 rfl (lv_at hl 1 rfl) ?_
  have hCB2 : CallB (headSpec (Cond.code yJ0_charAt_5068e cJ0_charAt_5068e 2 (some .char) :: Ts) (jx_rm 7)).room s ([Value.ref (adK i), .int (nI k)].toArray) RJ0 495 yJ1_charAt_3b067 cJ1_charAt_3b067 2 (some .char) (Cond.code yJ1_charAt_3b067 cJ1_charAt_3b067 2 (some .char) :: Ts) (jx_rm 5) 0 0 2 :=
    callB_of (ws' := Ts) 2 hts (fun w hw => by
      rcases List.mem_cons.mp hw with rfl | hw
      · exact ⟨jx_in (k := 23) hj rfl, good_of_word (hg _ (jx_in (k := 23) hj rfl))⟩
      · exact hgood w hw) rfl rfl rfl (hts _ (jx_in (k := 22) hj rfl)) (hts _ (jx_in (k := 20) hj rfl)) ⟨by decide +kernel, by decide +kernel, by decide +kernel⟩ ⟨Nat.le_of_ble_eq_true rfl, Nat.le_of_ble_eq_true rfl⟩
  refine jx_callW (va_runS (As := [.ref (adV i), .int (nI k)]) (rest := []) ⟨hx, hb, hml, hown, hts⟩ (jx_charAt1 (A := A) (adK := adK) hj hg hi hk) ⟨hCB2, hts _ (jx_in (k := 21) hj rfl)⟩ ⟨jx_blind, fun U hU hW => ⟨rfl, jx_N.kept hW.alike (by rw [hU]; exact fun q hq _ => h2 q hq) hv.2⟩⟩ rfl rfl hl.1 rfl (lv_room (Nat.le_of_ble_eq_true rfl)) dJ0_charAt_5068e_12 ⟨Nat.le_refl _, Nat.le_refl _⟩) (fun H2 locs2 g1 g2 g3 => ?_)
  exact W.zret hx hb B.returns (jx_chs i hi k hk).2 (fun t ht _ => ⟨rfl, by rw [ht]; exact Nat.le_trans h1 g1, fun q hq _ => by rw [ht, g2 q (Nat.lt_of_lt_of_le hq h1)]; exact h2 q hq⟩) (fun q h => nomatch h3 q (g3 q h)) dJ0_charAt_5068e_15
end JX
