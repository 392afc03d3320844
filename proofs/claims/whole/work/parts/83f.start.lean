/-! THE CLAIM OUT OF ONE WALK OF THE LAW'S BODY. Your part is whole_start (and what it stands on); all else here is the same for every law, but numbers. -/
def R_law : String := "FarBoardLaw"
def lw_P (b : Addr) (xs : List Int32) (args : Array Value) (s : State) : Prop := args = #[.ref b] ∧ s.IntsAt b xs ∧ xs.length ≤ 3072 ∧ (Jvm.Cond.and given_1 narrow_1).before args s = true
def lw_Q (_ : Array Value) (s : State) (o : Outcome) (t : State) : Prop := o = .returned (some (.int 1)) ∧ Framed s o t [] room_1.cells room_1.slots
def lw_Z (below : List Frame) (a : Array Value) (s : State) : State → Prop := fun t => ∃ o, t.status = .running ∧ Ended t below o ∧ lw_Q a s o t
/-- the law's own end, with 1 on the stack, nothing written that was there before, its room as the claim has it -/
theorem lw_ret {p : Program} {l : Launch} {e : Env} {s : State} {m : MethodId} {below : List Frame} {meth : Method} {c : Code} {b : Nat} (hx : p.tables.exec = Jvm.exec) (hb : c.code = code) (hr : meth.sig.returnType = ret) (hlocks : meth.locks = false) {pc : Nat} {H : Heap} {ls : Array Slot} (hdg : decode code pc = .ok (.ireturn, 1)) : W p l e room_1 s m #[Value.ref b] below meth c H [] room_1.cells room_1.slots (lw_Z below #[Value.ref b] s) (F0 m pc ls [.int 1]) := by
  intro T hT X
  obtain ⟨fs, hret, hrun, hended, hW, hframe⟩ := X.leave (v := some (.int 1)) (hlocks := hlocks) (fun h => by rw [hr] at h; cases h)
  have hmeth' : T.vm.method? m = some meth := X.method'
  refine ⟨T.setFrames fs, ?_, .returned (some (.int 1)), hrun, hended, rfl, ⟨_, rfl⟩, hW, hframe⟩
  jvm_step X.here [X.here.top, hx, hb, hdg, hmeth', hr, ret, narrow_b1]
  (try refine ⟨rfl, ?_⟩); (try refine ⟨rfl, ?_⟩)
  first | (intro acts; rw [hret _ acts rfl rfl rfl]) | rw [hret _ _ rfl rfl rfl]
  exact Steps.refl _
/-- what holds at the law's entry: the machine, the code, the tables' words (any of lw_tbl by 'hts w (by decide +kernel)'), the script of L ints xs at the cell b, what the Statement gives of the start (any of its parts by flat_of_before) -/
def lw_At (p : Program) (s : State) (m : MethodId) (meth : Method) (c : Code) (b L : Nat) (xs : Nat → Int32) : Prop :=
  p.tables.exec = Jvm.exec ∧ c.code = code ∧ meth.sig.returnType = ret ∧ c.maxLocals = 8 ∧ s.vm.findClass R_law = some m.cls ∧ (∀ w ∈ lw_tbl, w.before #[Value.ref b] s = true) ∧ va_X b L xs s s.heap ∧ b < s.heap.size ∧ meth.locks = false ∧ (Jvm.Cond.and given_1 narrow_1).before #[Value.ref b] s = true
/-- WHAT IS LEFT OF THE CLAIM: a run of the law in the pure picture, for every script -/
def lk_run (L : Nat) (xs : Nat → Int32) : Prop := ∃ (d u' v' : Nat) (K' : ij_Ks) (pc : Nat) (Lo : ij_L) (τ σ0 : ij_S), d ≤ 1000 ∧ iy_G lk_P lk_M lk_T lk_Z lk_nf room_1.cells room_1.slots (lk_C1 xw_X (d + 1)) (lk_C2 xw_X d) (lk_C3 xw_X (d + 1)) (some (L, xs)) 239 (0, 0, [], 0, ij_in [.ref 1000] 8, [], σ0) (u', v', K', pc, Lo, [.int 1], τ) ∧ ij_dc lk_P 239 pc = some (.ireturn, 1) ∧ u' ≤ room_1.cells ∧ v' ≤ room_1.slots
theorem lk_u (n : Nat) (hn : n < 12) : (∀ w ∈ u_ws (lk_row n).1 (lk_row n).2.1 (lk_row n).2.2, w ∈ lw_tbl) ∧ Cond.instantiable (lk_row n).1 (lk_row n).2.2 ∈ lw_tbl := by
  have hx : ∀ m, m < 11 → ∀ w ∈ u_ws (xk_Rn m) (xk_Tc m) (xk_nf m), w ∈ lw_tbl := fun m hm w hw => lk_tin _ (lk_tx.1 _ (List.mem_append_right _ (List.mem_append_left _ (List.mem_flatMap.mpr ⟨m, List.mem_range.mpr hm, hw⟩))))
  have hi : ∀ e ∈ xk_pnl, Cond.instantiable (xk_Rn e.2) (xk_nf e.2) ∈ lw_tbl := fun e he => lk_tin _ (lk_tx.2.2.1 _ (List.mem_append_right _ (List.mem_append_left _ (List.mem_map.mpr ⟨e, he, rfl⟩))))
  have hz : ∀ w ∈ lk_Tz, w ∈ lw_tbl := fun w hw => lk_tin _ (lk_tx.2.2.2.2.2.1 _ (List.mem_append_right _ (List.mem_append_right _ (List.mem_append_right _ hw))))
  match n, hn with
  | 0, _ => exact ⟨hx 0 (by decide), hi (655415, 0) (by decide)⟩
  | 1, _ => exact ⟨hx 1 (by decide), hi (327702, 1) (by decide)⟩
  | 2, _ => exact ⟨hx 2 (by decide), hi (655385, 2) (by decide)⟩
  | 3, _ => exact ⟨hx 3 (by decide), hi (655376, 3) (by decide)⟩
  | 4, _ => exact ⟨hx 4 (by decide), hi (327695, 4) (by decide)⟩
  | 5, _ => exact ⟨hx 5 (by decide), hi (655408, 5) (by decide)⟩
  | 6, _ => exact ⟨hx 6 (by decide), hi (655392, 6) (by decide)⟩
  | 7, _ => exact ⟨hx 7 (by decide), hi (19, 7) (by decide)⟩
  | 8, _ => exact ⟨hx 8 (by decide), hi (655367, 8) (by decide)⟩
  | 9, _ => exact ⟨hx 9 (by decide), hi (655399, 9) (by decide)⟩
  | 10, _ => exact ⟨hx 10 (by decide), hz _ (List.mem_of_getElem? (i := 4) rfl)⟩
  | 11, _ => exact ⟨fun w hw => lk_tin _ (lk_tx.2.2.2.1 _ (List.mem_append_right _ (List.mem_append_left _ hw))), hz _ (List.mem_of_getElem? (i := 5) rfl)⟩
  | n + 12, h => omega
set_option maxRecDepth 100000 in
theorem lk_txn : ∀ w ∈ xk_Txn, w ∈ lw_tbl := by decide +kernel
theorem lk_nes : ∀ e ∈ xk_nel, Cond.methodLinkNest (xk_cn (e.1 / 65536)) (e.1 % 65536) (xk_my e.2) RX10 ∈ lw_tbl ∧ (Cond.methodLinkNest (xk_cn (e.1 / 65536)) (e.1 % 65536) (xk_my e.2) RX10).onTables = true := by decide +kernel
def lk_tm : Nat → Term := fun i => Term.string "FarBoard$Reader" (if i = 0 then 38 else 63)
set_option maxRecDepth 100000 in
theorem lk_begin {p : Program} {s : State} {m : MethodId} {meth : Method} {c : Code} {b L : Nat} {xs : Nat → Int32} (C0 : lw_At p s m meth c b L xs) : ∃ (f : Nat → ClassId × (Nat → Nat)) (cA : Nat → ClassId) (a0 adK adV : Nat → Nat), (∀ i, i < 2 → a0 (1001 + i) = adK i) ∧ a0 1000 = b ∧ va_K (lk_D f) lk_cl [(cA 0, .int), (cA 1, .long), (cA 2, .boolean)] s ∧ lk_N (fun q => s.heap.size ≤ q) a0 adK adV s := by
  obtain ⟨hx, hb, hr, hml, hown, hts, hX, hbl, hlocks, hgv⟩ := id C0
  have hs := flat_of_before _ hgv
  have hA : ∀ a : Nat, a < s.heap.size → ¬ (fun q : Nat => s.heap.size ≤ q) a := fun a h => Nat.not_le.mpr h
  have h0 : ∀ n, ∃ q : ClassId × (Nat → Nat), n < 12 → u_Kn s (lk_row n).1 (lk_row n).2.1 (lk_row n).2.2 q.1 q.2 := by
    intro n
    by_cases hn : n < 12
    · obtain ⟨h1, h2⟩ := lk_u n hn
      obtain ⟨c0, i0, hk⟩ := u_known hts h1 (hts _ h2)
      exact ⟨(c0, i0), fun _ => hk⟩
    · exact ⟨(0, fun _ => 0), fun h => absurd h hn⟩
  obtain ⟨f, hf⟩ := Classical.axiomOfChoice h0
  have harr : ∀ t ∈ [FieldType.int, .long, .boolean], ∃ cA : ClassId, ArrOfT s cA t ∧ va_RA s cA t := by
    intro t ht
    have h1 : (Cond.arrayClass t).before #[Value.ref b] s = true := hts _ (lk_tin _ (lk_tx.2.2.2.2.1 _ (List.mem_append_right _ (List.mem_map.mpr ⟨t, ht, rfl⟩))))
    obtain ⟨cA, kA, comp, g1, g2, g3⟩ := Cond.arrayClass_spec h1
    refine ⟨cA, fun n z => ⟨fun k h => (by cases h), kA, g2, comp, g3⟩, ?_⟩
    simp only [List.mem_cons, List.not_mem_nil, or_false] at ht
    rcases ht with rfl | rfl | rfl <;> exact g1
  obtain ⟨c0, hc0⟩ := harr .int (by simp)
  obtain ⟨c1, hc1⟩ := harr .long (by simp)
  obtain ⟨c2, hc2⟩ := harr .boolean (by simp)
  obtain ⟨adK, adV, hS, htm⟩ := vk_Sof (args := #[Value.ref b]) (s := s) (N := 2) (tm := lk_tm) (len := jx_len) (byt := jx_byt) (A := fun q => s.heap.size ≤ q) jx_lens
    (fun i hi => by rcases (show i = 0 ∨ i = 1 by omega) with rfl | rfl <;> exact hs _ (by decide +kernel))
    (fun i hi => by rcases (show i = 0 ∨ i = 1 by omega) with rfl | rfl <;> exact hs _ (by decide +kernel))
    (fun i hi => by rcases (show i = 0 ∨ i = 1 by omega) with rfl | rfl <;> exact hs _ (by decide +kernel))
    (fun i hi => by rcases (show i = 0 ∨ i = 1 by omega) with rfl | rfl <;> exact hs _ (by decide +kernel))
    (fun i hi j hj => by
      have key : ∀ i, i < 2 → ∀ j, j < jx_len.getD i 0 → Cond.eq (.elem (.field (lk_tm i) "java/lang/String" "value" "[B") (.int (Int32.ofNat j))) (.int ((jx_byt.getD i []).getD j 0)) ∈ flatC (Jvm.Cond.and given_1 narrow_1) := by decide +kernel
      exact hs _ (key i hi j hj))
    (fun i j hi hj hij => by
      rcases (show (i = 0 ∧ j = 1) ∨ (i = 1 ∧ j = 0) by omega) with ⟨rfl, rfl⟩ | ⟨rfl, rfl⟩
      · first | exact Or.inl (hs _ (by decide +kernel)) | exact Or.inr (hs _ (by decide +kernel))
      · first | exact Or.inl (hs _ (by decide +kernel)) | exact Or.inr (hs _ (by decide +kernel))) hA
  obtain ⟨tN, hteval, hT⟩ := va_Tof (args := #[Value.ref b]) (s := s) (tm := Term.static "FarBoard$Draft" "NOT_DIVIDING" "[I") (ty := .int) (N := 10) (f := fun j => .int (xw_nd.getD j 0)) (A := fun q => s.heap.size ≤ q) (by decide) (hs _ (by decide +kernel)) (va_eqt (hs _ (by decide +kernel)))
    (fun j hj => by
      have key : ∀ j, j < 10 → Cond.eq (.elem (Term.static "FarBoard$Draft" "NOT_DIVIDING" "[I") (.int (Int32.ofNat j))) (.int (xw_nd.getD j 0)) ∈ flatC (Jvm.Cond.and given_1 narrow_1) := by decide +kernel
      exact va_eqt (hs _ (key j hj))) hA
  refine ⟨f, fun k => if k = 0 then c0 else if k = 1 then c1 else c2, fun q => if q = 1000 then b else adK (q - 1001), adK, adV, fun i hi => ?_, rfl, ⟨fun k q hq => ?_, fun k q hq => ?_⟩, ⟨⟨⟨?_, ?_⟩, fun w hw => ?_, fun e he => ?_, fun e he => ?_⟩, ⟨?_, ?_, ?_⟩, ⟨?_, hS, ?_⟩, tN, ?_, hT⟩⟩
  · show (if 1001 + i = 1000 then b else adK (1001 + i - 1001)) = adK i
    rw [if_neg (by omega), show 1001 + i - 1001 = i by omega]
  · have hk : k < 121 := by
      have := (List.getElem?_eq_some_iff.mp hq).1
      simpa [lk_cl] using this
    rw [lk_clget hk] at hq
    cases hq
    exact hf (lk_kcl k) (lk_kclt k hk)
  · match k, hq with
    | 0, hq => cases hq; exact hc0
    | 1, hq => cases hq; exact hc1
    | 2, hq => cases hq; exact hc2
  · exact vx_Zqof (hts _ (by decide +kernel)) (hts _ (by decide +kernel)) (hs _ (by decide +kernel)) hA
  · exact vx_Zqof (hts _ (by decide +kernel)) (hts _ (by decide +kernel)) (hs _ (by decide +kernel)) hA
  · exact xn_casts hw (u := s) (Vm.Alike.refl _) (hts _ (lk_txn w hw))
  · exact va_Nw.of (lk_nes e he).2 (hts _ (lk_nes e he).1)
  · simp only [xk_sll, List.mem_cons, List.not_mem_nil, or_false] at he
    rcases he with rfl | rfl
    · exact ⟨"corners", vk_R.of (A := #[Value.ref b]) (hts _ (by decide +kernel)) (htm 0 (by decide))⟩
    · exact ⟨"ant", vk_R.of (A := #[Value.ref b]) (hts _ (by decide +kernel)) (htm 1 (by decide))⟩
  · exact va_Nc.of (hs _ (by decide +kernel))
  · exact xn_cast (u := s) (Vm.Alike.refl _) (hts _ (by decide +kernel))
  · exact xn_cast (u := s) (Vm.Alike.refl _) (hts _ (by decide +kernel))
  · exact va_Zof (hts _ (by decide +kernel)) (hts _ (by decide +kernel)) (va_eqi (hs _ (by decide +kernel))) hA
  · exact va_Zqof (hts _ (by decide +kernel)) (hts _ (by decide +kernel)) (hs _ (by decide +kernel)) hA
  · exact va_Zref (hts _ (by decide +kernel)) (hts _ (by decide +kernel)) hteval hA
set_option maxHeartbeats 4000000 in
set_option maxRecDepth 100000 in
/-- THE CLAIM'S WALK OUT OF A PURE RUN -/
theorem lk_whole {p : Program} {e : Env} {s : State} {m : MethodId} {below : List Frame} {meth : Method} {c : Code} (l : Launch) (hlt : l.stackTraces = false) {b L : Nat} {xs : Nat → Int32} (C0 : lw_At p s m meth c b L xs) (hrun : lk_run L xs) : W p l e room_1 s m #[Value.ref b] below meth c s.heap [] 0 0 (lw_Z below #[Value.ref b] s) (entryFrame m ([Value.ref b] : List Value).toArray 8) := by
  obtain ⟨f, cA, a0, adK, adV, ha1, ha0, hK, hN⟩ := lk_begin C0
  obtain ⟨hx, hb, hr, hml, hown, hts, hX, hbl, hlocks, hgv⟩ := id C0
  obtain ⟨d, u', v', K', pc, Lo, τ, σ0, hd, ⟨n, hto⟩, hret, hu, hv⟩ := hrun
  have H := lk_h (adV := adV) hlt f cA (fun q => s.heap.size ≤ q) ha1
  obtain ⟨hc, hc11⟩ := lk_H11 H
  have hok : ij_ok lk_P lk_Ts lk_cl lk_nf lk_ty lk_cn lk_mb := lk_ok (lk_tx.2.2.2.2.2.1 _ (List.mem_append_right _ (List.mem_append_right _ (List.mem_append_right _ (List.mem_of_getElem? (i := 1) rfl)))))
  have hl := lv_entry ([Value.ref 1000].map (ij_v a0)) (n := 8) (Nat.le_of_ble_eq_true rfl)
  rw [lg_entry_eq]
  have e0 : ([Value.ref 1000].map (ij_v a0)) = [Value.ref b] := by rw [← ha0]; rfl
  have hb9 : c.code = lk_mb 239 := hb
  refine iy_toW (Q := lw_Z below #[Value.ref b] s) (ad := a0) lk_stays hN (fun ad K had => lk_m1 H (d + 1) ad K had) (fun ad K had => lk_m2 H d ad K had) (lk_m3 H (d + 1)) (lk_okx hc hc11 lk_tx.1 lk_tx.2.2.2.1 lk_tx.2.2.2.2.2.1 lk_tgood lk_nx (fun s hs => hs.1.1)) (lk_oky lk_cl1 lk_cl2 lk_tx.1 lk_tx.2.2.1 lk_tx.2.2.2.1 lk_tx.2.2.2.2.1 lk_tx.2.2.2.2.2.1) (by show d + 1 + 21 ≤ 2048; omega) (by show 64 * (d + 1) + 1064 ≤ 84000; omega) hml (fun q h => h) (fun i q h _ => (nomatch h)) (fun SL xs9 h9 => by cases h9; rw [ha0]; exact ⟨hX, hbl, Nat.not_le.mpr hbl⟩) ⟨hok, hx, hb9, fun w hw => hts _ (lk_tin w hw), hown, hK⟩ n 0 0 [] (0, ij_in [.ref 1000] 8, [], σ0) u' v' K' (pc, Lo, [.int 1], τ) hto (fun p hp => rfl) s.heap [] _ ⟨fun i x h => (nomatch h), ⟨fun i j x y h => (nomatch h), fun i x h => (nomatch h)⟩, va_S.rf, ?_⟩ (fun ad1 H1 locs1 ls1 had X1 => ?_)
  · have h9 := ij_lh_in (ad := a0) (as := [.ref 1000]) (n := 8) hl
    rw [e0] at h9
    exact h9
  · refine W.widen hu hv ?_
    refine va_forget (fun q hq => X1.2.2.1.2.2 q hq) ?_
    exact lw_ret hx hb hr hlocks (hok.1 239 pc _ hret).1
