/-! ===== the class throws ===== -/
def xk_sup : List String := ["java/lang/RuntimeException", "java/lang/Exception"]
def xk_tik : String → Nat := fun E => if E = "java/lang/IllegalArgumentException" then 80 else 114
def xk_tic : String → Nat := fun E => if E = "java/lang/IllegalArgumentException" then 82 else 116
def xk_Es : List String := ["java/lang/IllegalArgumentException", "java/util/NoSuchElementException"]
/-- the words of a throw: those that stay by themselves, and the others -/
def xk_Tx : List Cond := xk_Es.flatMap (fun E => Cond.classLink RX10 (xk_tik E) E :: Cond.initialized E :: (vx_at0 RX10 (xk_tic E) E xk_sup).filter goodWord)
def xk_Txn : List Cond := xk_Es.flatMap (fun E => (vx_at0 RX10 (xk_tic E) E xk_sup).filter (fun w => !goodWord w))
set_option maxRecDepth 100000 in
theorem xk_x1 : xk_Es.all (fun E => Bundle.fit E && ((Cond.classLink RX10 (xk_tik E) E :: Cond.initialized E :: vx_at0 RX10 (xk_tic E) E xk_sup).all vx_ot)) = true := by decide +kernel
set_option maxRecDepth 100000 in
theorem xk_x2 : xk_Tx.all goodWord = true := by decide +kernel
set_option maxRecDepth 100000 in
theorem xk_x3 : xk_Txn.all (fun w => match w with | .castable _ _ => true | .declares _ => true | _ => false) = true := by decide +kernel
theorem xk_x4 : xk_col2.all (fun e => plainName (xk_my e.1).cls && (Nat.blt e.1 163 && decide (xk_cn (xk_mo e.1) = (xk_my e.1).cls))) = true := by decide +kernel
theorem xk_x5 : xk_sup.all Bundle.fit = true := by decide +kernel
def xk_tho (e : Nat × String) : Prop := ij_dc xk_P (e.1 / 65536) (e.1 % 65536) = some (.new (xk_tik e.2), 3) ∧ ij_dc xk_P (e.1 / 65536) (e.1 % 65536 + 3) = some (.dup, 1) ∧ ij_dc xk_P (e.1 / 65536) (e.1 % 65536 + 4) = some (.invokespecial (xk_tic e.2), 3) ∧ ij_dc xk_P (e.1 / 65536) (e.1 % 65536 + 7) = some (.athrow, 1) ∧ e.2 ∈ xk_Es ∧ xk_cn (xk_mo (e.1 / 65536)) = RX10 ∧ e.1 % 65536 + 7 < 65536
theorem xk_thc {e : Nat × String} {l : List (Nat × String)} (h : xk_tho e) (t : ∀ e ∈ l, xk_tho e) : ∀ e' ∈ e :: l, xk_tho e' := fun e' h' => (List.mem_cons.mp h').elim (fun q => by rw [q]; exact h) (t e')
set_option maxRecDepth 100000 in
theorem xk_thall : ∀ e ∈ xk_thl, xk_tho e :=
  (xk_thc ⟨rfl, rfl, rfl, rfl, List.mem_cons_self, rfl, by decide⟩
  (xk_thc ⟨rfl, rfl, rfl, rfl, List.mem_cons_of_mem _ List.mem_cons_self, rfl, by decide⟩
  (xk_thc ⟨rfl, rfl, rfl, rfl, List.mem_cons_of_mem _ List.mem_cons_self, rfl, by decide⟩
  (xk_thc ⟨rfl, rfl, rfl, rfl, List.mem_cons_of_mem _ List.mem_cons_self, rfl, by decide⟩
  (xk_thc ⟨rfl, rfl, rfl, rfl, List.mem_cons_of_mem _ List.mem_cons_self, rfl, by decide⟩
  (xk_thc ⟨rfl, rfl, rfl, rfl, List.mem_cons_of_mem _ List.mem_cons_self, rfl, by decide⟩
  (xk_thc ⟨rfl, rfl, rfl, rfl, List.mem_cons_of_mem _ List.mem_cons_self, rfl, by decide⟩
  (xk_thc ⟨rfl, rfl, rfl, rfl, List.mem_cons_self, rfl, by decide⟩
  (xk_thc ⟨rfl, rfl, rfl, rfl, List.mem_cons_self, rfl, by decide⟩
  (xk_thc ⟨rfl, rfl, rfl, rfl, List.mem_cons_of_mem _ List.mem_cons_self, rfl, by decide⟩
  (xk_thc ⟨rfl, rfl, rfl, rfl, List.mem_cons_of_mem _ List.mem_cons_self, rfl, by decide⟩
  (xk_thc ⟨rfl, rfl, rfl, rfl, List.mem_cons_self, rfl, by decide⟩
  (xk_thc ⟨rfl, rfl, rfl, rfl, List.mem_cons_of_mem _ List.mem_cons_self, rfl, by decide⟩
  (xk_thc ⟨rfl, rfl, rfl, rfl, List.mem_cons_of_mem _ List.mem_cons_self, rfl, by decide⟩
  (xk_thc ⟨rfl, rfl, rfl, rfl, List.mem_cons_of_mem _ List.mem_cons_self, rfl, by decide⟩
  (xk_thc ⟨rfl, rfl, rfl, rfl, List.mem_cons_self, rfl, by decide⟩
  (xk_thc ⟨rfl, rfl, rfl, rfl, List.mem_cons_self, rfl, by decide⟩
  (fun _ h => nomatch h))))))))))))))))))
theorem xk_okx {cl : List vw_C} (hcl : ∀ c, c < 11 → cl[c]? = some (xk_Rn c, xk_Tc c, xk_nf c)) {Ts : List Cond} (hT : ∀ w ∈ xk_Ts, w ∈ Ts) (hTx : ∀ w ∈ xk_Tx, w ∈ Ts) (hgood : ∀ w ∈ Ts, goodWord w = true) {N : State → Prop} {ad : Nat → Nat}
    (hne : ∀ e ∈ xk_nel, ∀ s, N s → va_Nw (.methodLinkNest (xk_cn (e.1 / 65536)) (e.1 % 65536) (xk_my e.2) RX10) s) (hsl : ∀ e ∈ xk_sll, ∀ s, N s → ∃ tx, vk_R (xk_cn (e.1 / 65536)) (e.1 % 65536) tx (ad e.2) s)
    {A : Nat → Prop} (hZ : ∀ s, N s → vx_Zq Bundle.tN "UNASSIGNED_STACK" Bundle.steD A s s.heap ∧ vx_Zq Bundle.tN "SUPPRESSED_SENTINEL" Bundle.listD A s s.heap) (hTn : ∀ w ∈ xk_Txn, ∀ (args : Array Value) (s : State), N s → w.before args s = true) : ix_okm xk_P xk_M xk_T N A Ts cl xk_cn xk_my xk_mb := by
  have hk := xk_okm hcl hT hgood hne hsl
  refine ⟨hgood, fun o i j h => ?_, fun mi x _ hco => ?_, hZ, fun mi pc E h => ?_, fun mi pc E h hh => nomatch hh⟩
  · obtain ⟨h1, h2, h3, h4, h5, h6, h7⟩ := hk.2.1 o i j h
    exact ⟨h1, h2, h3, h4, fun hs => ⟨rfl, h5 hs⟩, h6, h7⟩
  · have hco : 1 ≤ (ij_look xk_col2 mi).getD 0 := hco
    cases hq : ij_look xk_col2 mi with
    | none => rw [hq] at hco; exact absurd hco (by decide)
    | some v =>
      have hc := List.all_eq_true.mp xk_x4 _ (ij_look_mem hq)
      simp only [Bool.and_eq_true, decide_eq_true_eq] at hc
      exact ⟨hc.1, hc.2.2⟩
  · have h : xk_lk xk_thl mi pc = some E := h
    obtain ⟨hi, hm⟩ := xk_lk_mem h
    obtain ⟨e1, e2⟩ := xk_key (o := mi) hi
    obtain ⟨d1, d2, d3, d4, hE, ho, -⟩ := xk_thall _ hm
    dsimp only at d1 d2 d3 d4 hE ho
    rw [e1, e2] at d1 d2 d3 d4
    rw [e1] at ho
    have hx := List.all_eq_true.mp xk_x1 _ hE
    rw [Bool.and_eq_true] at hx
    refine ⟨xk_tik E, xk_tic E, xk_sup, d1, d2, d3, d4, hx.1, List.all_eq_true.mp xk_x5, ?_, hTx _ (List.mem_flatMap.mpr ⟨E, hE, List.mem_cons_of_mem _ List.mem_cons_self⟩), by decide, ?_, fun args s hs hts w hw => ?_⟩
    · show Cond.classLink (xk_cn (xk_mo mi)) (xk_tik E) E ∈ Ts
      rw [ho]
      exact hTx _ (List.mem_flatMap.mpr ⟨E, hE, List.mem_cons_self⟩)
    · show ∀ w ∈ Cond.classLink (xk_cn (xk_mo mi)) (xk_tik E) E :: Cond.initialized E :: vx_at0 (xk_cn (xk_mo mi)) (xk_tic E) E xk_sup, vx_ot w = true
      rw [ho]
      exact List.all_eq_true.mp hx.2
    · have hw : w ∈ vx_at0 (xk_cn (xk_mo mi)) (xk_tic E) E xk_sup := hw
      rw [ho] at hw
      by_cases g : goodWord w = true
      · exact hts w (hTx _ (List.mem_flatMap.mpr ⟨E, hE, List.mem_cons_of_mem _ (List.mem_cons_of_mem _ (List.mem_filter.mpr ⟨hw, g⟩))⟩))
      · exact hTn w (List.mem_flatMap.mpr ⟨E, hE, List.mem_filter.mpr ⟨hw, by simp [g]⟩⟩) args s hs
/-- every call of the class's pure picture that may throw is a contract of the machine -/
theorem xk_metx {l : Launch} (hlt : l.stackTraces = false) {cl : List vw_C} (hcl : ∀ c, c < 11 → cl[c]? = some (xk_Rn c, xk_Tc c, xk_nf c)) {Ts : List Cond} (hT : ∀ w ∈ xk_Ts, w ∈ Ts) (hTx : ∀ w ∈ xk_Tx, w ∈ Ts) (hgood : ∀ w ∈ Ts, goodWord w = true) {N : State → Prop} {ad : Nat → Nat}
    (hne : ∀ e ∈ xk_nel, ∀ s, N s → va_Nw (.methodLinkNest (xk_cn (e.1 / 65536)) (e.1 % 65536) (xk_my e.2) RX10) s) (hsl : ∀ e ∈ xk_sll, ∀ s, N s → ∃ tx, vk_R (xk_cn (e.1 / 65536)) (e.1 % 65536) tx (ad e.2) s)
    {D : va_G} {cA : Nat → ClassId} {K : ij_Ks} {A : Nat → Prop} (hst : ik_stays N A) (hZ : ∀ s, N s → vx_Zq Bundle.tN "UNASSIGNED_STACK" Bundle.steD A s s.heap ∧ vx_Zq Bundle.tN "SUPPRESSED_SENTINEL" Bundle.listD A s s.heap) (hTn : ∀ w ∈ xk_Txn, ∀ (args : Array Value) (s : State), N s → w.before args s = true)
    {X : ij_R} (hX : ∀ d, ik_known N l xk_P xk_M Ts cl xk_nf xk_my xk_mb D cA ad K A X (d + 1)) (d : Nat) : ix_known N l xk_P xk_M xk_T Ts cl xk_nf xk_my xk_mb D cA ad K A (ix_cr xk_P xk_M K xk_T (ik_cr xk_P xk_M xk_Y K X) (fun _ _ _ _ _ => False) d) d :=
  ix_met hlt hst (fun d => xk_met hcl hT hgood hne hsl hst hX d) (fun _ _ _ _ _ _ h => h.elim) (xk_ok hcl hT) (xk_okx hcl hT hTx hgood hne hsl hZ hTn) d
theorem xn_cast {C T : String} {a a' : Array Value} {u U : State} (hvm : u.vm.Alike U.vm) (h : (Cond.castable C T).before a u = true) : (Cond.castable C T).before a' U = true := by
  have h1 : (Cond.castable C T).before a (u.setVm U.vm) = true := (Cond.castable_setVm hvm C T).trans h
  exact va_tabs rfl (State.vm_setVm ..) h1
theorem xn_decl {x : MethodName} {a a' : Array Value} {u U : State} (hvm : u.vm.Alike U.vm) (h : (Cond.declares x).before a u = true) : (Cond.declares x).before a' U = true := by
  have h1 : (Cond.declares x).before a (u.setVm U.vm) = true := (Cond.declares_setVm hvm x).trans h
  exact va_tabs rfl (State.vm_setVm ..) h1
theorem xn_casts {w : Cond} (hw : w ∈ xk_Txn) {a a' : Array Value} {u U : State} (hvm : u.vm.Alike U.vm) (h : w.before a u = true) : w.before a' U = true := by
  have hc := List.all_eq_true.mp xk_x3 w hw
  cases w <;> first | exact xn_cast hvm h | exact xn_decl hvm h | cases hc
/-- what lies round the class's calls -/
def xn_N (A : Nat → Prop) (ad : Nat → Nat) (s : State) : Prop := (vx_Zq Bundle.tN "UNASSIGNED_STACK" Bundle.steD A s s.heap ∧ vx_Zq Bundle.tN "SUPPRESSED_SENTINEL" Bundle.listD A s s.heap) ∧ (∀ w ∈ xk_Txn, w.before #[] s = true) ∧
  (∀ e ∈ xk_nel, va_Nw (.methodLinkNest (xk_cn (e.1 / 65536)) (e.1 % 65536) (xk_my e.2) RX10) s) ∧ ∀ e ∈ xk_sll, ∃ tx, vk_R (xk_cn (e.1 / 65536)) (e.1 % 65536) tx (ad e.2) s
theorem xn_stays {A : Nat → Prop} {ad : Nat → Nat} : ik_stays (xn_N A ad) A := by
  refine ⟨fun U g mk a h => ?_, fun s U locs h hW hS => ?_⟩
  · obtain ⟨⟨h1, h2⟩, h3, h4, h5⟩ := h
    exact ⟨⟨vx_Zq.moved (u := U) (Vm.Alike.refl _) h1, vx_Zq.moved (u := U) (Vm.Alike.refl _) h2⟩, fun w hw => xn_casts hw (u := U) (Vm.Alike.refl _) (h3 w hw), fun e he => va_Nw.same (u := U) rfl rfl (h4 e he), fun e he => (h5 e he).elim fun tx h => ⟨tx, vk_R.same (u := U) rfl h⟩⟩
  · obtain ⟨⟨h1, h2⟩, h3, h4, h5⟩ := h
    exact ⟨⟨vx_Zq.moved hW.alike (h1.kept hS.2.1), vx_Zq.moved hW.alike (h2.kept hS.2.1)⟩, fun w hw => xn_casts hw hW.alike (h3 w hw), fun e he => va_Nw.warmM hW (h4 e he), fun e he => (h5 e he).elim fun tx h => ⟨tx, vk_R.warm hW h⟩⟩
