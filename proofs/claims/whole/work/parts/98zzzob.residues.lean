/-! ===== six sides or more (2): residues, arcs as numbers ===== -/
abbrev rz (n : Nat) (z : Int) : Prop := cg an_P1 n z
def zm (a b : Nat) : Nat := Nat.mod (Nat.mul a b) 2147478481
def za (a b : Nat) : Nat := Nat.mod (Nat.add a b) 2147478481
def zs (a b : Nat) : Nat := Nat.mod (Nat.add a (Nat.sub 2147478481 (Nat.mod b 2147478481))) 2147478481
section RZ1
variable {a b : Nat} {x y : Int}
theorem cg_mul2 {P a b c d : Int} (h : cg P a b) (h' : cg P c d) : cg P (a * c) (b * d) := by
  have e1 := cg_mul a h'
  have e2 := cg_mul d h
  rw [Int.mul_comm d a, Int.mul_comm d b] at e2
  exact cg_trans e1 e2
theorem rz_m (h : rz a x) (h' : rz b y) : rz (zm a b) (x * y) := by
  refine cg_trans (cg_mod 2147478481 (a * b)) ?_
  rw [Int.natCast_mul]
  exact cg_mul2 h h'
theorem rz_a (h : rz a x) (h' : rz b y) : rz (za a b) (x + y) := by
  refine cg_trans (cg_mod 2147478481 (a + b)) ?_
  rw [Int.natCast_add]
  exact cg_add h h'
theorem rz_s (h : rz a x) (h' : rz b y) : rz (zs a b) (x - y) := by
  refine cg_trans (cg_mod 2147478481 (a + (2147478481 - b % 2147478481))) ?_
  have e : ((a + (2147478481 - b % 2147478481) : Nat) : Int) = (a : Int) + (2147478481 - ((b % 2147478481 : Nat) : Int)) := by omega
  rw [e, Int.sub_eq_add_neg]
  refine cg_add h (cg_trans (b := -((b % 2147478481 : Nat) : Int)) ⟨1, ?_⟩ (cg_neg (cg_trans (cg_mod 2147478481 b) h')))
  have eP : ((an_P1 : Nat) : Int) = 2147478481 := rfl
  rw [eP]
  omega
theorem rz_k (n : Nat) : rz n n := cg_refl _ _
theorem rz_k0 : rz 0 (0 : Int) := ⟨0, by decide⟩
theorem rz_k2 : rz 2 (2 : Int) := ⟨0, by decide⟩
theorem rz_k4 : rz 4 (4 : Int) := ⟨0, by decide⟩
theorem rz_k8 : rz 8 (8 : Int) := ⟨0, by decide⟩
theorem rz_k16 : rz 16 (16 : Int) := ⟨0, by decide⟩
theorem rz_k48 : rz 48 (48 : Int) := ⟨0, by decide⟩
theorem rz_k64 : rz 64 (64 : Int) := ⟨0, by decide⟩
theorem rz_lt_m (a b : Nat) : zm a b < 2147478481 := Nat.mod_lt _ (by decide)
theorem rz_lt_a (a b : Nat) : za a b < 2147478481 := Nat.mod_lt _ (by decide)
theorem rz_lt_s (a b : Nat) : zs a b < 2147478481 := Nat.mod_lt _ (by decide)
end RZ1
/-- 2 less twice the cosine, by the label's place -/
def dv (i : Nat) : Nat := Nat.mod (Nat.shiftRight 7784336854442691166843063868856840890137002000774805725869719564828578707751032586240 (Nat.mul 32 i)) 4294967296
def iv3 (i : Nat) : Nat := Nat.mod (Nat.shiftRight 446398364493746850688058607662221072061861714713487026918226866253020241321265287724081437799946060631245978498870996722330246280317690671594799512338076165138555147566812488696673488704620926232302541796953804638781162256276609122049885769741547799017495707962619656276066693296675282294892023443924562134430453329414304898215382050908528474630709770368904347941168337030468143487785605371364747877308587950925301928611954902078759914153593023017313256879087921397402611223162305343305114621856038454859897913355244905781732988454541370164792760067858530110379402355637769244908287115109615222550809242441406070325676061862896592850776711928893179534365263909403586264740043712892135283355697284627047484257437784919115177534377683501534127957075594331434977562243699762670861125 (Nat.mul 32 i)) 4294967296
def iv2 (i : Nat) : Nat := Nat.mod (Nat.shiftRight 201659263501657576265348781768890947183757276464919618234401855899379277608274496580884 (Nat.mul 32 i)) 4294967296
theorem dv_eq : ∀ m : Fin 10, m.1 ≠ 1 → Nat.beq (Nat.mod (Nat.add (dv (lbi m.1)) (an_c1 m.1)) 2147478481) 2 = true := by decide +kernel
theorem iv3_ok : ∀ i j : Fin 9, Nat.beq (zm (iv3 (9 * i.1 + j.1)) (zs 64 (zm 4 (za (zm (dv i.1) (dv i.1)) (zm (dv j.1) (dv j.1)))))) 1 = true := by decide +kernel
theorem iv2_ok : ∀ i : Fin 9, Nat.beq (zm (iv2 i.1) (zs 16 (zm (dv i.1) (dv i.1)))) 1 = true := by decide +kernel
/-- the six numbers of an arc with two, or one, labels within -/
def kb3 (v d e : Nat) : List Nat := [zm v (zs (zm e e) 16), zm v (zs (zm d d) 16), zm v (zm 4 (zs (za (za (zm d d) (zm e e)) (zm 8 (za d e))) (za 48 (zm 2 (zm d e))))), zm v (zs 0 (zm d e)), zm v (zm 2 (zs (za 16 (zm d e)) (za (zm e e) (zm 4 d)))), zm v (zm 2 (zs (za 16 (zm d e)) (za (zm d d) (zm 4 e))))]
def kb2 (v d : Nat) : List Nat := [zm v (zs 0 4), zm v (zs 0 4), zm v (zm 8 (zs d 4)), zm v d, zm v (zm 2 (zs 4 d)), zm v (zm 2 (zs 4 d))]
def kk3 (n : Nat) : List Nat := kb3 (iv3 n) (dv (n / 9)) (dv (n % 9))
def kk2 (i : Nat) : List Nat := kb2 (iv2 i) (dv i)
/-- the numbers of an arc between labels -/
def ya (k : List Nat) (d0 dl : Nat) : List Nat := [zm (zm d0 d0) (k.getD 0 0), zm (zm dl dl) (k.getD 1 0), k.getD 2 0, zm (zm d0 dl) (k.getD 3 0), zm d0 (k.getD 4 0), zm dl (k.getD 5 0)]
def zI (l : List Nat) (i : Nat) : Int := (l.getD i 0 : Nat)
section ARN
variable {a b t x1 x2 x3 D0 D1 D2 D3 : Int} {i0 i1 i2 i3 : Nat}
theorem rz_one {n : Nat} {z : Int} (h : Nat.beq n 1 = true) (h' : rz n z) : cg an_P1 z 1 := by
  have e := Nat.eq_of_beq_eq_true h
  rw [e] at h'
  exact cg_symm h'
theorem yb3 (v d e d0 dl : Nat) {V D E D0 DL : Int} (ev : rz v V) (ed : rz d D) (ee : rz e E) (e0 : rz d0 D0) (el : rz dl DL) : cg an_P1 (zI (ya (kb3 v d e) d0 dl) 0) (D0 * D0 * (V * (E * E - 16))) ∧ cg an_P1 (zI (ya (kb3 v d e) d0 dl) 1) (DL * DL * (V * (D * D - 16))) ∧ cg an_P1 (zI (ya (kb3 v d e) d0 dl) 2) (V * (4 * (D * D + E * E + 8 * (D + E) - (48 + 2 * (D * E))))) ∧ cg an_P1 (zI (ya (kb3 v d e) d0 dl) 3) (D0 * DL * (V * (0 - D * E))) ∧ cg an_P1 (zI (ya (kb3 v d e) d0 dl) 4) (D0 * (V * (2 * (16 + D * E - (E * E + 4 * D))))) ∧ cg an_P1 (zI (ya (kb3 v d e) d0 dl) 5) (DL * (V * (2 * (16 + D * E - (D * D + 4 * E))))) := by
  have q0 : rz (zm (zm d0 d0) (zm v (zs (zm e e) 16))) (D0 * D0 * (V * (E * E - 16))) := rz_m (rz_m e0 e0) (rz_m ev (rz_s (rz_m ee ee) rz_k16))
  have q1 : rz (zm (zm dl dl) (zm v (zs (zm d d) 16))) (DL * DL * (V * (D * D - 16))) := rz_m (rz_m el el) (rz_m ev (rz_s (rz_m ed ed) rz_k16))
  have q2 : rz (zm v (zm 4 (zs (za (za (zm d d) (zm e e)) (zm 8 (za d e))) (za 48 (zm 2 (zm d e)))))) (V * (4 * (D * D + E * E + 8 * (D + E) - (48 + 2 * (D * E))))) := rz_m ev (rz_m rz_k4 (rz_s (rz_a (rz_a (rz_m ed ed) (rz_m ee ee)) (rz_m rz_k8 (rz_a ed ee))) (rz_a rz_k48 (rz_m rz_k2 (rz_m ed ee)))))
  have q3 : rz (zm (zm d0 dl) (zm v (zs 0 (zm d e)))) (D0 * DL * (V * (0 - D * E))) := rz_m (rz_m e0 el) (rz_m ev (rz_s rz_k0 (rz_m ed ee)))
  have q4 : rz (zm d0 (zm v (zm 2 (zs (za 16 (zm d e)) (za (zm e e) (zm 4 d)))))) (D0 * (V * (2 * (16 + D * E - (E * E + 4 * D))))) := rz_m e0 (rz_m ev (rz_m rz_k2 (rz_s (rz_a rz_k16 (rz_m ed ee)) (rz_a (rz_m ee ee) (rz_m rz_k4 ed)))))
  have q5 : rz (zm dl (zm v (zm 2 (zs (za 16 (zm d e)) (za (zm d d) (zm 4 e)))))) (DL * (V * (2 * (16 + D * E - (D * D + 4 * E))))) := rz_m el (rz_m ev (rz_m rz_k2 (rz_s (rz_a rz_k16 (rz_m ed ee)) (rz_a (rz_m ed ed) (rz_m rz_k4 ee)))))
  simp only [zI, ya, kb3, List.getD_cons_zero, List.getD_cons_succ]
  exact ⟨q0, q1, q2, q3, q4, q5⟩
theorem yb2 (v d d0 dl : Nat) {V D D0 DL : Int} (ev : rz v V) (ed : rz d D) (e0 : rz d0 D0) (el : rz dl DL) : cg an_P1 (zI (ya (kb2 v d) d0 dl) 0) (D0 * D0 * (V * (0 - 4))) ∧ cg an_P1 (zI (ya (kb2 v d) d0 dl) 1) (DL * DL * (V * (0 - 4))) ∧ cg an_P1 (zI (ya (kb2 v d) d0 dl) 2) (V * (8 * (D - 4))) ∧ cg an_P1 (zI (ya (kb2 v d) d0 dl) 3) (D0 * DL * (V * D)) ∧ cg an_P1 (zI (ya (kb2 v d) d0 dl) 4) (D0 * (V * (2 * (4 - D)))) ∧ cg an_P1 (zI (ya (kb2 v d) d0 dl) 5) (DL * (V * (2 * (4 - D)))) := by
  have q0 : rz (zm (zm d0 d0) (zm v (zs 0 4))) (D0 * D0 * (V * (0 - 4))) := rz_m (rz_m e0 e0) (rz_m ev (rz_s rz_k0 rz_k4))
  have q1 : rz (zm (zm dl dl) (zm v (zs 0 4))) (DL * DL * (V * (0 - 4))) := rz_m (rz_m el el) (rz_m ev (rz_s rz_k0 rz_k4))
  have q2 : rz (zm v (zm 8 (zs d 4))) (V * (8 * (D - 4))) := rz_m ev (rz_m rz_k8 (rz_s ed rz_k4))
  have q3 : rz (zm (zm d0 dl) (zm v d)) (D0 * DL * (V * D)) := rz_m (rz_m e0 el) (rz_m ev ed)
  have q4 : rz (zm d0 (zm v (zm 2 (zs 4 d)))) (D0 * (V * (2 * (4 - D)))) := rz_m e0 (rz_m ev (rz_m rz_k2 (rz_s rz_k4 ed)))
  have q5 : rz (zm dl (zm v (zm 2 (zs 4 d)))) (DL * (V * (2 * (4 - D)))) := rz_m el (rz_m ev (rz_m rz_k2 (rz_s rz_k4 ed)))
  simp only [zI, ya, kb2, List.getD_cons_zero, List.getD_cons_succ]
  exact ⟨q0, q1, q2, q3, q4, q5⟩
theorem AR3' {P iv : Int} {y : Nat → Int} (hi : cg P (iv * (64 - 4 * (D1 * D1 + D2 * D2))) 1) (q0 : cg P (y 0) (D0 * D0 * (iv * (D2 * D2 - 16)))) (q1 : cg P (y 1) (D3 * D3 * (iv * (D1 * D1 - 16)))) (q2 : cg P (y 2) (iv * (4 * (D1 * D1 + D2 * D2 + 8 * (D1 + D2) - (48 + 2 * (D1 * D2)))))) (q3 : cg P (y 3) (D0 * D3 * (iv * (0 - D1 * D2)))) (q4 : cg P (y 4) (D0 * (iv * (2 * (16 + D1 * D2 - (D2 * D2 + 4 * D1)))))) (q5 : cg P (y 5) (D3 * (iv * (2 * (16 + D1 * D2 - (D1 * D1 + 4 * D2)))))) (h1 : cg P (D0 * a + 4 * x1 + D1 * x2) (2 * t)) (h2 : cg P (D1 * x1 + 4 * x2 + D2 * x3) (2 * t)) (h3 : cg P (D2 * x2 + 4 * x3 + D3 * b) (2 * t)) : AR P y (D0 * x1) (D3 * x3) (x1 + x2 + x3) a b t ∧ (cg P a 0 → cg P b 0 → cg P t 0 → cg P x1 0 ∧ cg P x2 0 ∧ cg P x3 0) := by
  obtain ⟨c1, c2, c3⟩ := arc3 h1 h2 h3 (iv := iv) (cg_trans ⟨0, by grind⟩ hi)
  refine ⟨⟨?_, ?_, ?_⟩, ?_⟩
  · refine cg_trans (cg_mul D0 c1) (cg_symm (cg_trans (cg_add (cg_add (cg_mul2 q0 (cg_refl _ a)) (cg_mul2 q3 (cg_refl _ b))) (cg_mul2 q4 (cg_refl _ t))) ⟨0, ?_⟩))
    clear q0 q1 q2 q3 q4 q5 h1 h2 h3 hi c1 c2 c3
    grind
  · refine cg_trans (cg_mul D3 c3) (cg_symm (cg_trans (cg_add (cg_add (cg_mul2 q3 (cg_refl _ a)) (cg_mul2 q1 (cg_refl _ b))) (cg_mul2 q5 (cg_refl _ t))) ⟨0, ?_⟩))
    clear q0 q1 q2 q3 q4 q5 h1 h2 h3 hi c1 c2 c3
    grind
  · refine cg_trans (cg_mul (-2) (cg_add (cg_add c1 c2) c3)) (cg_symm (cg_trans (cg_add (cg_add (cg_mul2 q4 (cg_refl _ a)) (cg_mul2 q5 (cg_refl _ b))) (cg_mul2 q2 (cg_refl _ t))) ⟨0, ?_⟩))
    clear q0 q1 q2 q3 q4 q5 h1 h2 h3 hi c1 c2 c3
    grind
  · intro ⟨ka, za⟩ ⟨kb, zb⟩ ⟨kt, zt⟩
    refine ⟨cg_trans c1 ⟨iv * ((16 - D2 * D2) * (2 * kt - D0 * ka) - 4 * D1 * (2 * kt) + D1 * D2 * (2 * kt - D3 * kb)), ?_⟩, cg_trans c2 ⟨iv * (-4 * D1 * (2 * kt - D0 * ka) + 16 * (2 * kt) - 4 * D2 * (2 * kt - D3 * kb)), ?_⟩, cg_trans c3 ⟨iv * (D1 * D2 * (2 * kt - D0 * ka) - 4 * D2 * (2 * kt) + (16 - D1 * D1) * (2 * kt - D3 * kb)), ?_⟩⟩ <;> rw [za, zb, zt] <;> clear q0 q1 q2 q3 q4 q5 h1 h2 h3 hi c1 c2 c3 za zb zt <;> grind
theorem AR2' {P iv : Int} {y : Nat → Int} (hi : cg P (iv * (16 - D1 * D1)) 1) (q0 : cg P (y 0) (D0 * D0 * (iv * (0 - 4)))) (q1 : cg P (y 1) (D3 * D3 * (iv * (0 - 4)))) (q2 : cg P (y 2) (iv * (8 * (D1 - 4)))) (q3 : cg P (y 3) (D0 * D3 * (iv * D1))) (q4 : cg P (y 4) (D0 * (iv * (2 * (4 - D1))))) (q5 : cg P (y 5) (D3 * (iv * (2 * (4 - D1))))) (h1 : cg P (D0 * a + 4 * x1 + D1 * x2) (2 * t)) (h2 : cg P (D1 * x1 + 4 * x2 + D3 * b) (2 * t)) : AR P y (D0 * x1) (D3 * x2) (x1 + x2) a b t ∧ (cg P a 0 → cg P b 0 → cg P t 0 → cg P x1 0 ∧ cg P x2 0) := by
  obtain ⟨c1, c2⟩ := arc2 h1 h2 (iv := iv) hi
  refine ⟨⟨?_, ?_, ?_⟩, ?_⟩
  · refine cg_trans (cg_mul D0 c1) (cg_symm (cg_trans (cg_add (cg_add (cg_mul2 q0 (cg_refl _ a)) (cg_mul2 q3 (cg_refl _ b))) (cg_mul2 q4 (cg_refl _ t))) ⟨0, ?_⟩))
    clear q0 q1 q2 q3 q4 q5 h1 h2 hi c1 c2
    grind
  · refine cg_trans (cg_mul D3 c2) (cg_symm (cg_trans (cg_add (cg_add (cg_mul2 q3 (cg_refl _ a)) (cg_mul2 q1 (cg_refl _ b))) (cg_mul2 q5 (cg_refl _ t))) ⟨0, ?_⟩))
    clear q0 q1 q2 q3 q4 q5 h1 h2 hi c1 c2
    grind
  · refine cg_trans (cg_mul (-2) (cg_add c1 c2)) (cg_symm (cg_trans (cg_add (cg_add (cg_mul2 q4 (cg_refl _ a)) (cg_mul2 q5 (cg_refl _ b))) (cg_mul2 q2 (cg_refl _ t))) ⟨0, ?_⟩))
    clear q0 q1 q2 q3 q4 q5 h1 h2 hi c1 c2
    grind
  · intro ⟨ka, za⟩ ⟨kb, zb⟩ ⟨kt, zt⟩
    refine ⟨cg_trans c1 ⟨iv * (4 * (2 * kt - D0 * ka) - D1 * (2 * kt - D3 * kb)), ?_⟩, cg_trans c2 ⟨iv * (-D1 * (2 * kt - D0 * ka) + 4 * (2 * kt - D3 * kb)), ?_⟩⟩ <;> rw [za, zb, zt] <;> clear q0 q1 q2 q3 q4 q5 h1 h2 hi c1 c2 za zb zt <;> grind
theorem AR3 (l1 : i1 < 9) (l2 : i2 < 9) (e0 : rz (dv i0) D0) (e1 : rz (dv i1) D1) (e2 : rz (dv i2) D2) (e3 : rz (dv i3) D3) (h1 : cg an_P1 (D0 * a + 4 * x1 + D1 * x2) (2 * t)) (h2 : cg an_P1 (D1 * x1 + 4 * x2 + D2 * x3) (2 * t)) (h3 : cg an_P1 (D2 * x2 + 4 * x3 + D3 * b) (2 * t)) : AR an_P1 (zI (ya (kk3 (9 * i1 + i2)) (dv i0) (dv i3))) (D0 * x1) (D3 * x3) (x1 + x2 + x3) a b t ∧ (cg an_P1 a 0 → cg an_P1 b 0 → cg an_P1 t 0 → cg an_P1 x1 0 ∧ cg an_P1 x2 0 ∧ cg an_P1 x3 0) := by
  have hi0 := iv3_ok ⟨i1, l1⟩ ⟨i2, l2⟩
  have hk : kk3 (9 * i1 + i2) = kb3 (iv3 (9 * i1 + i2)) (dv i1) (dv i2) := by
    unfold kk3
    rw [show (9 * i1 + i2) / 9 = i1 by omega, show (9 * i1 + i2) % 9 = i2 by omega]
  rw [hk]
  generalize iv3 (9 * i1 + i2) = v at hi0 ⊢
  generalize dv i0 = n0 at *
  generalize dv i1 = n1 at *
  generalize dv i2 = n2 at *
  generalize dv i3 = n3 at *
  obtain ⟨q0, q1, q2, q3, q4, q5⟩ := yb3 v n1 n2 n0 n3 (rz_k v) e1 e2 e0 e3
  exact AR3' (rz_one hi0 (rz_m (rz_k v) (rz_s rz_k64 (rz_m rz_k4 (rz_a (rz_m e1 e1) (rz_m e2 e2)))))) q0 q1 q2 q3 q4 q5 h1 h2 h3
theorem AR2 (l1 : i1 < 9) (e0 : rz (dv i0) D0) (e1 : rz (dv i1) D1) (e3 : rz (dv i3) D3) (h1 : cg an_P1 (D0 * a + 4 * x1 + D1 * x2) (2 * t)) (h2 : cg an_P1 (D1 * x1 + 4 * x2 + D3 * b) (2 * t)) : AR an_P1 (zI (ya (kk2 i1) (dv i0) (dv i3))) (D0 * x1) (D3 * x2) (x1 + x2) a b t ∧ (cg an_P1 a 0 → cg an_P1 b 0 → cg an_P1 t 0 → cg an_P1 x1 0 ∧ cg an_P1 x2 0) := by
  have hi0 := iv2_ok ⟨i1, l1⟩
  unfold kk2
  generalize iv2 i1 = v at hi0 ⊢
  generalize dv i0 = n0 at *
  generalize dv i1 = n1 at *
  generalize dv i3 = n3 at *
  obtain ⟨q0, q1, q2, q3, q4, q5⟩ := yb2 v n1 n0 n3 (rz_k v) e1 e0 e3
  exact AR2' (rz_one hi0 (rz_m (rz_k v) (rz_s rz_k16 (rz_m e1 e1)))) q0 q1 q2 q3 q4 q5 h1 h2
end ARN
