/-! ===== six sides or more: the numbers of steps are known by the vector (1): two arcs ===== -/
section AR1
variable {P a b t x1 x2 x3 d0 d1 d2 d3 iv : Int}
theorem arc3 (h1 : cg P (d0 * a + 4 * x1 + d1 * x2) (2 * t)) (h2 : cg P (d1 * x1 + 4 * x2 + d2 * x3) (2 * t)) (h3 : cg P (d2 * x2 + 4 * x3 + d3 * b) (2 * t)) (hi : cg P (iv * (64 - 4 * (d1 * d1) - 4 * (d2 * d2))) 1) :
    cg P x1 (iv * ((16 - d2 * d2) * (2 * t - d0 * a) - 4 * d1 * (2 * t) + d1 * d2 * (2 * t - d3 * b))) ∧
    cg P x2 (iv * (-4 * d1 * (2 * t - d0 * a) + 16 * (2 * t) - 4 * d2 * (2 * t - d3 * b))) ∧
    cg P x3 (iv * (d1 * d2 * (2 * t - d0 * a) - 4 * d2 * (2 * t) + (16 - d1 * d1) * (2 * t - d3 * b))) := by
  obtain ⟨k1, h1⟩ := h1
  obtain ⟨k2, h2⟩ := h2
  obtain ⟨k3, h3⟩ := h3
  obtain ⟨k, hi⟩ := hi
  refine ⟨⟨iv * ((16 - d2 * d2) * k1 - 4 * d1 * k2 + d1 * d2 * k3) - k * x1, ?_⟩, ⟨iv * (-4 * d1 * k1 + 16 * k2 - 4 * d2 * k3) - k * x2, ?_⟩, ⟨iv * (d1 * d2 * k1 - 4 * d2 * k2 + (16 - d1 * d1) * k3) - k * x3, ?_⟩⟩
  · have e1 := congrArg (fun z => iv * (16 - d2 * d2) * z) h1
    have e2 := congrArg (fun z => iv * (4 * d1) * z) h2
    have e3 := congrArg (fun z => iv * (d1 * d2) * z) h3
    have e4 := congrArg (fun z => x1 * z) hi
    grind
  · have e1 := congrArg (fun z => iv * (4 * d1) * z) h1
    have e2 := congrArg (fun z => iv * 16 * z) h2
    have e3 := congrArg (fun z => iv * (4 * d2) * z) h3
    have e4 := congrArg (fun z => x2 * z) hi
    grind
  · have e1 := congrArg (fun z => iv * (d1 * d2) * z) h1
    have e2 := congrArg (fun z => iv * (4 * d2) * z) h2
    have e3 := congrArg (fun z => iv * (16 - d1 * d1) * z) h3
    have e4 := congrArg (fun z => x3 * z) hi
    grind
theorem arc2 (h1 : cg P (d0 * a + 4 * x1 + d1 * x2) (2 * t)) (h2 : cg P (d1 * x1 + 4 * x2 + d3 * b) (2 * t)) (hi : cg P (iv * (16 - d1 * d1)) 1) :
    cg P x1 (iv * (4 * (2 * t - d0 * a) - d1 * (2 * t - d3 * b))) ∧
    cg P x2 (iv * (-d1 * (2 * t - d0 * a) + 4 * (2 * t - d3 * b))) := by
  obtain ⟨k1, h1⟩ := h1
  obtain ⟨k2, h2⟩ := h2
  obtain ⟨k, hi⟩ := hi
  refine ⟨⟨iv * (4 * k1 - d1 * k2) - k * x1, ?_⟩, ⟨iv * (-d1 * k1 + 4 * k2) - k * x2, ?_⟩⟩
  · have e1 := congrArg (fun z => iv * 4 * z) h1
    have e2 := congrArg (fun z => iv * d1 * z) h2
    have e4 := congrArg (fun z => x1 * z) hi
    grind
  · have e1 := congrArg (fun z => iv * d1 * z) h1
    have e2 := congrArg (fun z => iv * 4 * z) h2
    have e4 := congrArg (fun z => x2 * z) hi
    grind
end AR1
/-- what an arc answers: at its ends and in sum -/
def AR (P : Int) (y : Nat → Int) (X Y S a b t : Int) : Prop := cg P X (y 0 * a + y 3 * b + y 4 * t) ∧ cg P Y (y 3 * a + y 1 * b + y 5 * t) ∧ cg P (-2 * S) (y 4 * a + y 5 * b + y 2 * t)
def dt3 (x : Nat → Int) : Int := x 0 * (x 1 * x 2 - x 5 * x 5) - x 3 * (x 3 * x 2 - x 5 * x 4) + x 4 * (x 3 * x 5 - x 1 * x 4)
theorem two_arcs {P : Int} {x y : Nat → Int} {X Y S X' Y' S' a b t : Int} (h : AR P x X Y S a b t) (h' : AR P y X' Y' S' a b t) (h1 : cg P (4 * a + X + X') (2 * t)) (h2 : cg P (4 * b + Y + Y') (2 * t)) (h3 : cg P (a + b + S + S') t) {z : Nat → Int} (z0 : z 0 = 4 + x 0 + y 0) (z1 : z 1 = 4 + x 1 + y 1) (z2 : z 2 = 2 + x 2 + y 2) (z3 : z 3 = x 3 + y 3) (z4 : z 4 = x 4 + y 4 - 2) (z5 : z 5 = x 5 + y 5 - 2) : cg P (dt3 z * a) 0 ∧ cg P (dt3 z * b) 0 ∧ cg P (dt3 z * t) 0 := by
  obtain ⟨⟨k1, g1⟩, ⟨k2, g2⟩, ⟨k3, g3⟩⟩ := h
  obtain ⟨⟨k1', g1'⟩, ⟨k2', g2'⟩, ⟨k3', g3'⟩⟩ := h'
  obtain ⟨m1, h1⟩ := h1
  obtain ⟨m2, h2⟩ := h2
  obtain ⟨m3, h3⟩ := h3
  have r1 : z 0 * a + z 3 * b + z 4 * t = P * (m1 - k1 - k1') := by rw [z0, z3, z4]; grind
  have r2 : z 3 * a + z 1 * b + z 5 * t = P * (m2 - k2 - k2') := by rw [z3, z1, z5]; grind
  have r3 : z 4 * a + z 5 * b + z 2 * t = P * (-2 * m3 - k3 - k3') := by rw [z4, z5, z2]; grind
  generalize m1 - k1 - k1' = n1 at r1
  generalize m2 - k2 - k2' = n2 at r2
  generalize -2 * m3 - k3 - k3' = n3 at r3
  unfold dt3
  generalize z 0 = u0 at *
  generalize z 1 = u1 at *
  generalize z 2 = u2 at *
  generalize z 3 = u3 at *
  generalize z 4 = u4 at *
  generalize z 5 = u5 at *
  clear z0 z1 z2 z3 z4 z5 g1 g2 g3 g1' g2' g3' h1 h2 h3
  refine ⟨⟨(u1 * u2 - u5 * u5) * n1 + (u4 * u5 - u3 * u2) * n2 + (u3 * u5 - u4 * u1) * n3, ?_⟩, ⟨(u4 * u5 - u3 * u2) * n1 + (u0 * u2 - u4 * u4) * n2 + (u3 * u4 - u0 * u5) * n3, ?_⟩, ⟨(u3 * u5 - u4 * u1) * n1 + (u3 * u4 - u0 * u5) * n2 + (u0 * u1 - u3 * u3) * n3, ?_⟩⟩
  · have e1 := congrArg (fun w => (u1 * u2 - u5 * u5) * w) r1
    have e2 := congrArg (fun w => (u4 * u5 - u3 * u2) * w) r2
    have e3 := congrArg (fun w => (u3 * u5 - u4 * u1) * w) r3
    grind
  · have e1 := congrArg (fun w => (u4 * u5 - u3 * u2) * w) r1
    have e2 := congrArg (fun w => (u0 * u2 - u4 * u4) * w) r2
    have e3 := congrArg (fun w => (u3 * u4 - u0 * u5) * w) r3
    grind
  · have e1 := congrArg (fun w => (u3 * u5 - u4 * u1) * w) r1
    have e2 := congrArg (fun w => (u3 * u4 - u0 * u5) * w) r2
    have e3 := congrArg (fun w => (u0 * u1 - u3 * u3) * w) r3
    grind
/-- the determinant of a sum -/
theorem dt3_add (x y z : Nat → Int) (z0 : z 0 = x 0 + y 0) (z1 : z 1 = x 1 + y 1) (z2 : z 2 = x 2 + y 2) (z3 : z 3 = x 3 + y 3) (z4 : z 4 = x 4 + y 4) (z5 : z 5 = x 5 + y 5) : dt3 z = dt3 x * 1 + ((x 1 * x 2 - x 5 * x 5) * y 0 + (x 0 * x 2 - x 4 * x 4) * y 1 + (x 0 * x 1 - x 3 * x 3) * y 2 + 2 * (x 4 * x 5 - x 3 * x 2) * y 3 + 2 * (x 3 * x 5 - x 4 * x 1) * y 4 + 2 * (x 3 * x 4 - x 0 * x 5) * y 5) + (x 0 * (y 1 * y 2 - y 5 * y 5) + x 1 * (y 0 * y 2 - y 4 * y 4) + x 2 * (y 0 * y 1 - y 3 * y 3) + 2 * x 3 * (y 4 * y 5 - y 3 * y 2) + 2 * x 4 * (y 3 * y 5 - y 4 * y 1) + 2 * x 5 * (y 3 * y 4 - y 0 * y 5)) + 1 * dt3 y := by
  unfold dt3
  rw [z0, z1, z2, z3, z4, z5]
  grind
