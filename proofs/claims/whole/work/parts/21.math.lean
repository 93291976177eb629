/-! matrices of whole numbers up to 5 by 5 -/
/-- the leading minor of n rows -/
def DI (A : Nat → Nat → Int) (n : Nat) : Int := match n with
  | 1 => (A 0 0)
  | 2 => 0 - (A 1 0)*((A 0 1)) + (A 1 1)*((A 0 0))
  | 3 => (A 2 0)*(0 - (A 1 1)*((A 0 2)) + (A 1 2)*((A 0 1))) - (A 2 1)*(0 - (A 1 0)*((A 0 2)) + (A 1 2)*((A 0 0))) + (A 2 2)*(0 - (A 1 0)*((A 0 1)) + (A 1 1)*((A 0 0)))
  | 4 => 0 - (A 3 0)*((A 2 1)*(0 - (A 1 2)*((A 0 3)) + (A 1 3)*((A 0 2))) - (A 2 2)*(0 - (A 1 1)*((A 0 3)) + (A 1 3)*((A 0 1))) + (A 2 3)*(0 - (A 1 1)*((A 0 2)) + (A 1 2)*((A 0 1)))) + (A 3 1)*((A 2 0)*(0 - (A 1 2)*((A 0 3)) + (A 1 3)*((A 0 2))) - (A 2 2)*(0 - (A 1 0)*((A 0 3)) + (A 1 3)*((A 0 0))) + (A 2 3)*(0 - (A 1 0)*((A 0 2)) + (A 1 2)*((A 0 0)))) - (A 3 2)*((A 2 0)*(0 - (A 1 1)*((A 0 3)) + (A 1 3)*((A 0 1))) - (A 2 1)*(0 - (A 1 0)*((A 0 3)) + (A 1 3)*((A 0 0))) + (A 2 3)*(0 - (A 1 0)*((A 0 1)) + (A 1 1)*((A 0 0)))) + (A 3 3)*((A 2 0)*(0 - (A 1 1)*((A 0 2)) + (A 1 2)*((A 0 1))) - (A 2 1)*(0 - (A 1 0)*((A 0 2)) + (A 1 2)*((A 0 0))) + (A 2 2)*(0 - (A 1 0)*((A 0 1)) + (A 1 1)*((A 0 0))))
  | 5 => (A 4 0)*(0 - (A 3 1)*((A 2 2)*(0 - (A 1 3)*((A 0 4)) + (A 1 4)*((A 0 3))) - (A 2 3)*(0 - (A 1 2)*((A 0 4)) + (A 1 4)*((A 0 2))) + (A 2 4)*(0 - (A 1 2)*((A 0 3)) + (A 1 3)*((A 0 2)))) + (A 3 2)*((A 2 1)*(0 - (A 1 3)*((A 0 4)) + (A 1 4)*((A 0 3))) - (A 2 3)*(0 - (A 1 1)*((A 0 4)) + (A 1 4)*((A 0 1))) + (A 2 4)*(0 - (A 1 1)*((A 0 3)) + (A 1 3)*((A 0 1)))) - (A 3 3)*((A 2 1)*(0 - (A 1 2)*((A 0 4)) + (A 1 4)*((A 0 2))) - (A 2 2)*(0 - (A 1 1)*((A 0 4)) + (A 1 4)*((A 0 1))) + (A 2 4)*(0 - (A 1 1)*((A 0 2)) + (A 1 2)*((A 0 1)))) + (A 3 4)*((A 2 1)*(0 - (A 1 2)*((A 0 3)) + (A 1 3)*((A 0 2))) - (A 2 2)*(0 - (A 1 1)*((A 0 3)) + (A 1 3)*((A 0 1))) + (A 2 3)*(0 - (A 1 1)*((A 0 2)) + (A 1 2)*((A 0 1))))) - (A 4 1)*(0 - (A 3 0)*((A 2 2)*(0 - (A 1 3)*((A 0 4)) + (A 1 4)*((A 0 3))) - (A 2 3)*(0 - (A 1 2)*((A 0 4)) + (A 1 4)*((A 0 2))) + (A 2 4)*(0 - (A 1 2)*((A 0 3)) + (A 1 3)*((A 0 2)))) + (A 3 2)*((A 2 0)*(0 - (A 1 3)*((A 0 4)) + (A 1 4)*((A 0 3))) - (A 2 3)*(0 - (A 1 0)*((A 0 4)) + (A 1 4)*((A 0 0))) + (A 2 4)*(0 - (A 1 0)*((A 0 3)) + (A 1 3)*((A 0 0)))) - (A 3 3)*((A 2 0)*(0 - (A 1 2)*((A 0 4)) + (A 1 4)*((A 0 2))) - (A 2 2)*(0 - (A 1 0)*((A 0 4)) + (A 1 4)*((A 0 0))) + (A 2 4)*(0 - (A 1 0)*((A 0 2)) + (A 1 2)*((A 0 0)))) + (A 3 4)*((A 2 0)*(0 - (A 1 2)*((A 0 3)) + (A 1 3)*((A 0 2))) - (A 2 2)*(0 - (A 1 0)*((A 0 3)) + (A 1 3)*((A 0 0))) + (A 2 3)*(0 - (A 1 0)*((A 0 2)) + (A 1 2)*((A 0 0))))) + (A 4 2)*(0 - (A 3 0)*((A 2 1)*(0 - (A 1 3)*((A 0 4)) + (A 1 4)*((A 0 3))) - (A 2 3)*(0 - (A 1 1)*((A 0 4)) + (A 1 4)*((A 0 1))) + (A 2 4)*(0 - (A 1 1)*((A 0 3)) + (A 1 3)*((A 0 1)))) + (A 3 1)*((A 2 0)*(0 - (A 1 3)*((A 0 4)) + (A 1 4)*((A 0 3))) - (A 2 3)*(0 - (A 1 0)*((A 0 4)) + (A 1 4)*((A 0 0))) + (A 2 4)*(0 - (A 1 0)*((A 0 3)) + (A 1 3)*((A 0 0)))) - (A 3 3)*((A 2 0)*(0 - (A 1 1)*((A 0 4)) + (A 1 4)*((A 0 1))) - (A 2 1)*(0 - (A 1 0)*((A 0 4)) + (A 1 4)*((A 0 0))) + (A 2 4)*(0 - (A 1 0)*((A 0 1)) + (A 1 1)*((A 0 0)))) + (A 3 4)*((A 2 0)*(0 - (A 1 1)*((A 0 3)) + (A 1 3)*((A 0 1))) - (A 2 1)*(0 - (A 1 0)*((A 0 3)) + (A 1 3)*((A 0 0))) + (A 2 3)*(0 - (A 1 0)*((A 0 1)) + (A 1 1)*((A 0 0))))) - (A 4 3)*(0 - (A 3 0)*((A 2 1)*(0 - (A 1 2)*((A 0 4)) + (A 1 4)*((A 0 2))) - (A 2 2)*(0 - (A 1 1)*((A 0 4)) + (A 1 4)*((A 0 1))) + (A 2 4)*(0 - (A 1 1)*((A 0 2)) + (A 1 2)*((A 0 1)))) + (A 3 1)*((A 2 0)*(0 - (A 1 2)*((A 0 4)) + (A 1 4)*((A 0 2))) - (A 2 2)*(0 - (A 1 0)*((A 0 4)) + (A 1 4)*((A 0 0))) + (A 2 4)*(0 - (A 1 0)*((A 0 2)) + (A 1 2)*((A 0 0)))) - (A 3 2)*((A 2 0)*(0 - (A 1 1)*((A 0 4)) + (A 1 4)*((A 0 1))) - (A 2 1)*(0 - (A 1 0)*((A 0 4)) + (A 1 4)*((A 0 0))) + (A 2 4)*(0 - (A 1 0)*((A 0 1)) + (A 1 1)*((A 0 0)))) + (A 3 4)*((A 2 0)*(0 - (A 1 1)*((A 0 2)) + (A 1 2)*((A 0 1))) - (A 2 1)*(0 - (A 1 0)*((A 0 2)) + (A 1 2)*((A 0 0))) + (A 2 2)*(0 - (A 1 0)*((A 0 1)) + (A 1 1)*((A 0 0))))) + (A 4 4)*(0 - (A 3 0)*((A 2 1)*(0 - (A 1 2)*((A 0 3)) + (A 1 3)*((A 0 2))) - (A 2 2)*(0 - (A 1 1)*((A 0 3)) + (A 1 3)*((A 0 1))) + (A 2 3)*(0 - (A 1 1)*((A 0 2)) + (A 1 2)*((A 0 1)))) + (A 3 1)*((A 2 0)*(0 - (A 1 2)*((A 0 3)) + (A 1 3)*((A 0 2))) - (A 2 2)*(0 - (A 1 0)*((A 0 3)) + (A 1 3)*((A 0 0))) + (A 2 3)*(0 - (A 1 0)*((A 0 2)) + (A 1 2)*((A 0 0)))) - (A 3 2)*((A 2 0)*(0 - (A 1 1)*((A 0 3)) + (A 1 3)*((A 0 1))) - (A 2 1)*(0 - (A 1 0)*((A 0 3)) + (A 1 3)*((A 0 0))) + (A 2 3)*(0 - (A 1 0)*((A 0 1)) + (A 1 1)*((A 0 0)))) + (A 3 3)*((A 2 0)*(0 - (A 1 1)*((A 0 2)) + (A 1 2)*((A 0 1))) - (A 2 1)*(0 - (A 1 0)*((A 0 2)) + (A 1 2)*((A 0 0))) + (A 2 2)*(0 - (A 1 0)*((A 0 1)) + (A 1 1)*((A 0 0)))))
  | _ => 1
def sch (A : Nat → Nat → Int) : Nat → Nat → Int := fun i j => A 0 0 * A (i + 1) (j + 1) - A (i + 1) 0 * A 0 (j + 1)
set_option maxHeartbeats 4000000 in
set_option maxRecDepth 100000 in
theorem chi2 (a00 a01 a10 a11 : Int) : 1 * (0 - a10*(a01) + a11*(a00)) = (a00*a11-a10*a01) := by grind
set_option maxHeartbeats 4000000 in
set_option maxRecDepth 100000 in
theorem chio2 (A : Nat → Nat → Int) : 1 * DI A 2 = DI (sch A) 1 := chi2 (A 0 0) (A 0 1) (A 1 0) (A 1 1)
set_option maxHeartbeats 4000000 in
set_option maxRecDepth 100000 in
theorem chi3 (a00 a01 a02 a10 a11 a12 a20 a21 a22 : Int) : a00 * (a20*(0 - a11*(a02) + a12*(a01)) - a21*(0 - a10*(a02) + a12*(a00)) + a22*(0 - a10*(a01) + a11*(a00))) = 0 - (a00*a21-a20*a01)*((a00*a12-a10*a02)) + (a00*a22-a20*a02)*((a00*a11-a10*a01)) := by grind
set_option maxHeartbeats 4000000 in
set_option maxRecDepth 100000 in
theorem chio3 (A : Nat → Nat → Int) : A 0 0 * DI A 3 = DI (sch A) 2 := chi3 (A 0 0) (A 0 1) (A 0 2) (A 1 0) (A 1 1) (A 1 2) (A 2 0) (A 2 1) (A 2 2)
set_option maxHeartbeats 4000000 in
set_option maxRecDepth 100000 in
theorem chi4 (a00 a01 a02 a03 a10 a11 a12 a13 a20 a21 a22 a23 a30 a31 a32 a33 : Int) : a00*a00 * (0 - a30*(a21*(0 - a12*(a03) + a13*(a02)) - a22*(0 - a11*(a03) + a13*(a01)) + a23*(0 - a11*(a02) + a12*(a01))) + a31*(a20*(0 - a12*(a03) + a13*(a02)) - a22*(0 - a10*(a03) + a13*(a00)) + a23*(0 - a10*(a02) + a12*(a00))) - a32*(a20*(0 - a11*(a03) + a13*(a01)) - a21*(0 - a10*(a03) + a13*(a00)) + a23*(0 - a10*(a01) + a11*(a00))) + a33*(a20*(0 - a11*(a02) + a12*(a01)) - a21*(0 - a10*(a02) + a12*(a00)) + a22*(0 - a10*(a01) + a11*(a00)))) = (a00*a31-a30*a01)*(0 - (a00*a22-a20*a02)*((a00*a13-a10*a03)) + (a00*a23-a20*a03)*((a00*a12-a10*a02))) - (a00*a32-a30*a02)*(0 - (a00*a21-a20*a01)*((a00*a13-a10*a03)) + (a00*a23-a20*a03)*((a00*a11-a10*a01))) + (a00*a33-a30*a03)*(0 - (a00*a21-a20*a01)*((a00*a12-a10*a02)) + (a00*a22-a20*a02)*((a00*a11-a10*a01))) := by grind
set_option maxHeartbeats 4000000 in
set_option maxRecDepth 100000 in
theorem chio4 (A : Nat → Nat → Int) : A 0 0*A 0 0 * DI A 4 = DI (sch A) 3 := chi4 (A 0 0) (A 0 1) (A 0 2) (A 0 3) (A 1 0) (A 1 1) (A 1 2) (A 1 3) (A 2 0) (A 2 1) (A 2 2) (A 2 3) (A 3 0) (A 3 1) (A 3 2) (A 3 3)
set_option maxHeartbeats 4000000 in
set_option maxRecDepth 100000 in
theorem chi5 (a00 a01 a02 a03 a04 a10 a11 a12 a13 a14 a20 a21 a22 a23 a24 a30 a31 a32 a33 a34 a40 a41 a42 a43 a44 : Int) : a00*a00*a00 * (a40*(0 - a31*(a22*(0 - a13*(a04) + a14*(a03)) - a23*(0 - a12*(a04) + a14*(a02)) + a24*(0 - a12*(a03) + a13*(a02))) + a32*(a21*(0 - a13*(a04) + a14*(a03)) - a23*(0 - a11*(a04) + a14*(a01)) + a24*(0 - a11*(a03) + a13*(a01))) - a33*(a21*(0 - a12*(a04) + a14*(a02)) - a22*(0 - a11*(a04) + a14*(a01)) + a24*(0 - a11*(a02) + a12*(a01))) + a34*(a21*(0 - a12*(a03) + a13*(a02)) - a22*(0 - a11*(a03) + a13*(a01)) + a23*(0 - a11*(a02) + a12*(a01)))) - a41*(0 - a30*(a22*(0 - a13*(a04) + a14*(a03)) - a23*(0 - a12*(a04) + a14*(a02)) + a24*(0 - a12*(a03) + a13*(a02))) + a32*(a20*(0 - a13*(a04) + a14*(a03)) - a23*(0 - a10*(a04) + a14*(a00)) + a24*(0 - a10*(a03) + a13*(a00))) - a33*(a20*(0 - a12*(a04) + a14*(a02)) - a22*(0 - a10*(a04) + a14*(a00)) + a24*(0 - a10*(a02) + a12*(a00))) + a34*(a20*(0 - a12*(a03) + a13*(a02)) - a22*(0 - a10*(a03) + a13*(a00)) + a23*(0 - a10*(a02) + a12*(a00)))) + a42*(0 - a30*(a21*(0 - a13*(a04) + a14*(a03)) - a23*(0 - a11*(a04) + a14*(a01)) + a24*(0 - a11*(a03) + a13*(a01))) + a31*(a20*(0 - a13*(a04) + a14*(a03)) - a23*(0 - a10*(a04) + a14*(a00)) + a24*(0 - a10*(a03) + a13*(a00))) - a33*(a20*(0 - a11*(a04) + a14*(a01)) - a21*(0 - a10*(a04) + a14*(a00)) + a24*(0 - a10*(a01) + a11*(a00))) + a34*(a20*(0 - a11*(a03) + a13*(a01)) - a21*(0 - a10*(a03) + a13*(a00)) + a23*(0 - a10*(a01) + a11*(a00)))) - a43*(0 - a30*(a21*(0 - a12*(a04) + a14*(a02)) - a22*(0 - a11*(a04) + a14*(a01)) + a24*(0 - a11*(a02) + a12*(a01))) + a31*(a20*(0 - a12*(a04) + a14*(a02)) - a22*(0 - a10*(a04) + a14*(a00)) + a24*(0 - a10*(a02) + a12*(a00))) - a32*(a20*(0 - a11*(a04) + a14*(a01)) - a21*(0 - a10*(a04) + a14*(a00)) + a24*(0 - a10*(a01) + a11*(a00))) + a34*(a20*(0 - a11*(a02) + a12*(a01)) - a21*(0 - a10*(a02) + a12*(a00)) + a22*(0 - a10*(a01) + a11*(a00)))) + a44*(0 - a30*(a21*(0 - a12*(a03) + a13*(a02)) - a22*(0 - a11*(a03) + a13*(a01)) + a23*(0 - a11*(a02) + a12*(a01))) + a31*(a20*(0 - a12*(a03) + a13*(a02)) - a22*(0 - a10*(a03) + a13*(a00)) + a23*(0 - a10*(a02) + a12*(a00))) - a32*(a20*(0 - a11*(a03) + a13*(a01)) - a21*(0 - a10*(a03) + a13*(a00)) + a23*(0 - a10*(a01) + a11*(a00))) + a33*(a20*(0 - a11*(a02) + a12*(a01)) - a21*(0 - a10*(a02) + a12*(a00)) + a22*(0 - a10*(a01) + a11*(a00))))) = 0 - (a00*a41-a40*a01)*((a00*a32-a30*a02)*(0 - (a00*a23-a20*a03)*((a00*a14-a10*a04)) + (a00*a24-a20*a04)*((a00*a13-a10*a03))) - (a00*a33-a30*a03)*(0 - (a00*a22-a20*a02)*((a00*a14-a10*a04)) + (a00*a24-a20*a04)*((a00*a12-a10*a02))) + (a00*a34-a30*a04)*(0 - (a00*a22-a20*a02)*((a00*a13-a10*a03)) + (a00*a23-a20*a03)*((a00*a12-a10*a02)))) + (a00*a42-a40*a02)*((a00*a31-a30*a01)*(0 - (a00*a23-a20*a03)*((a00*a14-a10*a04)) + (a00*a24-a20*a04)*((a00*a13-a10*a03))) - (a00*a33-a30*a03)*(0 - (a00*a21-a20*a01)*((a00*a14-a10*a04)) + (a00*a24-a20*a04)*((a00*a11-a10*a01))) + (a00*a34-a30*a04)*(0 - (a00*a21-a20*a01)*((a00*a13-a10*a03)) + (a00*a23-a20*a03)*((a00*a11-a10*a01)))) - (a00*a43-a40*a03)*((a00*a31-a30*a01)*(0 - (a00*a22-a20*a02)*((a00*a14-a10*a04)) + (a00*a24-a20*a04)*((a00*a12-a10*a02))) - (a00*a32-a30*a02)*(0 - (a00*a21-a20*a01)*((a00*a14-a10*a04)) + (a00*a24-a20*a04)*((a00*a11-a10*a01))) + (a00*a34-a30*a04)*(0 - (a00*a21-a20*a01)*((a00*a12-a10*a02)) + (a00*a22-a20*a02)*((a00*a11-a10*a01)))) + (a00*a44-a40*a04)*((a00*a31-a30*a01)*(0 - (a00*a22-a20*a02)*((a00*a13-a10*a03)) + (a00*a23-a20*a03)*((a00*a12-a10*a02))) - (a00*a32-a30*a02)*(0 - (a00*a21-a20*a01)*((a00*a13-a10*a03)) + (a00*a23-a20*a03)*((a00*a11-a10*a01))) + (a00*a33-a30*a03)*(0 - (a00*a21-a20*a01)*((a00*a12-a10*a02)) + (a00*a22-a20*a02)*((a00*a11-a10*a01)))) := by grind
set_option maxHeartbeats 4000000 in
set_option maxRecDepth 100000 in
theorem chio5 (A : Nat → Nat → Int) : A 0 0*A 0 0*A 0 0 * DI A 5 = DI (sch A) 4 := chi5 (A 0 0) (A 0 1) (A 0 2) (A 0 3) (A 0 4) (A 1 0) (A 1 1) (A 1 2) (A 1 3) (A 1 4) (A 2 0) (A 2 1) (A 2 2) (A 2 3) (A 2 4) (A 3 0) (A 3 1) (A 3 2) (A 3 3) (A 3 4) (A 4 0) (A 4 1) (A 4 2) (A 4 3) (A 4 4)
def rcI (A : Nat → Nat → Int) (d : Nat) (b : Nat → Int) : Nat → Nat → Int := fun i j => if j = d then b i else A i j
set_option maxHeartbeats 4000000 in
set_option maxRecDepth 100000 in
theorem cra1 (a00 b0 : Int) : a00 * (b0) = (a00) * b0 := by grind
set_option maxHeartbeats 4000000 in
set_option maxRecDepth 100000 in
theorem cram1 (A : Nat → Nat → Int) (b : Nat → Int) : A 0 0 * DI (rcI A 0 b) 1 = DI A 1 * b 0 := cra1 (A 0 0) (b 0)
set_option maxHeartbeats 4000000 in
set_option maxRecDepth 100000 in
theorem cra2 (a00 a01 a10 a11 b0 b1 : Int) : a00 * (0 - b1*(a01) + a11*(b0)) + a01 * (0 - a10*(b0) + b1*(a00)) = (0 - a10*(a01) + a11*(a00)) * b0 := by grind
set_option maxHeartbeats 4000000 in
set_option maxRecDepth 100000 in
theorem cram2 (A : Nat → Nat → Int) (b : Nat → Int) : A 0 0 * DI (rcI A 0 b) 2 + A 0 1 * DI (rcI A 1 b) 2 = DI A 2 * b 0 := cra2 (A 0 0) (A 0 1) (A 1 0) (A 1 1) (b 0) (b 1)
set_option maxHeartbeats 4000000 in
set_option maxRecDepth 100000 in
theorem cra3 (a00 a01 a02 a10 a11 a12 a20 a21 a22 b0 b1 b2 : Int) : a00 * (b2*(0 - a11*(a02) + a12*(a01)) - a21*(0 - b1*(a02) + a12*(b0)) + a22*(0 - b1*(a01) + a11*(b0))) + a01 * (a20*(0 - b1*(a02) + a12*(b0)) - b2*(0 - a10*(a02) + a12*(a00)) + a22*(0 - a10*(b0) + b1*(a00))) + a02 * (a20*(0 - a11*(b0) + b1*(a01)) - a21*(0 - a10*(b0) + b1*(a00)) + b2*(0 - a10*(a01) + a11*(a00))) = (a20*(0 - a11*(a02) + a12*(a01)) - a21*(0 - a10*(a02) + a12*(a00)) + a22*(0 - a10*(a01) + a11*(a00))) * b0 := by grind
set_option maxHeartbeats 4000000 in
set_option maxRecDepth 100000 in
theorem cram3 (A : Nat → Nat → Int) (b : Nat → Int) : A 0 0 * DI (rcI A 0 b) 3 + A 0 1 * DI (rcI A 1 b) 3 + A 0 2 * DI (rcI A 2 b) 3 = DI A 3 * b 0 := cra3 (A 0 0) (A 0 1) (A 0 2) (A 1 0) (A 1 1) (A 1 2) (A 2 0) (A 2 1) (A 2 2) (b 0) (b 1) (b 2)
set_option maxHeartbeats 4000000 in
set_option maxRecDepth 100000 in
theorem cra4 (a00 a01 a02 a03 a10 a11 a12 a13 a20 a21 a22 a23 a30 a31 a32 a33 b0 b1 b2 b3 : Int) : a00 * (0 - b3*(a21*(0 - a12*(a03) + a13*(a02)) - a22*(0 - a11*(a03) + a13*(a01)) + a23*(0 - a11*(a02) + a12*(a01))) + a31*(b2*(0 - a12*(a03) + a13*(a02)) - a22*(0 - b1*(a03) + a13*(b0)) + a23*(0 - b1*(a02) + a12*(b0))) - a32*(b2*(0 - a11*(a03) + a13*(a01)) - a21*(0 - b1*(a03) + a13*(b0)) + a23*(0 - b1*(a01) + a11*(b0))) + a33*(b2*(0 - a11*(a02) + a12*(a01)) - a21*(0 - b1*(a02) + a12*(b0)) + a22*(0 - b1*(a01) + a11*(b0)))) + a01 * (0 - a30*(b2*(0 - a12*(a03) + a13*(a02)) - a22*(0 - b1*(a03) + a13*(b0)) + a23*(0 - b1*(a02) + a12*(b0))) + b3*(a20*(0 - a12*(a03) + a13*(a02)) - a22*(0 - a10*(a03) + a13*(a00)) + a23*(0 - a10*(a02) + a12*(a00))) - a32*(a20*(0 - b1*(a03) + a13*(b0)) - b2*(0 - a10*(a03) + a13*(a00)) + a23*(0 - a10*(b0) + b1*(a00))) + a33*(a20*(0 - b1*(a02) + a12*(b0)) - b2*(0 - a10*(a02) + a12*(a00)) + a22*(0 - a10*(b0) + b1*(a00)))) + a02 * (0 - a30*(a21*(0 - b1*(a03) + a13*(b0)) - b2*(0 - a11*(a03) + a13*(a01)) + a23*(0 - a11*(b0) + b1*(a01))) + a31*(a20*(0 - b1*(a03) + a13*(b0)) - b2*(0 - a10*(a03) + a13*(a00)) + a23*(0 - a10*(b0) + b1*(a00))) - b3*(a20*(0 - a11*(a03) + a13*(a01)) - a21*(0 - a10*(a03) + a13*(a00)) + a23*(0 - a10*(a01) + a11*(a00))) + a33*(a20*(0 - a11*(b0) + b1*(a01)) - a21*(0 - a10*(b0) + b1*(a00)) + b2*(0 - a10*(a01) + a11*(a00)))) + a03 * (0 - a30*(a21*(0 - a12*(b0) + b1*(a02)) - a22*(0 - a11*(b0) + b1*(a01)) + b2*(0 - a11*(a02) + a12*(a01))) + a31*(a20*(0 - a12*(b0) + b1*(a02)) - a22*(0 - a10*(b0) + b1*(a00)) + b2*(0 - a10*(a02) + a12*(a00))) - a32*(a20*(0 - a11*(b0) + b1*(a01)) - a21*(0 - a10*(b0) + b1*(a00)) + b2*(0 - a10*(a01) + a11*(a00))) + b3*(a20*(0 - a11*(a02) + a12*(a01)) - a21*(0 - a10*(a02) + a12*(a00)) + a22*(0 - a10*(a01) + a11*(a00)))) = (0 - a30*(a21*(0 - a12*(a03) + a13*(a02)) - a22*(0 - a11*(a03) + a13*(a01)) + a23*(0 - a11*(a02) + a12*(a01))) + a31*(a20*(0 - a12*(a03) + a13*(a02)) - a22*(0 - a10*(a03) + a13*(a00)) + a23*(0 - a10*(a02) + a12*(a00))) - a32*(a20*(0 - a11*(a03) + a13*(a01)) - a21*(0 - a10*(a03) + a13*(a00)) + a23*(0 - a10*(a01) + a11*(a00))) + a33*(a20*(0 - a11*(a02) + a12*(a01)) - a21*(0 - a10*(a02) + a12*(a00)) + a22*(0 - a10*(a01) + a11*(a00)))) * b0 := by grind
set_option maxHeartbeats 4000000 in
set_option maxRecDepth 100000 in
theorem cram4 (A : Nat → Nat → Int) (b : Nat → Int) : A 0 0 * DI (rcI A 0 b) 4 + A 0 1 * DI (rcI A 1 b) 4 + A 0 2 * DI (rcI A 2 b) 4 + A 0 3 * DI (rcI A 3 b) 4 = DI A 4 * b 0 := cra4 (A 0 0) (A 0 1) (A 0 2) (A 0 3) (A 1 0) (A 1 1) (A 1 2) (A 1 3) (A 2 0) (A 2 1) (A 2 2) (A 2 3) (A 3 0) (A 3 1) (A 3 2) (A 3 3) (b 0) (b 1) (b 2) (b 3)
set_option maxHeartbeats 4000000 in
set_option maxRecDepth 100000 in
theorem cra5 (a00 a01 a02 a03 a04 a10 a11 a12 a13 a14 a20 a21 a22 a23 a24 a30 a31 a32 a33 a34 a40 a41 a42 a43 a44 b0 b1 b2 b3 b4 : Int) : a00 * (b4*(0 - a31*(a22*(0 - a13*(a04) + a14*(a03)) - a23*(0 - a12*(a04) + a14*(a02)) + a24*(0 - a12*(a03) + a13*(a02))) + a32*(a21*(0 - a13*(a04) + a14*(a03)) - a23*(0 - a11*(a04) + a14*(a01)) + a24*(0 - a11*(a03) + a13*(a01))) - a33*(a21*(0 - a12*(a04) + a14*(a02)) - a22*(0 - a11*(a04) + a14*(a01)) + a24*(0 - a11*(a02) + a12*(a01))) + a34*(a21*(0 - a12*(a03) + a13*(a02)) - a22*(0 - a11*(a03) + a13*(a01)) + a23*(0 - a11*(a02) + a12*(a01)))) - a41*(0 - b3*(a22*(0 - a13*(a04) + a14*(a03)) - a23*(0 - a12*(a04) + a14*(a02)) + a24*(0 - a12*(a03) + a13*(a02))) + a32*(b2*(0 - a13*(a04) + a14*(a03)) - a23*(0 - b1*(a04) + a14*(b0)) + a24*(0 - b1*(a03) + a13*(b0))) - a33*(b2*(0 - a12*(a04) + a14*(a02)) - a22*(0 - b1*(a04) + a14*(b0)) + a24*(0 - b1*(a02) + a12*(b0))) + a34*(b2*(0 - a12*(a03) + a13*(a02)) - a22*(0 - b1*(a03) + a13*(b0)) + a23*(0 - b1*(a02) + a12*(b0)))) + a42*(0 - b3*(a21*(0 - a13*(a04) + a14*(a03)) - a23*(0 - a11*(a04) + a14*(a01)) + a24*(0 - a11*(a03) + a13*(a01))) + a31*(b2*(0 - a13*(a04) + a14*(a03)) - a23*(0 - b1*(a04) + a14*(b0)) + a24*(0 - b1*(a03) + a13*(b0))) - a33*(b2*(0 - a11*(a04) + a14*(a01)) - a21*(0 - b1*(a04) + a14*(b0)) + a24*(0 - b1*(a01) + a11*(b0))) + a34*(b2*(0 - a11*(a03) + a13*(a01)) - a21*(0 - b1*(a03) + a13*(b0)) + a23*(0 - b1*(a01) + a11*(b0)))) - a43*(0 - b3*(a21*(0 - a12*(a04) + a14*(a02)) - a22*(0 - a11*(a04) + a14*(a01)) + a24*(0 - a11*(a02) + a12*(a01))) + a31*(b2*(0 - a12*(a04) + a14*(a02)) - a22*(0 - b1*(a04) + a14*(b0)) + a24*(0 - b1*(a02) + a12*(b0))) - a32*(b2*(0 - a11*(a04) + a14*(a01)) - a21*(0 - b1*(a04) + a14*(b0)) + a24*(0 - b1*(a01) + a11*(b0))) + a34*(b2*(0 - a11*(a02) + a12*(a01)) - a21*(0 - b1*(a02) + a12*(b0)) + a22*(0 - b1*(a01) + a11*(b0)))) + a44*(0 - b3*(a21*(0 - a12*(a03) + a13*(a02)) - a22*(0 - a11*(a03) + a13*(a01)) + a23*(0 - a11*(a02) + a12*(a01))) + a31*(b2*(0 - a12*(a03) + a13*(a02)) - a22*(0 - b1*(a03) + a13*(b0)) + a23*(0 - b1*(a02) + a12*(b0))) - a32*(b2*(0 - a11*(a03) + a13*(a01)) - a21*(0 - b1*(a03) + a13*(b0)) + a23*(0 - b1*(a01) + a11*(b0))) + a33*(b2*(0 - a11*(a02) + a12*(a01)) - a21*(0 - b1*(a02) + a12*(b0)) + a22*(0 - b1*(a01) + a11*(b0))))) + a01 * (a40*(0 - b3*(a22*(0 - a13*(a04) + a14*(a03)) - a23*(0 - a12*(a04) + a14*(a02)) + a24*(0 - a12*(a03) + a13*(a02))) + a32*(b2*(0 - a13*(a04) + a14*(a03)) - a23*(0 - b1*(a04) + a14*(b0)) + a24*(0 - b1*(a03) + a13*(b0))) - a33*(b2*(0 - a12*(a04) + a14*(a02)) - a22*(0 - b1*(a04) + a14*(b0)) + a24*(0 - b1*(a02) + a12*(b0))) + a34*(b2*(0 - a12*(a03) + a13*(a02)) - a22*(0 - b1*(a03) + a13*(b0)) + a23*(0 - b1*(a02) + a12*(b0)))) - b4*(0 - a30*(a22*(0 - a13*(a04) + a14*(a03)) - a23*(0 - a12*(a04) + a14*(a02)) + a24*(0 - a12*(a03) + a13*(a02))) + a32*(a20*(0 - a13*(a04) + a14*(a03)) - a23*(0 - a10*(a04) + a14*(a00)) + a24*(0 - a10*(a03) + a13*(a00))) - a33*(a20*(0 - a12*(a04) + a14*(a02)) - a22*(0 - a10*(a04) + a14*(a00)) + a24*(0 - a10*(a02) + a12*(a00))) + a34*(a20*(0 - a12*(a03) + a13*(a02)) - a22*(0 - a10*(a03) + a13*(a00)) + a23*(0 - a10*(a02) + a12*(a00)))) + a42*(0 - a30*(b2*(0 - a13*(a04) + a14*(a03)) - a23*(0 - b1*(a04) + a14*(b0)) + a24*(0 - b1*(a03) + a13*(b0))) + b3*(a20*(0 - a13*(a04) + a14*(a03)) - a23*(0 - a10*(a04) + a14*(a00)) + a24*(0 - a10*(a03) + a13*(a00))) - a33*(a20*(0 - b1*(a04) + a14*(b0)) - b2*(0 - a10*(a04) + a14*(a00)) + a24*(0 - a10*(b0) + b1*(a00))) + a34*(a20*(0 - b1*(a03) + a13*(b0)) - b2*(0 - a10*(a03) + a13*(a00)) + a23*(0 - a10*(b0) + b1*(a00)))) - a43*(0 - a30*(b2*(0 - a12*(a04) + a14*(a02)) - a22*(0 - b1*(a04) + a14*(b0)) + a24*(0 - b1*(a02) + a12*(b0))) + b3*(a20*(0 - a12*(a04) + a14*(a02)) - a22*(0 - a10*(a04) + a14*(a00)) + a24*(0 - a10*(a02) + a12*(a00))) - a32*(a20*(0 - b1*(a04) + a14*(b0)) - b2*(0 - a10*(a04) + a14*(a00)) + a24*(0 - a10*(b0) + b1*(a00))) + a34*(a20*(0 - b1*(a02) + a12*(b0)) - b2*(0 - a10*(a02) + a12*(a00)) + a22*(0 - a10*(b0) + b1*(a00)))) + a44*(0 - a30*(b2*(0 - a12*(a03) + a13*(a02)) - a22*(0 - b1*(a03) + a13*(b0)) + a23*(0 - b1*(a02) + a12*(b0))) + b3*(a20*(0 - a12*(a03) + a13*(a02)) - a22*(0 - a10*(a03) + a13*(a00)) + a23*(0 - a10*(a02) + a12*(a00))) - a32*(a20*(0 - b1*(a03) + a13*(b0)) - b2*(0 - a10*(a03) + a13*(a00)) + a23*(0 - a10*(b0) + b1*(a00))) + a33*(a20*(0 - b1*(a02) + a12*(b0)) - b2*(0 - a10*(a02) + a12*(a00)) + a22*(0 - a10*(b0) + b1*(a00))))) + a02 * (a40*(0 - a31*(b2*(0 - a13*(a04) + a14*(a03)) - a23*(0 - b1*(a04) + a14*(b0)) + a24*(0 - b1*(a03) + a13*(b0))) + b3*(a21*(0 - a13*(a04) + a14*(a03)) - a23*(0 - a11*(a04) + a14*(a01)) + a24*(0 - a11*(a03) + a13*(a01))) - a33*(a21*(0 - b1*(a04) + a14*(b0)) - b2*(0 - a11*(a04) + a14*(a01)) + a24*(0 - a11*(b0) + b1*(a01))) + a34*(a21*(0 - b1*(a03) + a13*(b0)) - b2*(0 - a11*(a03) + a13*(a01)) + a23*(0 - a11*(b0) + b1*(a01)))) - a41*(0 - a30*(b2*(0 - a13*(a04) + a14*(a03)) - a23*(0 - b1*(a04) + a14*(b0)) + a24*(0 - b1*(a03) + a13*(b0))) + b3*(a20*(0 - a13*(a04) + a14*(a03)) - a23*(0 - a10*(a04) + a14*(a00)) + a24*(0 - a10*(a03) + a13*(a00))) - a33*(a20*(0 - b1*(a04) + a14*(b0)) - b2*(0 - a10*(a04) + a14*(a00)) + a24*(0 - a10*(b0) + b1*(a00))) + a34*(a20*(0 - b1*(a03) + a13*(b0)) - b2*(0 - a10*(a03) + a13*(a00)) + a23*(0 - a10*(b0) + b1*(a00)))) + b4*(0 - a30*(a21*(0 - a13*(a04) + a14*(a03)) - a23*(0 - a11*(a04) + a14*(a01)) + a24*(0 - a11*(a03) + a13*(a01))) + a31*(a20*(0 - a13*(a04) + a14*(a03)) - a23*(0 - a10*(a04) + a14*(a00)) + a24*(0 - a10*(a03) + a13*(a00))) - a33*(a20*(0 - a11*(a04) + a14*(a01)) - a21*(0 - a10*(a04) + a14*(a00)) + a24*(0 - a10*(a01) + a11*(a00))) + a34*(a20*(0 - a11*(a03) + a13*(a01)) - a21*(0 - a10*(a03) + a13*(a00)) + a23*(0 - a10*(a01) + a11*(a00)))) - a43*(0 - a30*(a21*(0 - b1*(a04) + a14*(b0)) - b2*(0 - a11*(a04) + a14*(a01)) + a24*(0 - a11*(b0) + b1*(a01))) + a31*(a20*(0 - b1*(a04) + a14*(b0)) - b2*(0 - a10*(a04) + a14*(a00)) + a24*(0 - a10*(b0) + b1*(a00))) - b3*(a20*(0 - a11*(a04) + a14*(a01)) - a21*(0 - a10*(a04) + a14*(a00)) + a24*(0 - a10*(a01) + a11*(a00))) + a34*(a20*(0 - a11*(b0) + b1*(a01)) - a21*(0 - a10*(b0) + b1*(a00)) + b2*(0 - a10*(a01) + a11*(a00)))) + a44*(0 - a30*(a21*(0 - b1*(a03) + a13*(b0)) - b2*(0 - a11*(a03) + a13*(a01)) + a23*(0 - a11*(b0) + b1*(a01))) + a31*(a20*(0 - b1*(a03) + a13*(b0)) - b2*(0 - a10*(a03) + a13*(a00)) + a23*(0 - a10*(b0) + b1*(a00))) - b3*(a20*(0 - a11*(a03) + a13*(a01)) - a21*(0 - a10*(a03) + a13*(a00)) + a23*(0 - a10*(a01) + a11*(a00))) + a33*(a20*(0 - a11*(b0) + b1*(a01)) - a21*(0 - a10*(b0) + b1*(a00)) + b2*(0 - a10*(a01) + a11*(a00))))) + a03 * (a40*(0 - a31*(a22*(0 - b1*(a04) + a14*(b0)) - b2*(0 - a12*(a04) + a14*(a02)) + a24*(0 - a12*(b0) + b1*(a02))) + a32*(a21*(0 - b1*(a04) + a14*(b0)) - b2*(0 - a11*(a04) + a14*(a01)) + a24*(0 - a11*(b0) + b1*(a01))) - b3*(a21*(0 - a12*(a04) + a14*(a02)) - a22*(0 - a11*(a04) + a14*(a01)) + a24*(0 - a11*(a02) + a12*(a01))) + a34*(a21*(0 - a12*(b0) + b1*(a02)) - a22*(0 - a11*(b0) + b1*(a01)) + b2*(0 - a11*(a02) + a12*(a01)))) - a41*(0 - a30*(a22*(0 - b1*(a04) + a14*(b0)) - b2*(0 - a12*(a04) + a14*(a02)) + a24*(0 - a12*(b0) + b1*(a02))) + a32*(a20*(0 - b1*(a04) + a14*(b0)) - b2*(0 - a10*(a04) + a14*(a00)) + a24*(0 - a10*(b0) + b1*(a00))) - b3*(a20*(0 - a12*(a04) + a14*(a02)) - a22*(0 - a10*(a04) + a14*(a00)) + a24*(0 - a10*(a02) + a12*(a00))) + a34*(a20*(0 - a12*(b0) + b1*(a02)) - a22*(0 - a10*(b0) + b1*(a00)) + b2*(0 - a10*(a02) + a12*(a00)))) + a42*(0 - a30*(a21*(0 - b1*(a04) + a14*(b0)) - b2*(0 - a11*(a04) + a14*(a01)) + a24*(0 - a11*(b0) + b1*(a01))) + a31*(a20*(0 - b1*(a04) + a14*(b0)) - b2*(0 - a10*(a04) + a14*(a00)) + a24*(0 - a10*(b0) + b1*(a00))) - b3*(a20*(0 - a11*(a04) + a14*(a01)) - a21*(0 - a10*(a04) + a14*(a00)) + a24*(0 - a10*(a01) + a11*(a00))) + a34*(a20*(0 - a11*(b0) + b1*(a01)) - a21*(0 - a10*(b0) + b1*(a00)) + b2*(0 - a10*(a01) + a11*(a00)))) - b4*(0 - a30*(a21*(0 - a12*(a04) + a14*(a02)) - a22*(0 - a11*(a04) + a14*(a01)) + a24*(0 - a11*(a02) + a12*(a01))) + a31*(a20*(0 - a12*(a04) + a14*(a02)) - a22*(0 - a10*(a04) + a14*(a00)) + a24*(0 - a10*(a02) + a12*(a00))) - a32*(a20*(0 - a11*(a04) + a14*(a01)) - a21*(0 - a10*(a04) + a14*(a00)) + a24*(0 - a10*(a01) + a11*(a00))) + a34*(a20*(0 - a11*(a02) + a12*(a01)) - a21*(0 - a10*(a02) + a12*(a00)) + a22*(0 - a10*(a01) + a11*(a00)))) + a44*(0 - a30*(a21*(0 - a12*(b0) + b1*(a02)) - a22*(0 - a11*(b0) + b1*(a01)) + b2*(0 - a11*(a02) + a12*(a01))) + a31*(a20*(0 - a12*(b0) + b1*(a02)) - a22*(0 - a10*(b0) + b1*(a00)) + b2*(0 - a10*(a02) + a12*(a00))) - a32*(a20*(0 - a11*(b0) + b1*(a01)) - a21*(0 - a10*(b0) + b1*(a00)) + b2*(0 - a10*(a01) + a11*(a00))) + b3*(a20*(0 - a11*(a02) + a12*(a01)) - a21*(0 - a10*(a02) + a12*(a00)) + a22*(0 - a10*(a01) + a11*(a00))))) + a04 * (a40*(0 - a31*(a22*(0 - a13*(b0) + b1*(a03)) - a23*(0 - a12*(b0) + b1*(a02)) + b2*(0 - a12*(a03) + a13*(a02))) + a32*(a21*(0 - a13*(b0) + b1*(a03)) - a23*(0 - a11*(b0) + b1*(a01)) + b2*(0 - a11*(a03) + a13*(a01))) - a33*(a21*(0 - a12*(b0) + b1*(a02)) - a22*(0 - a11*(b0) + b1*(a01)) + b2*(0 - a11*(a02) + a12*(a01))) + b3*(a21*(0 - a12*(a03) + a13*(a02)) - a22*(0 - a11*(a03) + a13*(a01)) + a23*(0 - a11*(a02) + a12*(a01)))) - a41*(0 - a30*(a22*(0 - a13*(b0) + b1*(a03)) - a23*(0 - a12*(b0) + b1*(a02)) + b2*(0 - a12*(a03) + a13*(a02))) + a32*(a20*(0 - a13*(b0) + b1*(a03)) - a23*(0 - a10*(b0) + b1*(a00)) + b2*(0 - a10*(a03) + a13*(a00))) - a33*(a20*(0 - a12*(b0) + b1*(a02)) - a22*(0 - a10*(b0) + b1*(a00)) + b2*(0 - a10*(a02) + a12*(a00))) + b3*(a20*(0 - a12*(a03) + a13*(a02)) - a22*(0 - a10*(a03) + a13*(a00)) + a23*(0 - a10*(a02) + a12*(a00)))) + a42*(0 - a30*(a21*(0 - a13*(b0) + b1*(a03)) - a23*(0 - a11*(b0) + b1*(a01)) + b2*(0 - a11*(a03) + a13*(a01))) + a31*(a20*(0 - a13*(b0) + b1*(a03)) - a23*(0 - a10*(b0) + b1*(a00)) + b2*(0 - a10*(a03) + a13*(a00))) - a33*(a20*(0 - a11*(b0) + b1*(a01)) - a21*(0 - a10*(b0) + b1*(a00)) + b2*(0 - a10*(a01) + a11*(a00))) + b3*(a20*(0 - a11*(a03) + a13*(a01)) - a21*(0 - a10*(a03) + a13*(a00)) + a23*(0 - a10*(a01) + a11*(a00)))) - a43*(0 - a30*(a21*(0 - a12*(b0) + b1*(a02)) - a22*(0 - a11*(b0) + b1*(a01)) + b2*(0 - a11*(a02) + a12*(a01))) + a31*(a20*(0 - a12*(b0) + b1*(a02)) - a22*(0 - a10*(b0) + b1*(a00)) + b2*(0 - a10*(a02) + a12*(a00))) - a32*(a20*(0 - a11*(b0) + b1*(a01)) - a21*(0 - a10*(b0) + b1*(a00)) + b2*(0 - a10*(a01) + a11*(a00))) + b3*(a20*(0 - a11*(a02) + a12*(a01)) - a21*(0 - a10*(a02) + a12*(a00)) + a22*(0 - a10*(a01) + a11*(a00)))) + b4*(0 - a30*(a21*(0 - a12*(a03) + a13*(a02)) - a22*(0 - a11*(a03) + a13*(a01)) + a23*(0 - a11*(a02) + a12*(a01))) + a31*(a20*(0 - a12*(a03) + a13*(a02)) - a22*(0 - a10*(a03) + a13*(a00)) + a23*(0 - a10*(a02) + a12*(a00))) - a32*(a20*(0 - a11*(a03) + a13*(a01)) - a21*(0 - a10*(a03) + a13*(a00)) + a23*(0 - a10*(a01) + a11*(a00))) + a33*(a20*(0 - a11*(a02) + a12*(a01)) - a21*(0 - a10*(a02) + a12*(a00)) + a22*(0 - a10*(a01) + a11*(a00))))) = (a40*(0 - a31*(a22*(0 - a13*(a04) + a14*(a03)) - a23*(0 - a12*(a04) + a14*(a02)) + a24*(0 - a12*(a03) + a13*(a02))) + a32*(a21*(0 - a13*(a04) + a14*(a03)) - a23*(0 - a11*(a04) + a14*(a01)) + a24*(0 - a11*(a03) + a13*(a01))) - a33*(a21*(0 - a12*(a04) + a14*(a02)) - a22*(0 - a11*(a04) + a14*(a01)) + a24*(0 - a11*(a02) + a12*(a01))) + a34*(a21*(0 - a12*(a03) + a13*(a02)) - a22*(0 - a11*(a03) + a13*(a01)) + a23*(0 - a11*(a02) + a12*(a01)))) - a41*(0 - a30*(a22*(0 - a13*(a04) + a14*(a03)) - a23*(0 - a12*(a04) + a14*(a02)) + a24*(0 - a12*(a03) + a13*(a02))) + a32*(a20*(0 - a13*(a04) + a14*(a03)) - a23*(0 - a10*(a04) + a14*(a00)) + a24*(0 - a10*(a03) + a13*(a00))) - a33*(a20*(0 - a12*(a04) + a14*(a02)) - a22*(0 - a10*(a04) + a14*(a00)) + a24*(0 - a10*(a02) + a12*(a00))) + a34*(a20*(0 - a12*(a03) + a13*(a02)) - a22*(0 - a10*(a03) + a13*(a00)) + a23*(0 - a10*(a02) + a12*(a00)))) + a42*(0 - a30*(a21*(0 - a13*(a04) + a14*(a03)) - a23*(0 - a11*(a04) + a14*(a01)) + a24*(0 - a11*(a03) + a13*(a01))) + a31*(a20*(0 - a13*(a04) + a14*(a03)) - a23*(0 - a10*(a04) + a14*(a00)) + a24*(0 - a10*(a03) + a13*(a00))) - a33*(a20*(0 - a11*(a04) + a14*(a01)) - a21*(0 - a10*(a04) + a14*(a00)) + a24*(0 - a10*(a01) + a11*(a00))) + a34*(a20*(0 - a11*(a03) + a13*(a01)) - a21*(0 - a10*(a03) + a13*(a00)) + a23*(0 - a10*(a01) + a11*(a00)))) - a43*(0 - a30*(a21*(0 - a12*(a04) + a14*(a02)) - a22*(0 - a11*(a04) + a14*(a01)) + a24*(0 - a11*(a02) + a12*(a01))) + a31*(a20*(0 - a12*(a04) + a14*(a02)) - a22*(0 - a10*(a04) + a14*(a00)) + a24*(0 - a10*(a02) + a12*(a00))) - a32*(a20*(0 - a11*(a04) + a14*(a01)) - a21*(0 - a10*(a04) + a14*(a00)) + a24*(0 - a10*(a01) + a11*(a00))) + a34*(a20*(0 - a11*(a02) + a12*(a01)) - a21*(0 - a10*(a02) + a12*(a00)) + a22*(0 - a10*(a01) + a11*(a00)))) + a44*(0 - a30*(a21*(0 - a12*(a03) + a13*(a02)) - a22*(0 - a11*(a03) + a13*(a01)) + a23*(0 - a11*(a02) + a12*(a01))) + a31*(a20*(0 - a12*(a03) + a13*(a02)) - a22*(0 - a10*(a03) + a13*(a00)) + a23*(0 - a10*(a02) + a12*(a00))) - a32*(a20*(0 - a11*(a03) + a13*(a01)) - a21*(0 - a10*(a03) + a13*(a00)) + a23*(0 - a10*(a01) + a11*(a00))) + a33*(a20*(0 - a11*(a02) + a12*(a01)) - a21*(0 - a10*(a02) + a12*(a00)) + a22*(0 - a10*(a01) + a11*(a00))))) * b0 := by grind
set_option maxHeartbeats 4000000 in
set_option maxRecDepth 100000 in
theorem cram5 (A : Nat → Nat → Int) (b : Nat → Int) : A 0 0 * DI (rcI A 0 b) 5 + A 0 1 * DI (rcI A 1 b) 5 + A 0 2 * DI (rcI A 2 b) 5 + A 0 3 * DI (rcI A 3 b) 5 + A 0 4 * DI (rcI A 4 b) 5 = DI A 5 * b 0 := cra5 (A 0 0) (A 0 1) (A 0 2) (A 0 3) (A 0 4) (A 1 0) (A 1 1) (A 1 2) (A 1 3) (A 1 4) (A 2 0) (A 2 1) (A 2 2) (A 2 3) (A 2 4) (A 3 0) (A 3 1) (A 3 2) (A 3 3) (A 3 4) (A 4 0) (A 4 1) (A 4 2) (A 4 3) (A 4 4) (b 0) (b 1) (b 2) (b 3) (b 4)
def Zm (A : Nat → Nat → Int) (m : Nat) : Prop := ∀ i j, i < m → j < m → i ≠ j → A i j ≤ 0
def Pm : Nat → (Nat → Nat → Int) → Prop
  | 0, _ => True
  | m + 1, A => 0 < A 0 0 ∧ Pm m (sch A)
theorem Pm_c : ∀ {m : Nat} {A B : Nat → Nat → Int}, (∀ i j, i < m → j < m → A i j = B i j) → Pm m A → Pm m B
  | 0, _, _, _, _ => trivial
  | m + 1, A, B, h, hp => by
    refine ⟨by rw [← h 0 0 (by omega) (by omega)]; exact hp.1, Pm_c (fun i j hi hj => ?_) hp.2⟩
    show A 0 0 * A (i + 1) (j + 1) - A (i + 1) 0 * A 0 (j + 1) = B 0 0 * B (i + 1) (j + 1) - B (i + 1) 0 * B 0 (j + 1)
    rw [h 0 0 (by omega) (by omega), h (i + 1) (j + 1) (by omega) (by omega), h (i + 1) 0 (by omega) (by omega), h 0 (j + 1) (by omega) (by omega)]
theorem Zm_sch {A : Nat → Nat → Int} {m : Nat} (h : Zm A (m + 1)) (h0 : 0 < A 0 0) : Zm (sch A) m := by
  intro i j hi hj hij
  have h1 := h (i + 1) (j + 1) (by omega) (by omega) (by omega)
  have h2 := h (i + 1) 0 (by omega) (by omega) (by omega)
  have h3 := h 0 (j + 1) (by omega) (by omega) (by omega)
  have k1 : A 0 0 * A (i + 1) (j + 1) ≤ 0 := Int.mul_nonpos_of_nonneg_of_nonpos (by omega) h1
  have k2 : 0 ≤ A (i + 1) 0 * A 0 (j + 1) := Int.mul_nonneg_of_nonpos_of_nonpos h2 h3
  show A 0 0 * A (i + 1) (j + 1) - A (i + 1) 0 * A 0 (j + 1) ≤ 0
  omega
/-- the heart of it, with the numbers scaled -/
theorem mono_1 {a c x y u v r t : Int} (hc : 0 < c) (hac : c ≤ a) (hxy : y ≤ x) (h1 : r ≤ u) (h2 : u ≤ 0) (h3 : t ≤ v) (h4 : v ≤ 0) : a * (c * y - r * t) ≤ c * (a * x - u * v) := by
  have e1 : c * a * y ≤ c * a * x := Int.mul_le_mul_of_nonneg_left hxy (Int.mul_nonneg (by omega) (by omega))
  have e2 : u * v ≤ r * t := by
    have := Int.mul_le_mul (show -u ≤ -r by omega) (show -v ≤ -t by omega) (by omega) (by omega)
    rw [Int.neg_mul_neg, Int.neg_mul_neg] at this; exact this
  have e3 : 0 ≤ u * v := Int.mul_nonneg_of_nonpos_of_nonpos h2 h4
  have e4 : c * (u * v) ≤ a * (r * t) := Int.mul_le_mul hac e2 e3 (by omega)
  have e5 : a * (c * y - r * t) = c * a * y - a * (r * t) := by grind
  have e6 : c * (a * x - u * v) = c * a * x - c * (u * v) := by grind
  omega
theorem mono : ∀ {m : Nat} {A C : Nat → Nat → Int} {p q : Int}, 0 < p → 0 < q → Zm A m → Zm C m → (∀ i j, i < m → j < m → q * C i j ≤ p * A i j) → Pm m C → Pm m A
  | 0, _, _, _, _, _, _, _, _, _, _ => trivial
  | m + 1, A, C, p, q, hp, hq, zA, zC, h, pc => by
    have c0 : 0 < q * C 0 0 := Int.mul_pos hq pc.1
    have a0' : 0 < p * A 0 0 := Int.lt_of_lt_of_le c0 (h 0 0 (by omega) (by omega))
    have a0 : 0 < A 0 0 := by
      rcases (show 0 < A 0 0 ∨ A 0 0 ≤ 0 by omega) with z | z
      · exact z
      · have := Int.mul_nonpos_of_nonneg_of_nonpos (show (0 : Int) ≤ p by omega) z; omega
    refine ⟨a0, mono (p := q * C 0 0 * (p * p)) (q := p * A 0 0 * (q * q)) (C := sch C) (Int.mul_pos c0 (Int.mul_pos hp hp)) (Int.mul_pos a0' (Int.mul_pos hq hq)) (Zm_sch zA a0) (Zm_sch zC pc.1) (fun i j hi hj => ?_) pc.2⟩
    have g1 := h 0 0 (by omega) (by omega)
    have g2 := h (i + 1) (j + 1) (by omega) (by omega)
    have g3 := h (i + 1) 0 (by omega) (by omega)
    have g4 := h 0 (j + 1) (by omega) (by omega)
    have z3 := zA (i + 1) 0 (by omega) (by omega) (by omega)
    have z4 := zA 0 (j + 1) (by omega) (by omega) (by omega)
    have key := mono_1 c0 g1 g2 g3 (Int.mul_nonpos_of_nonneg_of_nonpos (by omega) z3) g4 (Int.mul_nonpos_of_nonneg_of_nonpos (by omega) z4)
    have e1 : p * A 0 0 * (q * C 0 0 * (q * C (i + 1) (j + 1)) - q * C (i + 1) 0 * (q * C 0 (j + 1))) = p * A 0 0 * (q * q) * sch C i j := by unfold sch; grind
    have e2 : q * C 0 0 * (p * A 0 0 * (p * A (i + 1) (j + 1)) - p * A (i + 1) 0 * (p * A 0 (j + 1))) = q * C 0 0 * (p * p) * sch A i j := by unfold sch; grind
    rw [e1, e2] at key
    exact key
def sk (d i : Nat) : Nat := if i < d then i else i + 1
def dl (d : Nat) (A : Nat → Nat → Int) : Nat → Nat → Int := fun i j => A (sk d i) (sk d j)
theorem sk_lt {d i m : Nat} (h : i < m) : sk d i < m + 1 := by unfold sk; split <;> omega
theorem sk_ne {d i j : Nat} (h : i ≠ j) : sk d i ≠ sk d j := by unfold sk; split <;> split <;> omega
theorem sk_s (d i : Nat) : sk (d + 1) (i + 1) = sk d i + 1 := by unfold sk; split <;> split <;> omega
theorem Zm_dl {A : Nat → Nat → Int} {m : Nat} (d : Nat) (h : Zm A (m + 1)) : Zm (dl d A) m := fun i j hi hj hij => h _ _ (sk_lt hi) (sk_lt hj) (sk_ne hij)
/-- a row and its column taken away -/
theorem Pm_dl : ∀ {m : Nat} {A : Nat → Nat → Int} (d : Nat), d ≤ m → Zm A (m + 1) → Pm (m + 1) A → Pm m (dl d A)
  | 0, _, _, _, _, _ => trivial
  | m + 1, A, 0, _, z, hp => by
    refine mono (C := sch A) (p := A 0 0) (q := 1) hp.1 (by decide) (Zm_dl 0 z) (Zm_sch z hp.1) (fun i j hi hj => ?_) hp.2
    rw [Int.one_mul]
    by_cases c : i = j
    · subst c
      have h2 := z (i + 1) 0 (by omega) (by omega) (by omega)
      have h3 := z 0 (i + 1) (by omega) (by omega) (by omega)
      have k2 : 0 ≤ A (i + 1) 0 * A 0 (i + 1) := Int.mul_nonneg_of_nonpos_of_nonpos h2 h3
      show A 0 0 * A (i + 1) (i + 1) - A (i + 1) 0 * A 0 (i + 1) ≤ A 0 0 * A (sk 0 i) (sk 0 i)
      rw [show sk 0 i = i + 1 from rfl]; omega
    · have h2 := z (i + 1) 0 (by omega) (by omega) (by omega)
      have h3 := z 0 (j + 1) (by omega) (by omega) (by omega)
      have k2 : 0 ≤ A (i + 1) 0 * A 0 (j + 1) := Int.mul_nonneg_of_nonpos_of_nonpos h2 h3
      show A 0 0 * A (i + 1) (j + 1) - A (i + 1) 0 * A 0 (j + 1) ≤ A 0 0 * A (sk 0 i) (sk 0 j)
      rw [show sk 0 i = i + 1 from rfl, show sk 0 j = j + 1 from rfl]; omega
  | m + 1, A, d + 1, hd, z, hp => by
    have e0 : sk (d + 1) 0 = 0 := by unfold sk; rw [if_pos (by omega)]
    refine ⟨?_, Pm_c (fun i j hi hj => ?_) (Pm_dl (A := sch A) d (by omega) (Zm_sch z hp.1) hp.2)⟩
    · show 0 < A (sk (d + 1) 0) (sk (d + 1) 0)
      rw [e0]; exact hp.1
    · show A 0 0 * A (sk d i + 1) (sk d j + 1) - A (sk d i + 1) 0 * A 0 (sk d j + 1) = A (sk (d + 1) 0) (sk (d + 1) 0) * A (sk (d + 1) (i + 1)) (sk (d + 1) (j + 1)) - A (sk (d + 1) (i + 1)) (sk (d + 1) 0) * A (sk (d + 1) 0) (sk (d + 1) (j + 1))
      rw [e0, sk_s, sk_s]
theorem DI_c1 {A B : Nat → Nat → Int} (h : ∀ i j, i < 1 → j < 1 → A i j = B i j) : DI A 1 = DI B 1 := by
  unfold DI; simp only []; rw [h 0 0 (by decide) (by decide)]
theorem DI_c2 {A B : Nat → Nat → Int} (h : ∀ i j, i < 2 → j < 2 → A i j = B i j) : DI A 2 = DI B 2 := by
  unfold DI; simp only []; rw [h 0 0 (by decide) (by decide), h 0 1 (by decide) (by decide), h 1 0 (by decide) (by decide), h 1 1 (by decide) (by decide)]
theorem DI_c3 {A B : Nat → Nat → Int} (h : ∀ i j, i < 3 → j < 3 → A i j = B i j) : DI A 3 = DI B 3 := by
  unfold DI; simp only []; rw [h 0 0 (by decide) (by decide), h 0 1 (by decide) (by decide), h 0 2 (by decide) (by decide), h 1 0 (by decide) (by decide), h 1 1 (by decide) (by decide), h 1 2 (by decide) (by decide), h 2 0 (by decide) (by decide), h 2 1 (by decide) (by decide), h 2 2 (by decide) (by decide)]
theorem DI_c4 {A B : Nat → Nat → Int} (h : ∀ i j, i < 4 → j < 4 → A i j = B i j) : DI A 4 = DI B 4 := by
  unfold DI; simp only []; rw [h 0 0 (by decide) (by decide), h 0 1 (by decide) (by decide), h 0 2 (by decide) (by decide), h 0 3 (by decide) (by decide), h 1 0 (by decide) (by decide), h 1 1 (by decide) (by decide), h 1 2 (by decide) (by decide), h 1 3 (by decide) (by decide), h 2 0 (by decide) (by decide), h 2 1 (by decide) (by decide), h 2 2 (by decide) (by decide), h 2 3 (by decide) (by decide), h 3 0 (by decide) (by decide), h 3 1 (by decide) (by decide), h 3 2 (by decide) (by decide), h 3 3 (by decide) (by decide)]
theorem DI_c5 {A B : Nat → Nat → Int} (h : ∀ i j, i < 5 → j < 5 → A i j = B i j) : DI A 5 = DI B 5 := by
  unfold DI; simp only []; rw [h 0 0 (by decide) (by decide), h 0 1 (by decide) (by decide), h 0 2 (by decide) (by decide), h 0 3 (by decide) (by decide), h 0 4 (by decide) (by decide), h 1 0 (by decide) (by decide), h 1 1 (by decide) (by decide), h 1 2 (by decide) (by decide), h 1 3 (by decide) (by decide), h 1 4 (by decide) (by decide), h 2 0 (by decide) (by decide), h 2 1 (by decide) (by decide), h 2 2 (by decide) (by decide), h 2 3 (by decide) (by decide), h 2 4 (by decide) (by decide), h 3 0 (by decide) (by decide), h 3 1 (by decide) (by decide), h 3 2 (by decide) (by decide), h 3 3 (by decide) (by decide), h 3 4 (by decide) (by decide), h 4 0 (by decide) (by decide), h 4 1 (by decide) (by decide), h 4 2 (by decide) (by decide), h 4 3 (by decide) (by decide), h 4 4 (by decide) (by decide)]
theorem DI_c {A B : Nat → Nat → Int} {n : Nat} (h5 : n ≤ 5) (h1 : 1 ≤ n) (h : ∀ i j, i < n → j < n → A i j = B i j) : DI A n = DI B n := by
  rcases (show n = 1 ∨ n = 2 ∨ n = 3 ∨ n = 4 ∨ n = 5 by omega) with rfl | rfl | rfl | rfl | rfl
  · exact DI_c1 h
  · exact DI_c2 h
  · exact DI_c3 h
  · exact DI_c4 h
  · exact DI_c5 h
theorem chioG {A : Nat → Nat → Int} {j : Nat} (h1 : 1 ≤ j) (h4 : j ≤ 4) (h0 : 0 < A 0 0) : ∃ c : Int, 0 < c ∧ c * DI A (j + 1) = DI (sch A) j := by
  rcases (show j = 1 ∨ j = 2 ∨ j = 3 ∨ j = 4 by omega) with rfl | rfl | rfl | rfl
  · exact ⟨1, by decide, chio2 A⟩
  · exact ⟨_, h0, chio3 A⟩
  · exact ⟨_, Int.mul_pos h0 h0, chio4 A⟩
  · exact ⟨_, Int.mul_pos (Int.mul_pos h0 h0) h0, chio5 A⟩
theorem sgn_p {c x y : Int} (hc : 0 < c) (e : c * x = y) : (0 < y → 0 < x) ∧ (0 < x → 0 < y) ∧ (0 ≤ y → 0 ≤ x) := by
  refine ⟨fun h => ?_, fun h => by rw [← e]; exact Int.mul_pos hc h, fun h => ?_⟩
  · rcases (show 0 < x ∨ x ≤ 0 by omega) with z | z
    · exact z
    · have := Int.mul_nonpos_of_nonneg_of_nonpos (show (0 : Int) ≤ c by omega) z; omega
  · rcases (show 0 ≤ x ∨ x < 0 by omega) with z | z
    · exact z
    · have := Int.mul_neg_of_pos_of_neg hc z; omega
theorem P_of_LM : ∀ {m : Nat} {A : Nat → Nat → Int}, m ≤ 5 → (∀ j, 1 ≤ j → j ≤ m → 0 < DI A j) → Pm m A
  | 0, _, _, _ => trivial
  | m + 1, A, h5, h => by
    have h0 : 0 < A 0 0 := h 1 (by omega) (by omega)
    refine ⟨h0, P_of_LM (by omega) (fun j h1 hm => ?_)⟩
    obtain ⟨c, hc, e⟩ := chioG (A := A) h1 (by omega) h0
    exact (sgn_p hc e).2.1 (h (j + 1) (by omega) (by omega))
theorem LM_of_P : ∀ {m : Nat} {A : Nat → Nat → Int}, m ≤ 5 → Pm m A → ∀ j, 1 ≤ j → j ≤ m → 0 < DI A j
  | 0, _, _, _, j, h1, hm => absurd h1 (by omega)
  | m + 1, A, h5, h, j, h1, hm => by
    rcases (show j = 1 ∨ ∃ i, j = i + 1 ∧ 1 ≤ i by rcases (show j = 1 ∨ 2 ≤ j by omega) with z | z; exact Or.inl z; exact Or.inr ⟨j - 1, by omega, by omega⟩) with rfl | ⟨i, rfl, hi⟩
    · exact h.1
    · obtain ⟨c, hc, e⟩ := chioG (A := A) hi (by omega) h.1
      exact (sgn_p hc e).1 (LM_of_P (by omega) h.2 i hi (by omega))
theorem N_pos : ∀ {m : Nat} {A : Nat → Nat → Int} {b : Nat → Int}, 1 ≤ m → m ≤ 5 → Zm A m → Pm m A → (∀ i, i < m → 0 ≤ b i) → ∀ d, d < m → 0 ≤ DI (rcI A d b) m
  | 0, _, _, h1, _, _, _, _, _, _ => absurd h1 (by omega)
  | m + 1, A, b, _, h5, z, hp, hb, d, hd => by
    have hS : ∀ d, d < m → 0 ≤ DI (rcI A (d + 1) b) (m + 1) := by
      intro d hd
      have h0 : 0 < rcI A (d + 1) b 0 0 := by
        show 0 < (if 0 = d + 1 then b 0 else A 0 0)
        rw [if_neg (by omega)]; exact hp.1
      obtain ⟨c, hc, e⟩ := chioG (A := rcI A (d + 1) b) (j := m) (by omega) (by omega) h0
      refine (sgn_p hc e).2.2 ?_
      have e2 : DI (sch (rcI A (d + 1) b)) m = DI (rcI (sch A) d (fun i => A 0 0 * b (i + 1) - A (i + 1) 0 * b 0)) m := by
        refine DI_c (by omega) (by omega) (fun i j hi hj => ?_)
        show (if 0 = d + 1 then b 0 else A 0 0) * (if j + 1 = d + 1 then b (i + 1) else A (i + 1) (j + 1)) - (if 0 = d + 1 then b (i + 1) else A (i + 1) 0) * (if j + 1 = d + 1 then b 0 else A 0 (j + 1)) = (if j = d then A 0 0 * b (i + 1) - A (i + 1) 0 * b 0 else A 0 0 * A (i + 1) (j + 1) - A (i + 1) 0 * A 0 (j + 1))
        simp only [if_neg (show ¬ (0 = d + 1) by omega)]
        by_cases c : j = d
        · simp only [if_pos (show j + 1 = d + 1 by omega), if_pos c]
        · simp only [if_neg (show ¬ (j + 1 = d + 1) by omega), if_neg c]
      rw [e2]
      refine N_pos (by omega) (by omega) (Zm_sch z hp.1) hp.2 (fun i hi => ?_) d hd
      have k1 : 0 ≤ A 0 0 * b (i + 1) := Int.mul_nonneg (by have := hp.1; omega) (hb (i + 1) (by omega))
      have k2 : A (i + 1) 0 * b 0 ≤ 0 := Int.mul_nonpos_of_nonpos_of_nonneg (z (i + 1) 0 (by omega) (by omega) (by omega)) (hb 0 (by omega))
      show 0 ≤ A 0 0 * b (i + 1) - A (i + 1) 0 * b 0
      omega
    match d, hd with
    | d + 1, hd => exact hS d (by omega)
    | 0, _ =>
      have hD : 0 ≤ DI A (m + 1) * b 0 := Int.mul_nonneg (by have := LM_of_P h5 hp (m + 1) (by omega) (by omega); omega) (hb 0 (by omega))
      have hN : ∀ c, c < m → A 0 (c + 1) * DI (rcI A (c + 1) b) (m + 1) ≤ 0 := fun c hc => Int.mul_nonpos_of_nonpos_of_nonneg (z 0 (c + 1) (by omega) (by omega) (by omega)) (hS c hc)
      refine (sgn_p hp.1 rfl).2.2 ?_
      rcases (show m = 0 ∨ m = 1 ∨ m = 2 ∨ m = 3 ∨ m = 4 by omega) with rfl | rfl | rfl | rfl | rfl
      · have e := cram1 A b
        have a0 : 0 ≤ DI A 1 * b 0 := hD
        show 0 ≤ A 0 0 * DI (rcI A 0 b) 1
        omega
      · have e := cram2 A b
        have a1 : A 0 1 * DI (rcI A 1 b) 2 ≤ 0 := hN 0 (by omega)
        have a0 : 0 ≤ DI A 2 * b 0 := hD
        show 0 ≤ A 0 0 * DI (rcI A 0 b) 2
        omega
      · have e := cram3 A b
        have a1 : A 0 1 * DI (rcI A 1 b) 3 ≤ 0 := hN 0 (by omega)
        have a2 : A 0 2 * DI (rcI A 2 b) 3 ≤ 0 := hN 1 (by omega)
        have a0 : 0 ≤ DI A 3 * b 0 := hD
        show 0 ≤ A 0 0 * DI (rcI A 0 b) 3
        omega
      · have e := cram4 A b
        have a1 : A 0 1 * DI (rcI A 1 b) 4 ≤ 0 := hN 0 (by omega)
        have a2 : A 0 2 * DI (rcI A 2 b) 4 ≤ 0 := hN 1 (by omega)
        have a3 : A 0 3 * DI (rcI A 3 b) 4 ≤ 0 := hN 2 (by omega)
        have a0 : 0 ≤ DI A 4 * b 0 := hD
        show 0 ≤ A 0 0 * DI (rcI A 0 b) 4
        omega
      · have e := cram5 A b
        have a1 : A 0 1 * DI (rcI A 1 b) 5 ≤ 0 := hN 0 (by omega)
        have a2 : A 0 2 * DI (rcI A 2 b) 5 ≤ 0 := hN 1 (by omega)
        have a3 : A 0 3 * DI (rcI A 3 b) 5 ≤ 0 := hN 2 (by omega)
        have a4 : A 0 4 * DI (rcI A 4 b) 5 ≤ 0 := hN 3 (by omega)
        have a0 : 0 ≤ DI A 5 * b 0 := hD
        show 0 ≤ A 0 0 * DI (rcI A 0 b) 5
        omega
def smI (f : Nat → Int) : Nat → Int
  | 0 => 0
  | n + 1 => smI f n + f n
def tmI (A T : Nat → Int) (k c : Nat) : Int := if k.testBit c then (if evn k (c + 1) then A c * T (k - 2 ^ c) else -(A c * T (k - 2 ^ c))) else 0
def pdFI (a : Nat → Nat → Int) : Nat → Nat → Int
  | 0, _ => 1
  | f + 1, k => if k = 0 then 1 else smI (tmI (a (pop k - 1)) (pdFI a f) k) 5
def Bd : Nat → Int
  | 0 => 1
  | m + 1 => (m + 1) * 300 * Bd m
def cnb (k : Nat) : Nat → Int
  | 0 => 0
  | n + 1 => cnb k n + (if k.testBit n then 1 else 0)
theorem cnb_5 : ∀ k, k < 32 → cnb k 5 = pop k := by decide +kernel
theorem cnb_b (k : Nat) : ∀ n, 0 ≤ cnb k n ∧ cnb k n ≤ n
  | 0 => ⟨Int.le_refl _, Int.le_refl _⟩
  | n + 1 => by
    have := cnb_b k n
    unfold cnb; split <;> omega
theorem Bd_le : ∀ m, m ≤ 4 → 1 ≤ Bd m ∧ 300 * Bd m ≤ 100000000000000 := by decide +kernel
theorem i64_add {x y : Int64} (h1 : -4000000000000000000 ≤ x.toInt + y.toInt) (h2 : x.toInt + y.toInt ≤ 4000000000000000000) : (x + y).toInt = x.toInt + y.toInt := by
  rw [Int64.toInt_add]; exact Int.bmod_eq_of_le (by omega) (by omega)
theorem i64_mul {x y : Int64} (h1 : -4000000000000000000 ≤ x.toInt * y.toInt) (h2 : x.toInt * y.toInt ≤ 4000000000000000000) : (x * y).toInt = x.toInt * y.toInt := by
  rw [Int64.toInt_mul]; exact Int.bmod_eq_of_le (by omega) (by omega)
theorem i64_neg {x : Int64} (h1 : -4000000000000000000 ≤ x.toInt) (h2 : x.toInt ≤ 4000000000000000000) : (-x).toInt = -x.toInt := by
  rw [Int64.toInt_neg]; exact Int.bmod_eq_of_le (by omega) (by omega)
theorem mul_b {x y U : Int} (hx : -300 ≤ x ∧ x ≤ 300) (hy : -U ≤ y ∧ y ≤ U) : -(300 * U) ≤ x * y ∧ x * y ≤ 300 * U := by
  have h0 : 0 ≤ U := by omega
  have e1 : (300 - x) * (U - y) ≥ 0 := Int.mul_nonneg (by omega) (by omega)
  have e2 : (300 + x) * (U + y) ≥ 0 := Int.mul_nonneg (by omega) (by omega)
  have e3 : (300 - x) * (U + y) ≥ 0 := Int.mul_nonneg (by omega) (by omega)
  have e4 : (300 + x) * (U - y) ≥ 0 := Int.mul_nonneg (by omega) (by omega)
  have f1 : (300 - x) * (U - y) = 300 * U - 300 * y - x * U + x * y := by grind
  have f2 : (300 + x) * (U + y) = 300 * U + 300 * y + x * U + x * y := by grind
  have f3 : (300 - x) * (U + y) = 300 * U + 300 * y - x * U - x * y := by grind
  have f4 : (300 + x) * (U - y) = 300 * U - 300 * y + x * U - x * y := by grind
  omega
theorem sm_I {g : Nat → Int64} {h : Nat → Int} {k : Nat} {U : Int} (hU : 0 ≤ U) (hU2 : U ≤ 100000000000000) (hg : ∀ c, c < 5 → (g c).toInt = h c ∧ -((if k.testBit c then 1 else 0) * U) ≤ h c ∧ h c ≤ (if k.testBit c then 1 else 0) * U) : ∀ n, n ≤ 5 → (sm g n).toInt = smI h n ∧ -(cnb k n * U) ≤ smI h n ∧ smI h n ≤ cnb k n * U
  | 0, _ => ⟨rfl, by show -(0 * U) ≤ 0; omega, by show 0 ≤ 0 * U; omega⟩
  | n + 1, hn => by
    obtain ⟨a1, a2, a3⟩ := sm_I hU hU2 hg n (by omega)
    obtain ⟨b1, b2, b3⟩ := hg n (by omega)
    have e : cnb k (n + 1) * U = cnb k n * U + (if k.testBit n then 1 else 0) * U := by
      show (cnb k n + (if k.testBit n then 1 else 0)) * U = _
      rw [Int.add_mul]
    have cb := cnb_b k n
    have u1 : cnb k n * U ≤ 5 * U := Int.mul_le_mul_of_nonneg_right (by omega) hU
    have u2 : (if k.testBit n then 1 else 0) * U ≤ 1 * U := Int.mul_le_mul_of_nonneg_right (by split <;> omega) hU
    have s : (sm g (n + 1)).toInt = smI h (n + 1) := by
      show (sm g n + g n).toInt = smI h n + h n
      rw [i64_add (by rw [a1, b1]; omega) (by rw [a1, b1]; omega), a1, b1]
    refine ⟨s, ?_, ?_⟩
    · show _ ≤ smI h n + h n
      rw [e]; omega
    · show smI h n + h n ≤ _
      rw [e]; omega
theorem pd_I {a : Nat → Nat → Int64} {B : Nat → Nat → Int} (hB : ∀ r c, r < 5 → c < 5 → (a r c).toInt = B r c ∧ -300 ≤ B r c ∧ B r c ≤ 300) : ∀ (f k : Nat), k < 32 → pop k ≤ f → (pdF a f k).toInt = pdFI B f k ∧ -(Bd (pop k)) ≤ pdFI B f k ∧ pdFI B f k ≤ Bd (pop k)
  | 0, k, hk, hp => by
    have : k = 0 := by
      rcases Nat.eq_zero_or_pos k with h | h
      · exact h
      · have := pop_pos k hk h; omega
    subst this
    exact ⟨rfl, show -(Bd 0) ≤ (1 : Int) by decide, show (1 : Int) ≤ Bd 0 by decide⟩
  | f + 1, k, hk, hp => by
    rw [pdF, pdFI]
    by_cases h0 : k = 0
    · subst h0
      rw [if_pos rfl, if_pos rfl]
      exact ⟨rfl, by decide, by decide⟩
    rw [if_neg h0, if_neg h0]
    obtain ⟨m, hm⟩ : ∃ m, pop k = m + 1 := ⟨pop k - 1, by have := pop_pos k hk (by omega); omega⟩
    have hm4 : m ≤ 4 := by have := pop_le k hk; omega
    have hb := Bd_le m hm4
    have hg : ∀ c, c < 5 → (tm (a (pop k - 1)) (pdF a f) k c).toInt = tmI (B (pop k - 1)) (pdFI B f) k c ∧ -((if k.testBit c then 1 else 0) * (300 * Bd m)) ≤ tmI (B (pop k - 1)) (pdFI B f) k c ∧ tmI (B (pop k - 1)) (pdFI B f) k c ≤ (if k.testBit c then 1 else 0) * (300 * Bd m) := by
      intro c hc
      unfold tm tmI
      by_cases t : k.testBit c = true
      · have ts := tb_sub k hk c hc t
        obtain ⟨i1, i2, i3⟩ := pd_I hB f (k - 2 ^ c) ts.1 (by omega)
        rw [show pop (k - 2 ^ c) = m by omega] at i2 i3
        obtain ⟨j1, j2, j3⟩ := hB (pop k - 1) c (by omega) hc
        have mb := mul_b ⟨j2, j3⟩ ⟨i2, i3⟩
        have e : (a (pop k - 1) c * pdF a f (k - 2 ^ c)).toInt = B (pop k - 1) c * pdFI B f (k - 2 ^ c) := by
          rw [i64_mul (by rw [i1, j1]; omega) (by rw [i1, j1]; omega), i1, j1]
        simp only [t, if_true, Int.one_mul]
        by_cases v : evn k (c + 1) = true
        · simp only [v, if_true]
          exact ⟨e, mb.1, mb.2⟩
        · simp only [v, if_false, Bool.false_eq_true]
          refine ⟨by rw [i64_neg (by rw [e]; omega) (by rw [e]; omega), e], by omega, by omega⟩
      · simp only [t, if_false, Bool.false_eq_true, Int.zero_mul]
        exact ⟨rfl, by omega, by omega⟩
    have r := sm_I (k := k) (U := 300 * Bd m) (by omega) hb.2 hg 5 (by omega)
    have e : cnb k 5 * (300 * Bd m) = Bd (pop k) := by
      rw [cnb_5 k hk, hm]; show ((m + 1 : Nat) : Int) * (300 * Bd m) = ((m : Int) + 1) * 300 * Bd m
      rw [Int.mul_assoc]; rfl
    rw [e] at r
    exact r
set_option maxHeartbeats 4000000 in
set_option maxRecDepth 100000 in
theorem pfull1 (a00 : Int) : ((((((0 : Int) + (a00 * (1 : Int))) + 0) + 0) + 0) + 0) = a00 := by grind
set_option maxHeartbeats 4000000 in
set_option maxRecDepth 100000 in
theorem pdI_1 (A : Nat → Nat → Int) : pdFI A 5 1 = DI A 1 := by
  have h := pfull1 (A 0 0)
  exact h
set_option maxHeartbeats 4000000 in
set_option maxRecDepth 100000 in
theorem pfull2 (a00 a01 a10 a11 : Int) : ((((((0 : Int) + (-(a10 * ((((((0 : Int) + 0) + (a01 * (1 : Int))) + 0) + 0) + 0)))) + (a11 * ((((((0 : Int) + (a00 * (1 : Int))) + 0) + 0) + 0) + 0))) + 0) + 0) + 0) = 0 - a10*(a01) + a11*(a00) := by grind
set_option maxHeartbeats 4000000 in
set_option maxRecDepth 100000 in
theorem pdI_2 (A : Nat → Nat → Int) : pdFI A 5 3 = DI A 2 := by
  have h := pfull2 (A 0 0) (A 0 1) (A 1 0) (A 1 1)
  exact h
set_option maxHeartbeats 4000000 in
set_option maxRecDepth 100000 in
theorem pfull3 (a00 a01 a02 a10 a11 a12 a20 a21 a22 : Int) : ((((((0 : Int) + (a20 * ((((((0 : Int) + 0) + (-(a11 * ((((((0 : Int) + 0) + 0) + (a02 * (1 : Int))) + 0) + 0)))) + (a12 * ((((((0 : Int) + 0) + (a01 * (1 : Int))) + 0) + 0) + 0))) + 0) + 0))) + (-(a21 * ((((((0 : Int) + (-(a10 * ((((((0 : Int) + 0) + 0) + (a02 * (1 : Int))) + 0) + 0)))) + 0) + (a12 * ((((((0 : Int) + (a00 * (1 : Int))) + 0) + 0) + 0) + 0))) + 0) + 0)))) + (a22 * ((((((0 : Int) + (-(a10 * ((((((0 : Int) + 0) + (a01 * (1 : Int))) + 0) + 0) + 0)))) + (a11 * ((((((0 : Int) + (a00 * (1 : Int))) + 0) + 0) + 0) + 0))) + 0) + 0) + 0))) + 0) + 0) = a20*(0 - a11*(a02) + a12*(a01)) - a21*(0 - a10*(a02) + a12*(a00)) + a22*(0 - a10*(a01) + a11*(a00)) := by grind
set_option maxHeartbeats 4000000 in
set_option maxRecDepth 100000 in
theorem pdI_3 (A : Nat → Nat → Int) : pdFI A 5 7 = DI A 3 := by
  have h := pfull3 (A 0 0) (A 0 1) (A 0 2) (A 1 0) (A 1 1) (A 1 2) (A 2 0) (A 2 1) (A 2 2)
  exact h
set_option maxHeartbeats 4000000 in
set_option maxRecDepth 100000 in
theorem pfull4 (a00 a01 a02 a03 a10 a11 a12 a13 a20 a21 a22 a23 a30 a31 a32 a33 : Int) : ((((((0 : Int) + (-(a30 * ((((((0 : Int) + 0) + (a21 * ((((((0 : Int) + 0) + 0) + (-(a12 * ((((((0 : Int) + 0) + 0) + 0) + (a03 * (1 : Int))) + 0)))) + (a13 * ((((((0 : Int) + 0) + 0) + (a02 * (1 : Int))) + 0) + 0))) + 0))) + (-(a22 * ((((((0 : Int) + 0) + (-(a11 * ((((((0 : Int) + 0) + 0) + 0) + (a03 * (1 : Int))) + 0)))) + 0) + (a13 * ((((((0 : Int) + 0) + (a01 * (1 : Int))) + 0) + 0) + 0))) + 0)))) + (a23 * ((((((0 : Int) + 0) + (-(a11 * ((((((0 : Int) + 0) + 0) + (a02 * (1 : Int))) + 0) + 0)))) + (a12 * ((((((0 : Int) + 0) + (a01 * (1 : Int))) + 0) + 0) + 0))) + 0) + 0))) + 0)))) + (a31 * ((((((0 : Int) + (a20 * ((((((0 : Int) + 0) + 0) + (-(a12 * ((((((0 : Int) + 0) + 0) + 0) + (a03 * (1 : Int))) + 0)))) + (a13 * ((((((0 : Int) + 0) + 0) + (a02 * (1 : Int))) + 0) + 0))) + 0))) + 0) + (-(a22 * ((((((0 : Int) + (-(a10 * ((((((0 : Int) + 0) + 0) + 0) + (a03 * (1 : Int))) + 0)))) + 0) + 0) + (a13 * ((((((0 : Int) + (a00 * (1 : Int))) + 0) + 0) + 0) + 0))) + 0)))) + (a23 * ((((((0 : Int) + (-(a10 * ((((((0 : Int) + 0) + 0) + (a02 * (1 : Int))) + 0) + 0)))) + 0) + (a12 * ((((((0 : Int) + (a00 * (1 : Int))) + 0) + 0) + 0) + 0))) + 0) + 0))) + 0))) + (-(a32 * ((((((0 : Int) + (a20 * ((((((0 : Int) + 0) + (-(a11 * ((((((0 : Int) + 0) + 0) + 0) + (a03 * (1 : Int))) + 0)))) + 0) + (a13 * ((((((0 : Int) + 0) + (a01 * (1 : Int))) + 0) + 0) + 0))) + 0))) + (-(a21 * ((((((0 : Int) + (-(a10 * ((((((0 : Int) + 0) + 0) + 0) + (a03 * (1 : Int))) + 0)))) + 0) + 0) + (a13 * ((((((0 : Int) + (a00 * (1 : Int))) + 0) + 0) + 0) + 0))) + 0)))) + 0) + (a23 * ((((((0 : Int) + (-(a10 * ((((((0 : Int) + 0) + (a01 * (1 : Int))) + 0) + 0) + 0)))) + (a11 * ((((((0 : Int) + (a00 * (1 : Int))) + 0) + 0) + 0) + 0))) + 0) + 0) + 0))) + 0)))) + (a33 * ((((((0 : Int) + (a20 * ((((((0 : Int) + 0) + (-(a11 * ((((((0 : Int) + 0) + 0) + (a02 * (1 : Int))) + 0) + 0)))) + (a12 * ((((((0 : Int) + 0) + (a01 * (1 : Int))) + 0) + 0) + 0))) + 0) + 0))) + (-(a21 * ((((((0 : Int) + (-(a10 * ((((((0 : Int) + 0) + 0) + (a02 * (1 : Int))) + 0) + 0)))) + 0) + (a12 * ((((((0 : Int) + (a00 * (1 : Int))) + 0) + 0) + 0) + 0))) + 0) + 0)))) + (a22 * ((((((0 : Int) + (-(a10 * ((((((0 : Int) + 0) + (a01 * (1 : Int))) + 0) + 0) + 0)))) + (a11 * ((((((0 : Int) + (a00 * (1 : Int))) + 0) + 0) + 0) + 0))) + 0) + 0) + 0))) + 0) + 0))) + 0) = 0 - a30*(a21*(0 - a12*(a03) + a13*(a02)) - a22*(0 - a11*(a03) + a13*(a01)) + a23*(0 - a11*(a02) + a12*(a01))) + a31*(a20*(0 - a12*(a03) + a13*(a02)) - a22*(0 - a10*(a03) + a13*(a00)) + a23*(0 - a10*(a02) + a12*(a00))) - a32*(a20*(0 - a11*(a03) + a13*(a01)) - a21*(0 - a10*(a03) + a13*(a00)) + a23*(0 - a10*(a01) + a11*(a00))) + a33*(a20*(0 - a11*(a02) + a12*(a01)) - a21*(0 - a10*(a02) + a12*(a00)) + a22*(0 - a10*(a01) + a11*(a00))) := by grind
set_option maxHeartbeats 4000000 in
set_option maxRecDepth 100000 in
theorem pdI_4 (A : Nat → Nat → Int) : pdFI A 5 15 = DI A 4 := by
  have h := pfull4 (A 0 0) (A 0 1) (A 0 2) (A 0 3) (A 1 0) (A 1 1) (A 1 2) (A 1 3) (A 2 0) (A 2 1) (A 2 2) (A 2 3) (A 3 0) (A 3 1) (A 3 2) (A 3 3)
  exact h
set_option maxHeartbeats 4000000 in
set_option maxRecDepth 100000 in
theorem pfull5 (a00 a01 a02 a03 a04 a10 a11 a12 a13 a14 a20 a21 a22 a23 a24 a30 a31 a32 a33 a34 a40 a41 a42 a43 a44 : Int) : ((((((0 : Int) + (a40 * ((((((0 : Int) + 0) + (-(a31 * ((((((0 : Int) + 0) + 0) + (a22 * ((((((0 : Int) + 0) + 0) + 0) + (-(a13 * ((((((0 : Int) + 0) + 0) + 0) + 0) + (a04 * (1 : Int)))))) + (a14 * ((((((0 : Int) + 0) + 0) + 0) + (a03 * (1 : Int))) + 0))))) + (-(a23 * ((((((0 : Int) + 0) + 0) + (-(a12 * ((((((0 : Int) + 0) + 0) + 0) + 0) + (a04 * (1 : Int)))))) + 0) + (a14 * ((((((0 : Int) + 0) + 0) + (a02 * (1 : Int))) + 0) + 0)))))) + (a24 * ((((((0 : Int) + 0) + 0) + (-(a12 * ((((((0 : Int) + 0) + 0) + 0) + (a03 * (1 : Int))) + 0)))) + (a13 * ((((((0 : Int) + 0) + 0) + (a02 * (1 : Int))) + 0) + 0))) + 0)))))) + (a32 * ((((((0 : Int) + 0) + (a21 * ((((((0 : Int) + 0) + 0) + 0) + (-(a13 * ((((((0 : Int) + 0) + 0) + 0) + 0) + (a04 * (1 : Int)))))) + (a14 * ((((((0 : Int) + 0) + 0) + 0) + (a03 * (1 : Int))) + 0))))) + 0) + (-(a23 * ((((((0 : Int) + 0) + (-(a11 * ((((((0 : Int) + 0) + 0) + 0) + 0) + (a04 * (1 : Int)))))) + 0) + 0) + (a14 * ((((((0 : Int) + 0) + (a01 * (1 : Int))) + 0) + 0) + 0)))))) + (a24 * ((((((0 : Int) + 0) + (-(a11 * ((((((0 : Int) + 0) + 0) + 0) + (a03 * (1 : Int))) + 0)))) + 0) + (a13 * ((((((0 : Int) + 0) + (a01 * (1 : Int))) + 0) + 0) + 0))) + 0))))) + (-(a33 * ((((((0 : Int) + 0) + (a21 * ((((((0 : Int) + 0) + 0) + (-(a12 * ((((((0 : Int) + 0) + 0) + 0) + 0) + (a04 * (1 : Int)))))) + 0) + (a14 * ((((((0 : Int) + 0) + 0) + (a02 * (1 : Int))) + 0) + 0))))) + (-(a22 * ((((((0 : Int) + 0) + (-(a11 * ((((((0 : Int) + 0) + 0) + 0) + 0) + (a04 * (1 : Int)))))) + 0) + 0) + (a14 * ((((((0 : Int) + 0) + (a01 * (1 : Int))) + 0) + 0) + 0)))))) + 0) + (a24 * ((((((0 : Int) + 0) + (-(a11 * ((((((0 : Int) + 0) + 0) + (a02 * (1 : Int))) + 0) + 0)))) + (a12 * ((((((0 : Int) + 0) + (a01 * (1 : Int))) + 0) + 0) + 0))) + 0) + 0)))))) + (a34 * ((((((0 : Int) + 0) + (a21 * ((((((0 : Int) + 0) + 0) + (-(a12 * ((((((0 : Int) + 0) + 0) + 0) + (a03 * (1 : Int))) + 0)))) + (a13 * ((((((0 : Int) + 0) + 0) + (a02 * (1 : Int))) + 0) + 0))) + 0))) + (-(a22 * ((((((0 : Int) + 0) + (-(a11 * ((((((0 : Int) + 0) + 0) + 0) + (a03 * (1 : Int))) + 0)))) + 0) + (a13 * ((((((0 : Int) + 0) + (a01 * (1 : Int))) + 0) + 0) + 0))) + 0)))) + (a23 * ((((((0 : Int) + 0) + (-(a11 * ((((((0 : Int) + 0) + 0) + (a02 * (1 : Int))) + 0) + 0)))) + (a12 * ((((((0 : Int) + 0) + (a01 * (1 : Int))) + 0) + 0) + 0))) + 0) + 0))) + 0))))) + (-(a41 * ((((((0 : Int) + (-(a30 * ((((((0 : Int) + 0) + 0) + (a22 * ((((((0 : Int) + 0) + 0) + 0) + (-(a13 * ((((((0 : Int) + 0) + 0) + 0) + 0) + (a04 * (1 : Int)))))) + (a14 * ((((((0 : Int) + 0) + 0) + 0) + (a03 * (1 : Int))) + 0))))) + (-(a23 * ((((((0 : Int) + 0) + 0) + (-(a12 * ((((((0 : Int) + 0) + 0) + 0) + 0) + (a04 * (1 : Int)))))) + 0) + (a14 * ((((((0 : Int) + 0) + 0) + (a02 * (1 : Int))) + 0) + 0)))))) + (a24 * ((((((0 : Int) + 0) + 0) + (-(a12 * ((((((0 : Int) + 0) + 0) + 0) + (a03 * (1 : Int))) + 0)))) + (a13 * ((((((0 : Int) + 0) + 0) + (a02 * (1 : Int))) + 0) + 0))) + 0)))))) + 0) + (a32 * ((((((0 : Int) + (a20 * ((((((0 : Int) + 0) + 0) + 0) + (-(a13 * ((((((0 : Int) + 0) + 0) + 0) + 0) + (a04 * (1 : Int)))))) + (a14 * ((((((0 : Int) + 0) + 0) + 0) + (a03 * (1 : Int))) + 0))))) + 0) + 0) + (-(a23 * ((((((0 : Int) + (-(a10 * ((((((0 : Int) + 0) + 0) + 0) + 0) + (a04 * (1 : Int)))))) + 0) + 0) + 0) + (a14 * ((((((0 : Int) + (a00 * (1 : Int))) + 0) + 0) + 0) + 0)))))) + (a24 * ((((((0 : Int) + (-(a10 * ((((((0 : Int) + 0) + 0) + 0) + (a03 * (1 : Int))) + 0)))) + 0) + 0) + (a13 * ((((((0 : Int) + (a00 * (1 : Int))) + 0) + 0) + 0) + 0))) + 0))))) + (-(a33 * ((((((0 : Int) + (a20 * ((((((0 : Int) + 0) + 0) + (-(a12 * ((((((0 : Int) + 0) + 0) + 0) + 0) + (a04 * (1 : Int)))))) + 0) + (a14 * ((((((0 : Int) + 0) + 0) + (a02 * (1 : Int))) + 0) + 0))))) + 0) + (-(a22 * ((((((0 : Int) + (-(a10 * ((((((0 : Int) + 0) + 0) + 0) + 0) + (a04 * (1 : Int)))))) + 0) + 0) + 0) + (a14 * ((((((0 : Int) + (a00 * (1 : Int))) + 0) + 0) + 0) + 0)))))) + 0) + (a24 * ((((((0 : Int) + (-(a10 * ((((((0 : Int) + 0) + 0) + (a02 * (1 : Int))) + 0) + 0)))) + 0) + (a12 * ((((((0 : Int) + (a00 * (1 : Int))) + 0) + 0) + 0) + 0))) + 0) + 0)))))) + (a34 * ((((((0 : Int) + (a20 * ((((((0 : Int) + 0) + 0) + (-(a12 * ((((((0 : Int) + 0) + 0) + 0) + (a03 * (1 : Int))) + 0)))) + (a13 * ((((((0 : Int) + 0) + 0) + (a02 * (1 : Int))) + 0) + 0))) + 0))) + 0) + (-(a22 * ((((((0 : Int) + (-(a10 * ((((((0 : Int) + 0) + 0) + 0) + (a03 * (1 : Int))) + 0)))) + 0) + 0) + (a13 * ((((((0 : Int) + (a00 * (1 : Int))) + 0) + 0) + 0) + 0))) + 0)))) + (a23 * ((((((0 : Int) + (-(a10 * ((((((0 : Int) + 0) + 0) + (a02 * (1 : Int))) + 0) + 0)))) + 0) + (a12 * ((((((0 : Int) + (a00 * (1 : Int))) + 0) + 0) + 0) + 0))) + 0) + 0))) + 0)))))) + (a42 * ((((((0 : Int) + (-(a30 * ((((((0 : Int) + 0) + (a21 * ((((((0 : Int) + 0) + 0) + 0) + (-(a13 * ((((((0 : Int) + 0) + 0) + 0) + 0) + (a04 * (1 : Int)))))) + (a14 * ((((((0 : Int) + 0) + 0) + 0) + (a03 * (1 : Int))) + 0))))) + 0) + (-(a23 * ((((((0 : Int) + 0) + (-(a11 * ((((((0 : Int) + 0) + 0) + 0) + 0) + (a04 * (1 : Int)))))) + 0) + 0) + (a14 * ((((((0 : Int) + 0) + (a01 * (1 : Int))) + 0) + 0) + 0)))))) + (a24 * ((((((0 : Int) + 0) + (-(a11 * ((((((0 : Int) + 0) + 0) + 0) + (a03 * (1 : Int))) + 0)))) + 0) + (a13 * ((((((0 : Int) + 0) + (a01 * (1 : Int))) + 0) + 0) + 0))) + 0)))))) + (a31 * ((((((0 : Int) + (a20 * ((((((0 : Int) + 0) + 0) + 0) + (-(a13 * ((((((0 : Int) + 0) + 0) + 0) + 0) + (a04 * (1 : Int)))))) + (a14 * ((((((0 : Int) + 0) + 0) + 0) + (a03 * (1 : Int))) + 0))))) + 0) + 0) + (-(a23 * ((((((0 : Int) + (-(a10 * ((((((0 : Int) + 0) + 0) + 0) + 0) + (a04 * (1 : Int)))))) + 0) + 0) + 0) + (a14 * ((((((0 : Int) + (a00 * (1 : Int))) + 0) + 0) + 0) + 0)))))) + (a24 * ((((((0 : Int) + (-(a10 * ((((((0 : Int) + 0) + 0) + 0) + (a03 * (1 : Int))) + 0)))) + 0) + 0) + (a13 * ((((((0 : Int) + (a00 * (1 : Int))) + 0) + 0) + 0) + 0))) + 0))))) + 0) + (-(a33 * ((((((0 : Int) + (a20 * ((((((0 : Int) + 0) + (-(a11 * ((((((0 : Int) + 0) + 0) + 0) + 0) + (a04 * (1 : Int)))))) + 0) + 0) + (a14 * ((((((0 : Int) + 0) + (a01 * (1 : Int))) + 0) + 0) + 0))))) + (-(a21 * ((((((0 : Int) + (-(a10 * ((((((0 : Int) + 0) + 0) + 0) + 0) + (a04 * (1 : Int)))))) + 0) + 0) + 0) + (a14 * ((((((0 : Int) + (a00 * (1 : Int))) + 0) + 0) + 0) + 0)))))) + 0) + 0) + (a24 * ((((((0 : Int) + (-(a10 * ((((((0 : Int) + 0) + (a01 * (1 : Int))) + 0) + 0) + 0)))) + (a11 * ((((((0 : Int) + (a00 * (1 : Int))) + 0) + 0) + 0) + 0))) + 0) + 0) + 0)))))) + (a34 * ((((((0 : Int) + (a20 * ((((((0 : Int) + 0) + (-(a11 * ((((((0 : Int) + 0) + 0) + 0) + (a03 * (1 : Int))) + 0)))) + 0) + (a13 * ((((((0 : Int) + 0) + (a01 * (1 : Int))) + 0) + 0) + 0))) + 0))) + (-(a21 * ((((((0 : Int) + (-(a10 * ((((((0 : Int) + 0) + 0) + 0) + (a03 * (1 : Int))) + 0)))) + 0) + 0) + (a13 * ((((((0 : Int) + (a00 * (1 : Int))) + 0) + 0) + 0) + 0))) + 0)))) + 0) + (a23 * ((((((0 : Int) + (-(a10 * ((((((0 : Int) + 0) + (a01 * (1 : Int))) + 0) + 0) + 0)))) + (a11 * ((((((0 : Int) + (a00 * (1 : Int))) + 0) + 0) + 0) + 0))) + 0) + 0) + 0))) + 0))))) + (-(a43 * ((((((0 : Int) + (-(a30 * ((((((0 : Int) + 0) + (a21 * ((((((0 : Int) + 0) + 0) + (-(a12 * ((((((0 : Int) + 0) + 0) + 0) + 0) + (a04 * (1 : Int)))))) + 0) + (a14 * ((((((0 : Int) + 0) + 0) + (a02 * (1 : Int))) + 0) + 0))))) + (-(a22 * ((((((0 : Int) + 0) + (-(a11 * ((((((0 : Int) + 0) + 0) + 0) + 0) + (a04 * (1 : Int)))))) + 0) + 0) + (a14 * ((((((0 : Int) + 0) + (a01 * (1 : Int))) + 0) + 0) + 0)))))) + 0) + (a24 * ((((((0 : Int) + 0) + (-(a11 * ((((((0 : Int) + 0) + 0) + (a02 * (1 : Int))) + 0) + 0)))) + (a12 * ((((((0 : Int) + 0) + (a01 * (1 : Int))) + 0) + 0) + 0))) + 0) + 0)))))) + (a31 * ((((((0 : Int) + (a20 * ((((((0 : Int) + 0) + 0) + (-(a12 * ((((((0 : Int) + 0) + 0) + 0) + 0) + (a04 * (1 : Int)))))) + 0) + (a14 * ((((((0 : Int) + 0) + 0) + (a02 * (1 : Int))) + 0) + 0))))) + 0) + (-(a22 * ((((((0 : Int) + (-(a10 * ((((((0 : Int) + 0) + 0) + 0) + 0) + (a04 * (1 : Int)))))) + 0) + 0) + 0) + (a14 * ((((((0 : Int) + (a00 * (1 : Int))) + 0) + 0) + 0) + 0)))))) + 0) + (a24 * ((((((0 : Int) + (-(a10 * ((((((0 : Int) + 0) + 0) + (a02 * (1 : Int))) + 0) + 0)))) + 0) + (a12 * ((((((0 : Int) + (a00 * (1 : Int))) + 0) + 0) + 0) + 0))) + 0) + 0))))) + (-(a32 * ((((((0 : Int) + (a20 * ((((((0 : Int) + 0) + (-(a11 * ((((((0 : Int) + 0) + 0) + 0) + 0) + (a04 * (1 : Int)))))) + 0) + 0) + (a14 * ((((((0 : Int) + 0) + (a01 * (1 : Int))) + 0) + 0) + 0))))) + (-(a21 * ((((((0 : Int) + (-(a10 * ((((((0 : Int) + 0) + 0) + 0) + 0) + (a04 * (1 : Int)))))) + 0) + 0) + 0) + (a14 * ((((((0 : Int) + (a00 * (1 : Int))) + 0) + 0) + 0) + 0)))))) + 0) + 0) + (a24 * ((((((0 : Int) + (-(a10 * ((((((0 : Int) + 0) + (a01 * (1 : Int))) + 0) + 0) + 0)))) + (a11 * ((((((0 : Int) + (a00 * (1 : Int))) + 0) + 0) + 0) + 0))) + 0) + 0) + 0)))))) + 0) + (a34 * ((((((0 : Int) + (a20 * ((((((0 : Int) + 0) + (-(a11 * ((((((0 : Int) + 0) + 0) + (a02 * (1 : Int))) + 0) + 0)))) + (a12 * ((((((0 : Int) + 0) + (a01 * (1 : Int))) + 0) + 0) + 0))) + 0) + 0))) + (-(a21 * ((((((0 : Int) + (-(a10 * ((((((0 : Int) + 0) + 0) + (a02 * (1 : Int))) + 0) + 0)))) + 0) + (a12 * ((((((0 : Int) + (a00 * (1 : Int))) + 0) + 0) + 0) + 0))) + 0) + 0)))) + (a22 * ((((((0 : Int) + (-(a10 * ((((((0 : Int) + 0) + (a01 * (1 : Int))) + 0) + 0) + 0)))) + (a11 * ((((((0 : Int) + (a00 * (1 : Int))) + 0) + 0) + 0) + 0))) + 0) + 0) + 0))) + 0) + 0)))))) + (a44 * ((((((0 : Int) + (-(a30 * ((((((0 : Int) + 0) + (a21 * ((((((0 : Int) + 0) + 0) + (-(a12 * ((((((0 : Int) + 0) + 0) + 0) + (a03 * (1 : Int))) + 0)))) + (a13 * ((((((0 : Int) + 0) + 0) + (a02 * (1 : Int))) + 0) + 0))) + 0))) + (-(a22 * ((((((0 : Int) + 0) + (-(a11 * ((((((0 : Int) + 0) + 0) + 0) + (a03 * (1 : Int))) + 0)))) + 0) + (a13 * ((((((0 : Int) + 0) + (a01 * (1 : Int))) + 0) + 0) + 0))) + 0)))) + (a23 * ((((((0 : Int) + 0) + (-(a11 * ((((((0 : Int) + 0) + 0) + (a02 * (1 : Int))) + 0) + 0)))) + (a12 * ((((((0 : Int) + 0) + (a01 * (1 : Int))) + 0) + 0) + 0))) + 0) + 0))) + 0)))) + (a31 * ((((((0 : Int) + (a20 * ((((((0 : Int) + 0) + 0) + (-(a12 * ((((((0 : Int) + 0) + 0) + 0) + (a03 * (1 : Int))) + 0)))) + (a13 * ((((((0 : Int) + 0) + 0) + (a02 * (1 : Int))) + 0) + 0))) + 0))) + 0) + (-(a22 * ((((((0 : Int) + (-(a10 * ((((((0 : Int) + 0) + 0) + 0) + (a03 * (1 : Int))) + 0)))) + 0) + 0) + (a13 * ((((((0 : Int) + (a00 * (1 : Int))) + 0) + 0) + 0) + 0))) + 0)))) + (a23 * ((((((0 : Int) + (-(a10 * ((((((0 : Int) + 0) + 0) + (a02 * (1 : Int))) + 0) + 0)))) + 0) + (a12 * ((((((0 : Int) + (a00 * (1 : Int))) + 0) + 0) + 0) + 0))) + 0) + 0))) + 0))) + (-(a32 * ((((((0 : Int) + (a20 * ((((((0 : Int) + 0) + (-(a11 * ((((((0 : Int) + 0) + 0) + 0) + (a03 * (1 : Int))) + 0)))) + 0) + (a13 * ((((((0 : Int) + 0) + (a01 * (1 : Int))) + 0) + 0) + 0))) + 0))) + (-(a21 * ((((((0 : Int) + (-(a10 * ((((((0 : Int) + 0) + 0) + 0) + (a03 * (1 : Int))) + 0)))) + 0) + 0) + (a13 * ((((((0 : Int) + (a00 * (1 : Int))) + 0) + 0) + 0) + 0))) + 0)))) + 0) + (a23 * ((((((0 : Int) + (-(a10 * ((((((0 : Int) + 0) + (a01 * (1 : Int))) + 0) + 0) + 0)))) + (a11 * ((((((0 : Int) + (a00 * (1 : Int))) + 0) + 0) + 0) + 0))) + 0) + 0) + 0))) + 0)))) + (a33 * ((((((0 : Int) + (a20 * ((((((0 : Int) + 0) + (-(a11 * ((((((0 : Int) + 0) + 0) + (a02 * (1 : Int))) + 0) + 0)))) + (a12 * ((((((0 : Int) + 0) + (a01 * (1 : Int))) + 0) + 0) + 0))) + 0) + 0))) + (-(a21 * ((((((0 : Int) + (-(a10 * ((((((0 : Int) + 0) + 0) + (a02 * (1 : Int))) + 0) + 0)))) + 0) + (a12 * ((((((0 : Int) + (a00 * (1 : Int))) + 0) + 0) + 0) + 0))) + 0) + 0)))) + (a22 * ((((((0 : Int) + (-(a10 * ((((((0 : Int) + 0) + (a01 * (1 : Int))) + 0) + 0) + 0)))) + (a11 * ((((((0 : Int) + (a00 * (1 : Int))) + 0) + 0) + 0) + 0))) + 0) + 0) + 0))) + 0) + 0))) + 0))) = a40*(0 - a31*(a22*(0 - a13*(a04) + a14*(a03)) - a23*(0 - a12*(a04) + a14*(a02)) + a24*(0 - a12*(a03) + a13*(a02))) + a32*(a21*(0 - a13*(a04) + a14*(a03)) - a23*(0 - a11*(a04) + a14*(a01)) + a24*(0 - a11*(a03) + a13*(a01))) - a33*(a21*(0 - a12*(a04) + a14*(a02)) - a22*(0 - a11*(a04) + a14*(a01)) + a24*(0 - a11*(a02) + a12*(a01))) + a34*(a21*(0 - a12*(a03) + a13*(a02)) - a22*(0 - a11*(a03) + a13*(a01)) + a23*(0 - a11*(a02) + a12*(a01)))) - a41*(0 - a30*(a22*(0 - a13*(a04) + a14*(a03)) - a23*(0 - a12*(a04) + a14*(a02)) + a24*(0 - a12*(a03) + a13*(a02))) + a32*(a20*(0 - a13*(a04) + a14*(a03)) - a23*(0 - a10*(a04) + a14*(a00)) + a24*(0 - a10*(a03) + a13*(a00))) - a33*(a20*(0 - a12*(a04) + a14*(a02)) - a22*(0 - a10*(a04) + a14*(a00)) + a24*(0 - a10*(a02) + a12*(a00))) + a34*(a20*(0 - a12*(a03) + a13*(a02)) - a22*(0 - a10*(a03) + a13*(a00)) + a23*(0 - a10*(a02) + a12*(a00)))) + a42*(0 - a30*(a21*(0 - a13*(a04) + a14*(a03)) - a23*(0 - a11*(a04) + a14*(a01)) + a24*(0 - a11*(a03) + a13*(a01))) + a31*(a20*(0 - a13*(a04) + a14*(a03)) - a23*(0 - a10*(a04) + a14*(a00)) + a24*(0 - a10*(a03) + a13*(a00))) - a33*(a20*(0 - a11*(a04) + a14*(a01)) - a21*(0 - a10*(a04) + a14*(a00)) + a24*(0 - a10*(a01) + a11*(a00))) + a34*(a20*(0 - a11*(a03) + a13*(a01)) - a21*(0 - a10*(a03) + a13*(a00)) + a23*(0 - a10*(a01) + a11*(a00)))) - a43*(0 - a30*(a21*(0 - a12*(a04) + a14*(a02)) - a22*(0 - a11*(a04) + a14*(a01)) + a24*(0 - a11*(a02) + a12*(a01))) + a31*(a20*(0 - a12*(a04) + a14*(a02)) - a22*(0 - a10*(a04) + a14*(a00)) + a24*(0 - a10*(a02) + a12*(a00))) - a32*(a20*(0 - a11*(a04) + a14*(a01)) - a21*(0 - a10*(a04) + a14*(a00)) + a24*(0 - a10*(a01) + a11*(a00))) + a34*(a20*(0 - a11*(a02) + a12*(a01)) - a21*(0 - a10*(a02) + a12*(a00)) + a22*(0 - a10*(a01) + a11*(a00)))) + a44*(0 - a30*(a21*(0 - a12*(a03) + a13*(a02)) - a22*(0 - a11*(a03) + a13*(a01)) + a23*(0 - a11*(a02) + a12*(a01))) + a31*(a20*(0 - a12*(a03) + a13*(a02)) - a22*(0 - a10*(a03) + a13*(a00)) + a23*(0 - a10*(a02) + a12*(a00))) - a32*(a20*(0 - a11*(a03) + a13*(a01)) - a21*(0 - a10*(a03) + a13*(a00)) + a23*(0 - a10*(a01) + a11*(a00))) + a33*(a20*(0 - a11*(a02) + a12*(a01)) - a21*(0 - a10*(a02) + a12*(a00)) + a22*(0 - a10*(a01) + a11*(a00)))) := by grind
set_option maxHeartbeats 4000000 in
set_option maxRecDepth 100000 in
theorem pdI_5 (A : Nat → Nat → Int) : pdFI A 5 31 = DI A 5 := by
  have h := pfull5 (A 0 0) (A 0 1) (A 0 2) (A 0 3) (A 0 4) (A 1 0) (A 1 1) (A 1 2) (A 1 3) (A 1 4) (A 2 0) (A 2 1) (A 2 2) (A 2 3) (A 2 4) (A 3 0) (A 3 1) (A 3 2) (A 3 3) (A 3 4) (A 4 0) (A 4 1) (A 4 2) (A 4 3) (A 4 4)
  exact h
theorem mem_5 : ∀ s, s < 32 → ∀ r, r < 5 → mem s r < 5 := by decide +kernel
theorem mem_n0 : ∀ s, s < 32 → ∀ r, r < 5 → ∀ c, c < 5 → (!(decide (r < pop s) && decide (c < pop s) && !decide (r = c)) || !decide (mem s r = mem s c)) = true := by decide +kernel
theorem mem_ne (s : Nat) (hs : s < 32) (r : Nat) (hr : r < 5) (c : Nat) (hc : c < 5) (h1 : r < pop s) (h2 : c < pop s) (h3 : r ≠ c) : mem s r ≠ mem s c := by
  have h := mem_n0 s hs r hr c hc
  intro q
  simp [h1, h2, h3, q] at h
theorem mem_a0 : ∀ s, s < 32 → ∀ i, i < 5 → s.testBit i = true → pop (s % 2 ^ i) < pop s := by decide +kernel
theorem mem_a1 : ∀ s, s < 32 → ∀ i, i < 5 → ∀ c, c < 5 → (!(s.testBit i && decide (c < pop s)) || (decide (mem s c = i) == decide (c = pop (s % 2 ^ i)))) = true := by decide +kernel
theorem mem_at (s : Nat) (hs : s < 32) (i : Nat) (hi : i < 5) (tb : s.testBit i = true) : pop (s % 2 ^ i) < pop s ∧ ∀ c, c < 5 → c < pop s → (mem s c = i ↔ c = pop (s % 2 ^ i)) := by
  refine ⟨mem_a0 s hs i hi tb, fun c hc h => ?_⟩
  have k := mem_a1 s hs i hi c hc
  rw [tb, decide_eq_true h] at k
  have k2 : (decide (mem s c = i) == decide (c = pop (s % 2 ^ i))) = true := k
  exact decide_eq_decide.mp (eq_of_beq k2)
theorem mem_dl : ∀ t, t < 32 → ∀ i, i < 5 → t.testBit i = true → ∀ r, r < 5 → r < pop t - 1 → mem (t - 2 ^ i) r = mem t (sk (pop (t % 2 ^ i)) r) := by decide +kernel
theorem set_dn : ∀ t, t < 32 → ∀ s, s < 32 → s &&& t = s → s = t ∨ (Nat.log2 (t - s) < 5 ∧ t.testBit (Nat.log2 (t - s)) = true ∧ s &&& (t - 2 ^ (Nat.log2 (t - s))) = s) := by decide +kernel
theorem fsb_iff {D : Nat → Int64} : ∀ {m : Nat}, fsb D m = true ↔ ∀ j, 1 ≤ j → j ≤ m → 0 < D (2 ^ j - 1)
  | 0 => ⟨fun _ j h1 h2 => absurd h1 (by omega), fun _ => rfl⟩
  | m + 1 => by
    unfold fsb
    rw [Bool.and_eq_true, fsb_iff, decide_eq_true_eq]
    constructor
    · rintro ⟨h1, h2⟩ j hj hm
      rcases (show j = m + 1 ∨ j ≤ m by omega) with rfl | q
      · exact h2
      · exact h1 j hj q
    · intro h
      exact ⟨fun j h1 h2 => h j h1 (by omega), h (m + 1) (by omega) (by omega)⟩
def bnd (a : Nat → Nat → Int64) (B : Nat → Nat → Int) : Prop := ∀ r c, r < 5 → c < 5 → (a r c).toInt = B r c ∧ -300 ≤ B r c ∧ B r c ≤ 300
theorem pd_D {a : Nat → Nat → Int64} {B : Nat → Nat → Int} (hB : bnd a B) {j : Nat} (h1 : 1 ≤ j) (h5 : j ≤ 5) : (pd a (2 ^ j - 1)).toInt = DI B j ∧ -(Bd j) ≤ DI B j ∧ DI B j ≤ Bd j := by
  rcases (show j = 1 ∨ j = 2 ∨ j = 3 ∨ j = 4 ∨ j = 5 by omega) with rfl | rfl | rfl | rfl | rfl
  · rw [← pdI_1]; exact pd_I hB 5 1 (by decide) (by decide)
  · rw [← pdI_2]; exact pd_I hB 5 3 (by decide) (by decide)
  · rw [← pdI_3]; exact pd_I hB 5 7 (by decide) (by decide)
  · rw [← pdI_4]; exact pd_I hB 5 15 (by decide) (by decide)
  · rw [← pdI_5]; exact pd_I hB 5 31 (by decide) (by decide)
theorem bnd_sub {a : Nat → Nat → Int64} {B : Nat → Nat → Int} (hB : bnd a B) {s : Nat} (hs : s < 32) : bnd (subm a s) (fun r c => B (mem s r) (mem s c)) := fun r c hr hc => hB _ _ (mem_5 s hs r hr) (mem_5 s hs c hc)
theorem feas_P {a : Nat → Nat → Int64} {B : Nat → Nat → Int} (hB : bnd a B) {s : Nat} (hs : s < 32) : feas a s = true ↔ Pm (pop s) (fun r c => B (mem s r) (mem s c)) := by
  have hp := pop_le s hs
  have hb := bnd_sub hB hs
  unfold feas
  rw [fsb_iff]
  constructor
  · intro h
    refine P_of_LM hp (fun j h1 h2 => ?_)
    rw [← (pd_D hb h1 (by omega)).1]
    exact Int64.lt_iff_toInt_lt.mp (h j h1 h2)
  · intro h j h1 h2
    refine Int64.lt_iff_toInt_lt.mpr ?_
    rw [(pd_D hb h1 (by omega)).1]
    exact LM_of_P hp h j h1 h2
theorem i32_l {k : Nat} {x : Int32} (h : x = nI k) (hk : k ≤ 1000) : x.toInt64.toInt = (k : Int) := by
  rw [h, Int32.toInt_toInt64, nI_toInt (by omega)]
theorem mul_n {a b : Nat} {x y : Int64} (hx : x.toInt = (a : Int)) (hy : y.toInt = (b : Int)) (ha : a ≤ 30) (hb : b ≤ 30) : (x * y).toInt = ((a * b : Nat) : Int) ∧ a * b ≤ 900 := by
  have h : a * b ≤ 30 * 30 := Nat.mul_le_mul ha hb
  have e : x.toInt * y.toInt = ((a * b : Nat) : Int) := by rw [hx, hy, Int.natCast_mul]
  exact ⟨by rw [i64_mul (by rw [e]; omega) (by rw [e]; omega), e], h⟩
/-- the square's numbers -/
theorem en_I {e : Ev} (h : okE e) {i j : Nat} (hi : i < 5) (hj : j < 5) : -300 ≤ (enT e i j).toInt ∧ (enT e i j).toInt ≤ 300 ∧ (i ≠ j → (enT e i j).toInt ≤ 0) := by
  obtain ⟨-, -, -, hg, hg2, hw, -, -⟩ := h
  unfold enT en
  by_cases c : i = j
  · rw [if_pos c]
    obtain ⟨k, k1, k2, ek⟩ := hg i hi
    obtain ⟨e1, -⟩ := mul_n (a := 10) (b := k) (x := 10 * 1) (by decide) (i32_l ek (by omega)) (by omega) (by omega)
    rw [e1]
    exact ⟨by omega, by omega, fun q => absurd c q⟩
  · rw [if_neg c]
    obtain ⟨k, k1, ek⟩ := hg2 i j hi hj c
    obtain ⟨w, w1, w2, ew'⟩ := hw i hi
    obtain ⟨e1, -⟩ := mul_n (a := w) (b := k) (i32_l ew' (by omega)) (i32_l ek (by omega)) (by omega) (by omega)
    have hle : w * k ≤ 20 * 9 := Nat.mul_le_mul w2 k1
    rw [Int64.neg_mul, i64_neg (by rw [e1]; omega) (by rw [e1]; omega), e1]
    exact ⟨by omega, by omega, fun _ => by omega⟩
theorem en_b {e : Ev} (h : okE e) : bnd (enT e) (fun r c => (enT e r c).toInt) := fun r c hr hc => ⟨rfl, (en_I h hr hc).1, (en_I h hr hc).2.1⟩
theorem en_Z {e : Ev} (h : okE e) {s : Nat} (hs : s < 32) : Zm (fun r c => (enT e (mem s r) (mem s c)).toInt) (pop s) := by
  intro i j hi hj hij
  have hp := pop_le s hs
  exact (en_I h (mem_5 s hs i (by omega)) (mem_5 s hs j (by omega))).2.2 (mem_ne s hs i (by omega) j (by omega) hi hj hij)
theorem wit_P {e : Ev} (h : okE e) : ∀ t, t < 32 → ∀ s, s < 32 → s &&& t = s → Pm (pop t) (fun r c => (enT e (mem t r) (mem t c)).toInt) → Pm (pop s) (fun r c => (enT e (mem s r) (mem s c)).toInt) := by
  intro t
  induction t using Nat.strongRecOn with
  | ind t ih =>
    intro ht s hs hst hp
    rcases set_dn t ht s hs hst with rfl | ⟨hi, tb, h2⟩
    · exact hp
    · have ts := tb_sub t ht _ hi tb
      have ma := mem_at t ht _ hi tb
      refine ih _ ts.2.1 ts.1 s hs h2 ?_
      have hz := en_Z h ht
      have hpl := pop_le t ht
      rw [← ts.2.2] at hp hz
      refine Pm_c (fun r c hr hc => ?_) (Pm_dl (pop (t % 2 ^ (Nat.log2 (t - s)))) (by omega) hz hp)
      show (enT e (mem t (sk _ r)) (mem t (sk _ c))).toInt = _
      rw [← mem_dl t ht _ hi tb r (by omega) (by omega), ← mem_dl t ht _ hi tb c (by omega) (by omega)]
theorem wit_ok {e : Ev} (h : okE e) (hf : feas (enT e) (onm e) = true) : ∀ s, s &&& onm e = s → feas (enT e) s = true := by
  intro s hs
  have h32 := onm_32 h.2.1
  have hs32 : s < 32 := by
    have : s &&& onm e ≤ onm e := Nat.and_le_right
    omega
  exact (feas_P (en_b h) hs32).mpr (wit_P h _ h32 s hs32 hs ((feas_P (en_b h) h32).mp hf))
theorem Bd_49 : ∀ m, m ≤ 5 → Bd m < 562949953421312 := by decide +kernel
theorem lN_of {x : Int64} {v : Int} (h : x.toInt = v) (h0 : 0 ≤ v) (hv : v < 562949953421312) : x = lN v.toNat := by
  apply Int64.toInt_inj.mp
  rw [pk_lT (by omega), h]; omega
theorem ls_ok {e : Ev} (h : okE e) (hf : feas (enT e) (onm e) = true) {i : Nat} (hi : i < e.1) (ho : eon e i = 1) : ∃ a b : Nat, a < 2 ^ 63 ∧ 0 < b ∧ b < 2 ^ 49 ∧ lsA e i = lN a ∧ lsB e = lN b := by
  have h5 : e.1 ≤ 5 := h.2.1
  have h32 := onm_32 h5
  have tb : (onm e).testBit i = true := by unfold onm; rw [onmL_tb hi]; exact decide_eq_true ho
  have ma := mem_at _ h32 i (by omega) tb
  have hp := pop_le _ h32
  have hP := (feas_P (en_b h) h32).mp hf
  have hz := en_Z h h32
  have hdB := pd_D (bnd_sub (en_b h) h32) (j := pop (onm e)) (by omega) hp
  have hpos := LM_of_P hp hP (pop (onm e)) (by omega) (Nat.le_refl _)
  have b49 := Bd_49 _ hp
  have hbv : ∀ r, r < 5 → ∃ v : Nat, v ≤ 180 ∧ ((ew e r).toInt64 * (eno e r).toInt64).toInt = (v : Int) := by
    intro r hr
    obtain ⟨w, w1, w2, ew'⟩ := h.2.2.2.2.2.1 r hr
    obtain ⟨k, k1, ek⟩ := h.2.2.2.2.2.2.1 r hr
    obtain ⟨e1, -⟩ := mul_n (a := w) (b := k) (i32_l ew' (by omega)) (i32_l ek (by omega)) (by omega) (by omega)
    exact ⟨w * k, Nat.mul_le_mul w2 k1, e1⟩
  have hB2 : bnd (repl e i) (fun r c => if c = i then ((ew e r).toInt64 * (eno e r).toInt64).toInt else (enT e r c).toInt) := by
    intro r c hr hc
    unfold repl
    by_cases q : c = i
    · simp only [if_pos q]
      obtain ⟨v, v1, v2⟩ := hbv r hr
      exact ⟨trivial, by omega, by omega⟩
    · simp only [if_neg q]
      exact ⟨trivial, (en_I h hr hc).1, (en_I h hr hc).2.1⟩
  have hdA := pd_D (bnd_sub hB2 h32) (j := pop (onm e)) (by omega) hp
  have eN : DI (fun r c => if mem (onm e) c = i then ((ew e (mem (onm e) r)).toInt64 * (eno e (mem (onm e) r)).toInt64).toInt else (enT e (mem (onm e) r) (mem (onm e) c)).toInt) (pop (onm e)) = DI (rcI (fun r c => (enT e (mem (onm e) r) (mem (onm e) c)).toInt) (pop (onm e % 2 ^ i)) (fun r => ((ew e (mem (onm e) r)).toInt64 * (eno e (mem (onm e) r)).toInt64).toInt)) (pop (onm e)) := by
    refine DI_c hp (by omega) (fun r c hr hc => ?_)
    have iff := ma.2 c (by omega) hc
    unfold rcI
    by_cases q : c = pop (onm e % 2 ^ i)
    · simp only [if_pos q, if_pos (iff.mpr q)]
    · simp only [if_neg q, if_neg (fun z => q (iff.mp z))]
  have hN := N_pos (b := fun r => ((ew e (mem (onm e) r)).toInt64 * (eno e (mem (onm e) r)).toInt64).toInt) (by omega) hp hz hP (fun r hr => by
    obtain ⟨v, v1, v2⟩ := hbv (mem (onm e) r) (mem_5 _ h32 r (by omega))
    show 0 ≤ ((ew e (mem (onm e) r)).toInt64 * (eno e (mem (onm e) r)).toInt64).toInt
    omega) _ ma.1
  rw [← eN] at hN
  obtain ⟨a1, a2, a3⟩ := hdA
  obtain ⟨b1, b2, b3⟩ := hdB
  generalize DI (fun r c => if mem (onm e) c = i then ((ew e (mem (onm e) r)).toInt64 * (eno e (mem (onm e) r)).toInt64).toInt else (enT e (mem (onm e) r) (mem (onm e) c)).toInt) (pop (onm e)) = x at *
  generalize DI (fun r c => (enT e (mem (onm e) r) (mem (onm e) c)).toInt) (pop (onm e)) = y at *
  exact ⟨x.toNat, y.toNat, by omega, by omega, by omega, lN_of a1 hN (by omega), lN_of b1 (by omega) (by omega)⟩
