/-! ===== bits of small numbers ===== -/
theorem r_nand (a b : Nat) : nI a &&& nI b = nI (a &&& b) := by
  apply Int32.toBitVec_inj.mp
  rw [Int32.toBitVec_and]
  show BitVec.ofNat 32 a &&& BitVec.ofNat 32 b = BitVec.ofNat 32 (a &&& b)
  rw [BitVec.ofNat_and]
theorem r_nshr {s : Nat} (h : s < 2147483648) (k : Nat) (hk : k < 32) : ((nI s).toUInt32 >>> ((nI k).toUInt32 &&& Int32.toUInt32 31)).toInt32 = nI (s / 2 ^ k) := by
  apply Int32.toBitVec_inj.mp
  apply BitVec.eq_of_toNat_eq
  have e1 : ((nI k).toUInt32 &&& Int32.toUInt32 31) = UInt32.ofNat k := by
    have : ∀ k, k < 32 → ((nI k).toUInt32 &&& Int32.toUInt32 31) = UInt32.ofNat k := by decide +kernel
    exact this k hk
  rw [e1]
  have e2 : ((nI s).toUInt32 >>> UInt32.ofNat k).toInt32.toBitVec = ((nI s).toUInt32 >>> UInt32.ofNat k).toBitVec := rfl
  rw [e2, UInt32.toBitVec_shiftRight, BitVec.ushiftRight_eq', BitVec.toNat_ushiftRight]
  have e3 : (nI s).toUInt32.toBitVec.toNat = s := by
    show (BitVec.ofNat 32 s).toNat = s
    rw [BitVec.toNat_ofNat, Nat.mod_eq_of_lt (by omega)]
  have e4 : ((UInt32.ofNat k).toBitVec % 32).toNat = k := by
    have : ∀ k, k < 32 → ((UInt32.ofNat k).toBitVec % 32).toNat = k := by decide +kernel
    exact this k hk
  rw [e3, e4, Nat.shiftRight_eq_div_pow]
  show s / 2 ^ k = (BitVec.ofNat 32 (s / 2 ^ k)).toNat
  have : s / 2 ^ k ≤ s := Nat.div_le_self _ _
  rw [BitVec.toNat_ofNat, Nat.mod_eq_of_lt (by omega)]
def r_pc : Nat → Nat → Nat
  | 0, _ => 0
  | m + 1, s => s % 2 + r_pc m (s / 2)
theorem r_and1 {a x c y : Nat} (ha : a < 16) (hc : c < 16) : (a + 16 * x) &&& (c + 16 * y) = (a &&& c) + 16 * (x &&& y) := by
  have e1 : ((a + 16 * x) &&& (c + 16 * y)) % 2 ^ 4 = ((a + 16 * x) % 2 ^ 4) &&& ((c + 16 * y) % 2 ^ 4) := Nat.and_mod_two_pow
  have e2 : ((a + 16 * x) &&& (c + 16 * y)) / 2 ^ 4 = ((a + 16 * x) / 2 ^ 4) &&& ((c + 16 * y) / 2 ^ 4) := Nat.and_div_two_pow
  rw [show (a + 16 * x) % 2 ^ 4 = a by omega, show (c + 16 * y) % 2 ^ 4 = c by omega] at e1
  rw [show (a + 16 * x) / 2 ^ 4 = x by omega, show (c + 16 * y) / 2 ^ 4 = y by omega] at e2
  omega
theorem r_and5 {a0 a1 a2 a3 a4 c0 c1 c2 c3 c4 y : Nat} (h0 : a0 < 16) (h1 : a1 < 16) (h2 : a2 < 16) (h3 : a3 < 16) (h4 : a4 < 16) (g0 : c0 < 16) (g1 : c1 < 16) (g2 : c2 < 16) (g3 : c3 < 16) (g4 : c4 < 16) :
    (a0 + 16 * (a1 + 16 * (a2 + 16 * (a3 + 16 * a4)))) &&& (c0 + 16 * (c1 + 16 * (c2 + 16 * (c3 + 16 * (c4 + 16 * y))))) = (a0 &&& c0) + 16 * ((a1 &&& c1) + 16 * ((a2 &&& c2) + 16 * ((a3 &&& c3) + 16 * (a4 &&& c4)))) := by
  rw [r_and1 h0 g0, r_and1 h1 g1, r_and1 h2 g2, r_and1 h3 g3]
  have := r_and1 (x := 0) (y := y) h4 g4
  rw [Nat.mul_zero, Nat.add_zero, Nat.zero_and, Nat.mul_zero, Nat.add_zero] at this
  rw [this]
theorem r_nib1 : ∀ a, a < 16 → ∀ b, b < 16 → (a / 2 + 8 * (b % 2)) &&& 5 = (a / 2 &&& 5) := by decide +kernel
theorem r_nib2 : ∀ a, a < 16 → (a / 2 &&& 5) ≤ a := by decide +kernel
theorem r_nib3 : ∀ a, a < 16 → ∀ b, b < 16 → (a / 4 + 4 * (b % 4)) &&& 3 = a / 4 := by decide +kernel
theorem r_nib4 : ∀ a, a < 16 → ((a - (a / 2 &&& 5)) &&& 3) + (a - (a / 2 &&& 5)) / 4 = r_pc 4 a := by decide +kernel
theorem r_nib5 : ∀ a, a < 16 → r_pc 4 a ≤ 4 := by decide +kernel
theorem r_nib6 : ∀ a, a < 16 → a &&& 15 = a := by decide +kernel
theorem r_pc_cut {n x : Nat} : r_pc 4 (n + 16 * x) = r_pc 4 n := by
  show (n + 16 * x) % 2 + ((n + 16 * x) / 2 % 2 + ((n + 16 * x) / 2 / 2 % 2 + ((n + 16 * x) / 2 / 2 / 2 % 2 + 0))) = n % 2 + (n / 2 % 2 + (n / 2 / 2 % 2 + (n / 2 / 2 / 2 % 2 + 0)))
  omega
theorem r_pc_add : ∀ (a b s : Nat), r_pc (a + b) s = r_pc a s + r_pc b (s / 2 ^ a)
  | 0, b, s => by rw [Nat.zero_add, Nat.pow_zero, Nat.div_one]; show _ = 0 + _; omega
  | a + 1, b, s => by
    rw [show a + 1 + b = (a + b) + 1 by omega]
    show s % 2 + r_pc (a + b) (s / 2) = s % 2 + r_pc a (s / 2) + r_pc b (s / 2 ^ (a + 1))
    rw [r_pc_add a b (s / 2), Nat.div_div_eq_div_mul, show 2 * 2 ^ a = 2 ^ (a + 1) by rw [Nat.pow_succ]; omega]
    omega
def r_bc1 (s : Nat) : Nat := s - (s / 2 &&& 1431655765)
def r_bc2 (i : Nat) : Nat := (i &&& 858993459) + (i / 4 &&& 858993459)
def r_bc3 (i : Nat) : Nat := (i + i / 16) &&& 252645135
theorem r_pc20 {n0 n1 n2 n3 n4 : Nat} (h0 : n0 < 16) (h1 : n1 < 16) (h2 : n2 < 16) (h3 : n3 < 16) : r_pc 20 (n0 + 16 * (n1 + 16 * (n2 + 16 * (n3 + 16 * n4)))) = r_pc 4 n0 + r_pc 4 n1 + r_pc 4 n2 + r_pc 4 n3 + r_pc 4 n4 := by
  have a0 := r_pc_add 4 16 (n0 + 16 * (n1 + 16 * (n2 + 16 * (n3 + 16 * n4))))
  have a1 := r_pc_add 4 12 (n1 + 16 * (n2 + 16 * (n3 + 16 * n4)))
  have a2 := r_pc_add 4 8 (n2 + 16 * (n3 + 16 * n4))
  have a3 := r_pc_add 4 4 (n3 + 16 * n4)
  rw [r_pc_cut, show (n0 + 16 * (n1 + 16 * (n2 + 16 * (n3 + 16 * n4)))) / 2 ^ 4 = n1 + 16 * (n2 + 16 * (n3 + 16 * n4)) by omega] at a0
  rw [r_pc_cut, show (n1 + 16 * (n2 + 16 * (n3 + 16 * n4))) / 2 ^ 4 = n2 + 16 * (n3 + 16 * n4) by omega] at a1
  rw [r_pc_cut, show (n2 + 16 * (n3 + 16 * n4)) / 2 ^ 4 = n3 + 16 * n4 by omega] at a2
  rw [r_pc_cut, show (n3 + 16 * n4) / 2 ^ 4 = n4 by omega] at a3
  have b0 : r_pc 20 (n0 + 16 * (n1 + 16 * (n2 + 16 * (n3 + 16 * n4)))) = r_pc 4 n0 + r_pc 16 (n1 + 16 * (n2 + 16 * (n3 + 16 * n4))) := a0
  have b1 : r_pc 16 (n1 + 16 * (n2 + 16 * (n3 + 16 * n4))) = r_pc 4 n1 + r_pc 12 (n2 + 16 * (n3 + 16 * n4)) := a1
  have b2 : r_pc 12 (n2 + 16 * (n3 + 16 * n4)) = r_pc 4 n2 + r_pc 8 (n3 + 16 * n4) := a2
  have b3 : r_pc 8 (n3 + 16 * n4) = r_pc 4 n3 + r_pc 4 n4 := a3
  rw [b0, b1, b2, b3]
  omega
theorem r_half (n0 n1 n2 n3 n4 : Nat) : (n0 + 16 * (n1 + 16 * (n2 + 16 * (n3 + 16 * n4)))) / 2 = (n0 / 2 + 8 * (n1 % 2)) + 16 * ((n1 / 2 + 8 * (n2 % 2)) + 16 * ((n2 / 2 + 8 * (n3 % 2)) + 16 * ((n3 / 2 + 8 * (n4 % 2)) + 16 * (n4 / 2 + 8 * (0 % 2))))) := by omega
theorem r_quarter (n0 n1 n2 n3 n4 : Nat) : (n0 + 16 * (n1 + 16 * (n2 + 16 * (n3 + 16 * n4)))) / 4 = (n0 / 4 + 4 * (n1 % 4)) + 16 * ((n1 / 4 + 4 * (n2 % 4)) + 16 * ((n2 / 4 + 4 * (n3 % 4)) + 16 * ((n3 / 4 + 4 * (n4 % 4)) + 16 * (n4 / 4 + 4 * (0 % 4))))) := by omega
theorem r_msk1 : (1431655765 : Nat) = 5 + 16 * (5 + 16 * (5 + 16 * (5 + 16 * (5 + 16 * 1365)))) := by decide
theorem r_msk2 : (858993459 : Nat) = 3 + 16 * (3 + 16 * (3 + 16 * (3 + 16 * (3 + 16 * 819)))) := by decide
theorem r_msk3 : (252645135 : Nat) = 15 + 16 * (0 + 16 * (15 + 16 * (0 + 16 * (15 + 16 * 240)))) := by decide
theorem r_sub5 {n0 n1 n2 n3 n4 u0 u1 u2 u3 u4 : Nat} (t0 : u0 ≤ n0) (t1 : u1 ≤ n1) (t2 : u2 ≤ n2) (t3 : u3 ≤ n3) (t4 : u4 ≤ n4) : (n0 + 16 * (n1 + 16 * (n2 + 16 * (n3 + 16 * n4)))) - (u0 + 16 * (u1 + 16 * (u2 + 16 * (u3 + 16 * u4)))) = (n0 - u0) + 16 * ((n1 - u1) + 16 * ((n2 - u2) + 16 * ((n3 - u3) + 16 * (n4 - u4)))) := by omega
theorem r_bce1 {n0 n1 n2 n3 n4 : Nat} (h0 : n0 < 16) (h1 : n1 < 16) (h2 : n2 < 16) (h3 : n3 < 16) (h4 : n4 < 16) : r_bc1 (n0 + 16 * (n1 + 16 * (n2 + 16 * (n3 + 16 * n4)))) = (n0 - (n0 / 2 &&& 5)) + 16 * ((n1 - (n1 / 2 &&& 5)) + 16 * ((n2 - (n2 / 2 &&& 5)) + 16 * ((n3 - (n3 / 2 &&& 5)) + 16 * (n4 - (n4 / 2 &&& 5))))) := by
  unfold r_bc1
  have k := r_and5 (a0 := n0 / 2 + 8 * (n1 % 2)) (a1 := n1 / 2 + 8 * (n2 % 2)) (a2 := n2 / 2 + 8 * (n3 % 2)) (a3 := n3 / 2 + 8 * (n4 % 2)) (a4 := n4 / 2 + 8 * (0 % 2)) (c0 := 5) (c1 := 5) (c2 := 5) (c3 := 5) (c4 := 5) (y := 1365) (by omega) (by omega) (by omega) (by omega) (by omega) (by omega) (by omega) (by omega) (by omega) (by omega)
  rw [r_nib1 _ h0 _ h1, r_nib1 _ h1 _ h2, r_nib1 _ h2 _ h3, r_nib1 _ h3 _ h4, r_nib1 _ h4 0 (by omega), ← r_half, ← r_msk1] at k
  rw [k]
  exact r_sub5 (r_nib2 n0 h0) (r_nib2 n1 h1) (r_nib2 n2 h2) (r_nib2 n3 h3) (r_nib2 n4 h4)
theorem r_add5 {n0 n1 n2 n3 n4 u0 u1 u2 u3 u4 : Nat} : (n0 + 16 * (n1 + 16 * (n2 + 16 * (n3 + 16 * n4)))) + (u0 + 16 * (u1 + 16 * (u2 + 16 * (u3 + 16 * u4)))) = (n0 + u0) + 16 * ((n1 + u1) + 16 * ((n2 + u2) + 16 * ((n3 + u3) + 16 * (n4 + u4)))) := by omega
theorem r_bce2 {v0 v1 v2 v3 v4 : Nat} (h0 : v0 < 16) (h1 : v1 < 16) (h2 : v2 < 16) (h3 : v3 < 16) (h4 : v4 < 16) : r_bc2 (v0 + 16 * (v1 + 16 * (v2 + 16 * (v3 + 16 * v4)))) = ((v0 &&& 3) + v0 / 4) + 16 * (((v1 &&& 3) + v1 / 4) + 16 * (((v2 &&& 3) + v2 / 4) + 16 * (((v3 &&& 3) + v3 / 4) + 16 * ((v4 &&& 3) + v4 / 4)))) := by
  unfold r_bc2
  have k := r_and5 (a0 := v0 / 4 + 4 * (v1 % 4)) (a1 := v1 / 4 + 4 * (v2 % 4)) (a2 := v2 / 4 + 4 * (v3 % 4)) (a3 := v3 / 4 + 4 * (v4 % 4)) (a4 := v4 / 4 + 4 * (0 % 4)) (c0 := 3) (c1 := 3) (c2 := 3) (c3 := 3) (c4 := 3) (y := 819) (by omega) (by omega) (by omega) (by omega) (by omega) (by omega) (by omega) (by omega) (by omega) (by omega)
  rw [r_nib3 _ h0 _ h1, r_nib3 _ h1 _ h2, r_nib3 _ h2 _ h3, r_nib3 _ h3 _ h4, r_nib3 _ h4 0 (by omega), ← r_quarter, ← r_msk2] at k
  have k2 := r_and5 (a0 := v0) (a1 := v1) (a2 := v2) (a3 := v3) (a4 := v4) (c0 := 3) (c1 := 3) (c2 := 3) (c3 := 3) (c4 := 3) (y := 819) h0 h1 h2 h3 h4 (by omega) (by omega) (by omega) (by omega) (by omega)
  rw [← r_msk2] at k2
  rw [k, k2, r_add5]
theorem r_bce3 {z0 z1 z2 z3 z4 : Nat} (w0 : z0 ≤ 4) (w1 : z1 ≤ 4) (w2 : z2 ≤ 4) (w3 : z3 ≤ 4) (w4 : z4 ≤ 4) : r_bc3 (z0 + 16 * (z1 + 16 * (z2 + 16 * (z3 + 16 * z4)))) = (z0 + z1) + 256 * ((z2 + z3) + 256 * z4) := by
  unfold r_bc3
  have k := r_and5 (a0 := z0 + z1) (a1 := z1 + z2) (a2 := z2 + z3) (a3 := z3 + z4) (a4 := z4) (c0 := 15) (c1 := 0) (c2 := 15) (c3 := 0) (c4 := 15) (y := 240) (by omega) (by omega) (by omega) (by omega) (by omega) (by omega) (by omega) (by omega) (by omega) (by omega)
  rw [← r_msk3, r_nib6 _ (show z0 + z1 < 16 by omega), r_nib6 _ (show z2 + z3 < 16 by omega), r_nib6 _ (show z4 < 16 by omega), Nat.and_zero, Nat.and_zero] at k
  have e : z0 + 16 * (z1 + 16 * (z2 + 16 * (z3 + 16 * z4))) + (z0 + 16 * (z1 + 16 * (z2 + 16 * (z3 + 16 * z4)))) / 16 = (z0 + z1) + 16 * ((z1 + z2) + 16 * ((z2 + z3) + 16 * ((z3 + z4) + 16 * z4))) := by omega
  rw [e, k]
  omega
theorem r_bce4 {a b c : Nat} (ha : a ≤ 8) (hb : b ≤ 8) (hc : c ≤ 4) : ((a + 256 * (b + 256 * c)) + (a + 256 * (b + 256 * c)) / 256 + ((a + 256 * (b + 256 * c)) + (a + 256 * (b + 256 * c)) / 256) / 65536) &&& 63 = a + b + c := by
  have e6 : ∀ x : Nat, x &&& 63 = x % 64 := fun x => Nat.and_two_pow_sub_one_eq_mod x 6
  rw [e6, show (a + 256 * (b + 256 * c)) / 256 = b + 256 * c by omega, show (a + 256 * (b + 256 * c) + (b + 256 * c)) / 65536 = c by omega]
  omega
theorem r_bc {s : Nat} (hs : s < 1048576) : r_bc1 s ≤ s ∧ r_bc2 (r_bc1 s) < 1048576 ∧ r_bc3 (r_bc2 (r_bc1 s)) < 1048576 ∧ ((r_bc3 (r_bc2 (r_bc1 s)) + r_bc3 (r_bc2 (r_bc1 s)) / 256 + (r_bc3 (r_bc2 (r_bc1 s)) + r_bc3 (r_bc2 (r_bc1 s)) / 256) / 65536) &&& 63) = r_pc 20 s := by
  obtain ⟨n0, n1, n2, n3, n4, h0, h1, h2, h3, h4, rfl⟩ : ∃ n0 n1 n2 n3 n4, n0 < 16 ∧ n1 < 16 ∧ n2 < 16 ∧ n3 < 16 ∧ n4 < 16 ∧ s = n0 + 16 * (n1 + 16 * (n2 + 16 * (n3 + 16 * n4))) :=
    ⟨s % 16, s / 16 % 16, s / 256 % 16, s / 4096 % 16, s / 65536, by omega, by omega, by omega, by omega, by omega, by omega⟩
  have q0 := r_nib5 n0 h0
  have q1 := r_nib5 n1 h1
  have q2 := r_nib5 n2 h2
  have q3 := r_nib5 n3 h3
  have q4 := r_nib5 n4 h4
  have e2 := r_bce2 (v0 := n0 - (n0 / 2 &&& 5)) (v1 := n1 - (n1 / 2 &&& 5)) (v2 := n2 - (n2 / 2 &&& 5)) (v3 := n3 - (n3 / 2 &&& 5)) (v4 := n4 - (n4 / 2 &&& 5)) (by omega) (by omega) (by omega) (by omega) (by omega)
  rw [← r_bce1 h0 h1 h2 h3 h4, r_nib4 n0 h0, r_nib4 n1 h1, r_nib4 n2 h2, r_nib4 n3 h3, r_nib4 n4 h4] at e2
  have e3 := r_bce3 q0 q1 q2 q3 q4
  rw [← e2] at e3
  refine ⟨Nat.sub_le _ _, by rw [e2]; omega, by rw [e3]; omega, ?_⟩
  rw [e3, r_bce4 (by omega) (by omega) (by omega), r_pc20 h0 h1 h2 h3]
  omega
/-- how many bits, as the class counts them -/
theorem z_bitCount {M : q_Mem} {s : Nat} (hs : s < 1048576) : f_J6_bitCount_0f7a4 M (nI s) = some (nI (r_pc 20 s)) := by
  obtain ⟨h1, h2, h3, h4⟩ := r_bc hs
  have m1 : (1431655765 : Int32) = nI 1431655765 := rfl
  have m2 : (858993459 : Int32) = nI 858993459 := rfl
  have m3 : (252645135 : Int32) = nI 252645135 := rfl
  have m4 : (63 : Int32) = nI 63 := rfl
  have s1 := r_nshr (s := s) (by omega) 1 (by decide)
  have e1 : nI s - nI (s / 2 ^ 1 &&& 1431655765) = nI (r_bc1 s) := pk_sub (Nat.le_trans Nat.and_le_left (Nat.div_le_self _ _))
  have s2 := r_nshr (s := r_bc1 s) (by omega) 2 (by decide)
  have s3 := r_nshr (s := r_bc2 (r_bc1 s)) (by omega) 4 (by decide)
  have s4 := r_nshr (s := r_bc3 (r_bc2 (r_bc1 s))) (by omega) 8 (by decide)
  have s5 := r_nshr (s := r_bc3 (r_bc2 (r_bc1 s)) + r_bc3 (r_bc2 (r_bc1 s)) / 256) (by omega) 16 (by decide)
  have k1 : (nI s - (((nI s).toUInt32 >>> ((1 : Int32).toUInt32 &&& Int32.toUInt32 31)).toInt32 &&& (1431655765 : Int32))) = nI (r_bc1 s) := by
    have s1' : ((nI s).toUInt32 >>> ((1 : Int32).toUInt32 &&& Int32.toUInt32 31)).toInt32 = nI (s / 2 ^ 1) := s1
    rw [s1', m1, r_nand, e1]
  have k2 : ((nI (r_bc1 s) &&& (858993459 : Int32)) + (((nI (r_bc1 s)).toUInt32 >>> ((2 : Int32).toUInt32 &&& Int32.toUInt32 31)).toInt32 &&& (858993459 : Int32))) = nI (r_bc2 (r_bc1 s)) := by
    have s2' : ((nI (r_bc1 s)).toUInt32 >>> ((2 : Int32).toUInt32 &&& Int32.toUInt32 31)).toInt32 = nI (r_bc1 s / 2 ^ 2) := s2
    rw [s2', m2, r_nand, r_nand, nI_add]
    rfl
  have k3 : ((nI (r_bc2 (r_bc1 s)) + ((nI (r_bc2 (r_bc1 s))).toUInt32 >>> ((4 : Int32).toUInt32 &&& Int32.toUInt32 31)).toInt32) &&& (252645135 : Int32)) = nI (r_bc3 (r_bc2 (r_bc1 s))) := by
    have s3' : ((nI (r_bc2 (r_bc1 s))).toUInt32 >>> ((4 : Int32).toUInt32 &&& Int32.toUInt32 31)).toInt32 = nI (r_bc2 (r_bc1 s) / 2 ^ 4) := s3
    rw [s3', m3, nI_add, r_nand]
    rfl
  have s4' : ((nI (r_bc3 (r_bc2 (r_bc1 s)))).toUInt32 >>> ((8 : Int32).toUInt32 &&& Int32.toUInt32 31)).toInt32 = nI (r_bc3 (r_bc2 (r_bc1 s)) / 2 ^ 8) := s4
  have s5' : ((nI (r_bc3 (r_bc2 (r_bc1 s)) + r_bc3 (r_bc2 (r_bc1 s)) / 256)).toUInt32 >>> ((16 : Int32).toUInt32 &&& Int32.toUInt32 31)).toInt32 = nI ((r_bc3 (r_bc2 (r_bc1 s)) + r_bc3 (r_bc2 (r_bc1 s)) / 256) / 2 ^ 16) := s5
  unfold f_J6_bitCount_0f7a4
  rw [k1, k2, k3, s4', nI_add]
  show some ((nI (r_bc3 (r_bc2 (r_bc1 s)) + r_bc3 (r_bc2 (r_bc1 s)) / 256) + ((nI (r_bc3 (r_bc2 (r_bc1 s)) + r_bc3 (r_bc2 (r_bc1 s)) / 256)).toUInt32 >>> ((16 : Int32).toUInt32 &&& Int32.toUInt32 31)).toInt32) &&& (63 : Int32)) = _
  rw [s5', nI_add, m4, r_nand]
  exact congrArg (fun x => some (nI x)) h4
theorem z_shrN {s f : Nat} (hs : s < 2147483648) (hf : f < 32) : nI s >>> (nI f &&& 31) = nI (s / 2 ^ f) := by
  rw [q_eq_iff, z_shr hf, nI_toInt hs, nI_toInt (Nat.lt_of_le_of_lt (Nat.div_le_self _ _) hs)]
  norm_cast
theorem z_tbit {s f : Nat} (hs : s < 2147483648) (hf : f < 32) : (((nI s >>> (nI f &&& 31)) &&& (1 : Int32)) = (1 : Int32)) = (Nat.testBit s f = true) := by
  have m1 : (1 : Int32) = nI 1 := rfl
  rw [z_shrN hs hf, m1, r_nand, Nat.and_one_is_mod, nI_eq (by omega) (by decide), Nat.testBit_eq_decide_div_mod_eq, decide_eq_true_eq]
theorem z_holds {M : q_Mem} {s f : Nat} (hs : s < 2147483648) (hf : f < 32) : f_X11_holds M (nI s) (nI f) = some (if Nat.testBit s f = true then 1 else 0) := by
  unfold f_X11_holds
  simp only [z_tbit hs hf]
  split <;> rfl
theorem r_pc0 : ∀ k, r_pc k 0 = 0
  | 0 => rfl
  | k + 1 => by
    show 0 % 2 + r_pc k (0 / 2) = 0
    rw [r_pc0 k]
theorem z_sizeOf {M : q_Mem} : ∀ (k fu a s : Nat), s < 2 ^ k → s < 2147483648 → k < fu → f_X12_sizeOf_b4 M fu (nI a) (nI s) = some (nI (a + r_pc k s))
  | 0, fu, a, s, h, hs, hf => by
    obtain ⟨g, rfl⟩ : ∃ g, fu = g + 1 := ⟨fu - 1, by omega⟩
    obtain rfl : s = 0 := by simpa using h
    have c : ((0 : Int32) < nI 0) = False := by decide
    simp only [f_X12_sizeOf_b4.eq_2, c, if_false]
    rfl
  | k + 1, fu, a, s, h, hs, hf => by
    obtain ⟨g, rfl⟩ : ∃ g, fu = g + 1 := ⟨fu - 1, by omega⟩
    by_cases z : s = 0
    · subst z
      have c : ((0 : Int32) < nI 0) = False := by decide
      simp only [f_X12_sizeOf_b4.eq_2, c, if_false, r_pc0]
      rfl
    · have c : ((0 : Int32) < nI s) = True := eq_true (nI_lt (a := 0) (by omega) (by omega))
      have m1 : (1 : Int32) = nI 1 := rfl
      have e1 : nI s &&& (1 : Int32) = nI (s % 2) := by rw [m1, r_nand, Nat.and_one_is_mod]
      have e2 : nI s >>> ((1 : Int32) &&& 31) = nI (s / 2) := by
        have := z_shrN (s := s) (f := 1) hs (by decide)
        rw [Nat.pow_one] at this
        exact this
      have ih := z_sizeOf (M := M) k g (a + s % 2) (s / 2) (by rw [Nat.pow_succ] at h; omega) (by omega) (by omega)
      simp only [f_X12_sizeOf_b4.eq_2, c, if_true, e1, e2, nI_add, ih]
      show some (nI (a + s % 2 + r_pc k (s / 2))) = some (nI (a + (s % 2 + r_pc k (s / 2))))
      rw [Nat.add_assoc]
/-- the numbers g k of the first n that c has -/
def r_A (c : Nat → Bool) (g : Nat → Nat) : Nat → List Nat
  | 0 => []
  | k + 1 => r_A c g k ++ (if c k = true then [g k] else [])
/-- those of the last d before n -/
def r_R (c : Nat → Bool) (g : Nat → Nat) (n : Nat) : Nat → List Nat
  | 0 => []
  | d + 1 => (if c (n - (d + 1)) = true then [g (n - (d + 1))] else []) ++ r_R c g n d
theorem r_A_R {c : Nat → Bool} {g : Nat → Nat} {n : Nat} : ∀ d, d ≤ n → r_A c g n = r_A c g (n - d) ++ r_R c g n d
  | 0, _ => by show r_A c g n = r_A c g n ++ []; rw [List.append_nil]
  | d + 1, h => by
    rw [r_A_R d (by omega), show n - d = (n - (d + 1)) + 1 by omega]
    show (r_A c g (n - (d + 1)) ++ _) ++ r_R c g n d = r_A c g (n - (d + 1)) ++ (_ ++ r_R c g n d)
    rw [List.append_assoc]
theorem r_A_cong {c c' : Nat → Bool} {g : Nat → Nat} : ∀ n, (∀ k, k < n → c k = c' k) → r_A c g n = r_A c' g n
  | 0, _ => rfl
  | n + 1, h => by
    show r_A c g n ++ (if c n = true then [g n] else []) = r_A c' g n ++ (if c' n = true then [g n] else [])
    rw [r_A_cong n (fun k hk => h k (by omega)), h n (by omega)]
theorem r_R_cong {c c' : Nat → Bool} {g : Nat → Nat} {n : Nat} : ∀ d, d ≤ n → (∀ k, n - d ≤ k → k < n → c k = c' k) → r_R c g n d = r_R c' g n d
  | 0, _, _ => rfl
  | d + 1, hd, h => by
    show (if c (n - (d + 1)) = true then _ else _) ++ r_R c g n d = (if c' (n - (d + 1)) = true then _ else _) ++ r_R c' g n d
    rw [r_R_cong d (by omega) (fun k h1 h2 => h k (by omega) h2), h (n - (d + 1)) (by omega) (by omega)]
/-- without one of them -/
theorem r_A_without {c c' : Nat → Bool} {g : Nat → Nat} {n k : Nat} (hk : k < n) (h0 : c' k = false) (h : ∀ j, j < n → j ≠ k → c' j = c j) : r_A c' g n = r_A c g k ++ r_R c g n (n - (k + 1)) := by
  rw [r_A_R (n - (k + 1)) (by omega), show n - (n - (k + 1)) = k + 1 by omega]
  show (r_A c' g k ++ (if c' k = true then [g k] else [])) ++ _ = _
  rw [h0, if_neg (by decide), List.append_nil, r_A_cong k (fun j hj => h j (by omega) (by omega)), r_R_cong (n - (k + 1)) (by omega) (fun j h1 h2 => h j h2 (by omega))]
theorem r_R_step {c : Nat → Bool} {g : Nat → Nat} {n k : Nat} (hk : k < n) : r_R c g n (n - k) = (if c k = true then [g k] else []) ++ r_R c g n (n - (k + 1)) := by
  rw [show n - k = (n - (k + 1)) + 1 by omega]
  show (if c (n - (n - (k + 1) + 1)) = true then [g (n - (n - (k + 1) + 1))] else []) ++ _ = _
  rw [show n - (n - (k + 1) + 1) = k by omega]
theorem r_A_mono {c : Nat → Bool} {g : Nat → Nat} {n : Nat} {k : Nat} (hk : k ≤ n) : (r_A c g k).length ≤ (r_A c g n).length := by
  have e := r_A_R (c := c) (g := g) (n := n) (n - k) (by omega)
  rw [show n - (n - k) = k by omega] at e
  rw [e, List.length_append]
  omega
theorem r_A_le {c : Nat → Bool} {g : Nat → Nat} : ∀ n, (r_A c g n).length ≤ n
  | 0 => Nat.le_refl _
  | n + 1 => by
    show (r_A c g n ++ _).length ≤ n + 1
    have := r_A_le (c := c) (g := g) n
    rw [List.length_append]
    split
    · show _ + 1 ≤ _; omega
    · show _ + 0 ≤ _; omega
theorem r_A_mem {c : Nat → Bool} {g : Nat → Nat} {x : Nat} : ∀ n, x ∈ r_A c g n → ∃ k, k < n ∧ c k = true ∧ x = g k
  | 0, h => absurd h (by simp [r_A])
  | n + 1, h => by
    have h : x ∈ r_A c g n ++ (if c n = true then [g n] else []) := h
    rcases List.mem_append.mp h with h | h
    · obtain ⟨k, h1, h2, h3⟩ := r_A_mem n h
      exact ⟨k, by omega, h2, h3⟩
    · by_cases z : c n = true
      · rw [if_pos z] at h
        exact ⟨n, by omega, z, List.mem_singleton.mp h⟩
      · rw [if_neg z] at h
        exact absurd h (by simp)
theorem r_A_pw {c : Nat → Bool} {g : Nat → Nat} (hg : ∀ a b, a < b → g a < g b) : ∀ n, (r_A c g n).Pairwise (· < ·)
  | 0 => List.Pairwise.nil
  | n + 1 => by
    show (r_A c g n ++ (if c n = true then [g n] else [])).Pairwise (· < ·)
    by_cases z : c n = true
    · rw [if_pos z]
      refine List.pairwise_append.mpr ⟨r_A_pw hg n, List.pairwise_singleton _ _, fun a ha b hb => ?_⟩
      obtain ⟨k, h1, h2, rfl⟩ := r_A_mem n ha
      rw [List.mem_singleton.mp hb]
      exact hg k n h1
    · rw [if_neg z, List.append_nil]
      exact r_A_pw hg n
theorem r_A_pc {g : Nat → Nat} : ∀ (m s : Nat), (r_A (Nat.testBit s) g m).length = r_pc m s
  | 0, _ => rfl
  | m + 1, s => by
    have e : r_pc (m + 1) s = r_pc m s + r_pc 1 (s / 2 ^ m) := r_pc_add m 1 s
    rw [e, ← r_A_pc m s]
    show (r_A (Nat.testBit s) g m ++ (if Nat.testBit s m = true then [g m] else [])).length = _
    rw [List.length_append, Nat.testBit_eq_decide_div_mod_eq]
    show _ = _ + (s / 2 ^ m % 2 + 0)
    by_cases z : s / 2 ^ m % 2 = 1
    · rw [if_pos (decide_eq_true z), z]; rfl
    · rw [if_neg (by simpa using z)]
      show _ + 0 = _ + (s / 2 ^ m % 2 + 0)
      omega
theorem r_pc_more : ∀ (m n s : Nat), s < 2 ^ m → m ≤ n → r_pc n s = r_pc m s := by
  intro m n s h hm
  obtain ⟨d, rfl⟩ : ∃ d, n = m + d := ⟨n - m, by omega⟩
  rw [r_pc_add, Nat.div_eq_of_lt h, r_pc0, Nat.add_zero]
