/-! ===== the class' heaps: sets as numbers ===== -/
theorem r_nxor (a b : Nat) : nI a ^^^ nI b = nI (a ^^^ b) := by
  apply Int32.toBitVec_inj.mp
  rw [Int32.toBitVec_xor]
  show BitVec.ofNat 32 a ^^^ BitVec.ofNat 32 b = BitVec.ofNat 32 (a ^^^ b)
  rw [BitVec.ofNat_xor]
theorem r_nor (a b : Nat) : nI a ||| nI b = nI (a ||| b) := by
  apply Int32.toBitVec_inj.mp
  rw [Int32.toBitVec_or]
  show BitVec.ofNat 32 a ||| BitVec.ofNat 32 b = BitVec.ofNat 32 (a ||| b)
  rw [BitVec.ofNat_or]
theorem h_on_step : ∀ s, s < 1024 → 0 < s → (nI s &&& (nI s - (1 : Int32))) = nI (s - 2 ^ h_lo 10 s) ∧ s - 2 ^ h_lo 10 s < s ∧ h_on s = h_on (s - 2 ^ h_lo 10 s) + h_w (h_lo 10 s) := by decide +kernel
theorem h_on_le : ∀ s, s < 1024 → h_on s < 1099511627776 := by decide +kernel
theorem h_low2 : ∀ s, s < 1024 → 0 < s → (nI s &&& (-(nI s))) = nI (2 ^ h_lo 10 s) := by decide +kernel
theorem h_ntz0 : ∀ s, s < 1024 → 0 < s → f_J6_numberOfTrailingZeros_0f7a4 q_M0 (nI s) = some (nI (h_lo 10 s)) := by decide +kernel
theorem h_ntz {M : q_Mem} {s : Nat} (hs : s < 1024) (h0 : 0 < s) : f_J6_numberOfTrailingZeros_0f7a4 M (nI s) = some (nI (h_lo 10 s)) := by
  rw [← h_ntz0 s hs h0]
  rfl
theorem h_pc1 : ∀ l, l < 10 → ∀ p, p < 1024 → Nat.testBit p l = false → r_pc 20 (p ||| 2 ^ l) = r_pc 20 p + 1 := by decide +kernel
theorem h_pc0 : r_pc 20 0 = 0 := by decide
/-- the next smaller part of a set -/
theorem h_part : ∀ (m o p q : Nat), p < 2 ^ m → (∀ b, Nat.testBit p b = true → Nat.testBit o b = true) → (∀ b, Nat.testBit q b = true → Nat.testBit o b = true) → q < p → q ≤ (p - 1) &&& o
  | 0, o, p, q, hm, _, _, h => absurd h (by rw [Nat.pow_zero] at hm; omega)
  | m + 1, o, p, q, hm, hp, hq, h => by
    have sub : ∀ x : Nat, (∀ b, Nat.testBit x b = true → Nat.testBit o b = true) → (∀ b, Nat.testBit (x / 2) b = true → Nat.testBit (o / 2) b = true) ∧ x % 2 ≤ o % 2 := fun x hx => by
      refine ⟨fun b hb => ?_, ?_⟩
      · rw [Nat.testBit_div_two] at hb ⊢
        exact hx _ hb
      · have h0 := hx 0
        rw [Nat.testBit_zero, Nat.testBit_zero, decide_eq_true_eq, decide_eq_true_eq] at h0
        omega
    obtain ⟨p1, p2⟩ := sub p hp
    obtain ⟨q1, q2⟩ := sub q hq
    have ih := h_part m (o / 2) (p / 2) (q / 2) (by rw [Nat.pow_succ] at hm; omega) p1 q1
    have e1 : ((p - 1) &&& o) % 2 ^ 1 = ((p - 1) % 2 ^ 1) &&& (o % 2 ^ 1) := Nat.and_mod_two_pow
    have e2 : ((p - 1) &&& o) / 2 ^ 1 = ((p - 1) / 2 ^ 1) &&& (o / 2 ^ 1) := Nat.and_div_two_pow
    rw [Nat.pow_one] at e1 e2
    rcases Nat.mod_two_eq_zero_or_one p with xp | xp
    · -- even: the half shrinks
      have ep : (p - 1) / 2 = p / 2 - 1 := by omega
      have em : (p - 1) % 2 = 1 := by omega
      rw [ep] at e2
      rw [em] at e1
      have ih := ih (by omega)
      rw [← e2] at ih
      rcases Nat.mod_two_eq_zero_or_one o with xo | xo
      · omega
      · rw [xo] at e1
        have e1 : ((p - 1) &&& o) % 2 = 1 := e1
        omega
    · have ep : (p - 1) / 2 = p / 2 := by omega
      rw [ep] at e2
      have hpo : p / 2 &&& o / 2 = p / 2 := Nat.eq_of_testBit_eq (fun b => by
        rw [Nat.testBit_and]
        cases e : Nat.testBit (p / 2) b with
        | false => rfl
        | true => rw [p1 b e]; rfl)
      rw [hpo] at e2
      omega
theorem h_sub_le {m o q : Nat} (ho : o < 2 ^ m) (h : ∀ b, Nat.testBit q b = true → Nat.testBit o b = true) : q ≤ o := by
  have := h_xor_add m o q ho h
  omega
/-- the others of a set than its least -/
theorem h_oth {c : Nat} (c0 : 0 < c) (c1 : c < 1024) (b : Nat) : Nat.testBit (c ^^^ 2 ^ h_lo 10 c) b = (Nat.testBit c b && !decide (h_lo 10 c = b)) := by
  rw [Nat.testBit_xor, Nat.testBit_two_pow]
  by_cases e : h_lo 10 c = b
  · rw [decide_eq_true e, ← e, (h_lo_all c c1 c0).1]
    rfl
  · rw [decide_eq_false e]
    cases Nat.testBit c b <;> rfl
theorem h_okq {k c q : Nat} (c0 : 0 < c) (c1 : c < 1024) (hq : ∀ b, Nat.testBit q b = true → Nat.testBit (c ^^^ 2 ^ h_lo 10 c) b = true) (hk : r_pc 20 (q ||| 2 ^ h_lo 10 c) ≤ k) : h_okh k c (q ||| 2 ^ h_lo 10 c) := by
  refine ⟨fun b hb => ?_, ?_, hk⟩
  · rw [Nat.testBit_or] at hb
    cases e : Nat.testBit q b with
    | true =>
      have := hq b e
      rw [h_oth c0 c1] at this
      exact (Bool.and_eq_true_iff.mp this).1
    | false =>
      rw [e, Bool.false_or, Nat.testBit_two_pow, decide_eq_true_eq] at hb
      rw [← hb]
      exact (h_lo_all c c1 c0).1
  · rw [Nat.testBit_or, Nat.testBit_two_pow, decide_eq_true rfl, Bool.or_true]
theorem h_okp {k c h : Nat} (c0 : 0 < c) (c1 : c < 1024) (ok : h_okh k c h) : ∃ q, (∀ b, Nat.testBit q b = true → Nat.testBit (c ^^^ 2 ^ h_lo 10 c) b = true) ∧ q ||| 2 ^ h_lo 10 c = h := by
  have bq : ∀ b, Nat.testBit (h ^^^ 2 ^ h_lo 10 c) b = (Nat.testBit h b && !decide (h_lo 10 c = b)) := fun b => by
    rw [Nat.testBit_xor, Nat.testBit_two_pow]
    by_cases e : h_lo 10 c = b
    · rw [decide_eq_true e, ← e, ok.2.1]
      rfl
    · rw [decide_eq_false e]
      cases Nat.testBit h b <;> rfl
  refine ⟨h ^^^ 2 ^ h_lo 10 c, fun b hb => ?_, Nat.eq_of_testBit_eq (fun b => ?_)⟩
  · rw [bq] at hb
    obtain ⟨h1, h2⟩ := Bool.and_eq_true_iff.mp hb
    rw [h_oth c0 c1, ok.1 b h1, h2]
    rfl
  · rw [Nat.testBit_or, bq, Nat.testBit_two_pow]
    by_cases e : h_lo 10 c = b
    · rw [decide_eq_true e, Bool.or_true, ← e, ok.2.1]
    · rw [decide_eq_false e]
      cases Nat.testBit h b <;> rfl
/-! ===== the class' heaps: its cells ===== -/
theorem z_FR.sI4 {M : q_Mem} {k : Nat} {v : Int32} (h : 0 < k) : z_FR M (q_sI M 104 k v) := ⟨rfl, rfl, by
  unfold z_zc
  rw [z_I_sI, if_neg (by omega)]
  rfl⟩
theorem z_FR.sJ0 {M : q_Mem} {a k : Nat} {v : Int64} (h : 0 < k) : z_FR M (q_sJ M a k v) := ⟨rfl, rfl, by
  unfold z_zc
  rw [z_J_sJ, z_J_sJ, z_J_sJ, if_neg (by omega), if_neg (by omega), if_neg (by omega)]
  rfl⟩
/-- only cells of the class' heaps are written -/
def z_BF (M Mx : q_Mem) : Prop := z_FR M Mx ∧ ∀ a, a ≠ 104 → q_I Mx a = q_I M a
theorem z_BF.rf {M : q_Mem} : z_BF M M := ⟨z_FR.rf, fun _ _ => rfl⟩
theorem z_BF.tr {M M1 M2 : q_Mem} (h : z_BF M M1) (h2 : z_BF M1 M2) : z_BF M M2 := ⟨h.1.tr h2.1, fun a ha => (h2.2 a ha).trans (h.2 a ha)⟩
theorem z_BF.sm {M Mx : q_Mem} (h : z_BF M Mx) : z_sm M Mx := ⟨h.1, fun a ha => h.2 a (fun z => by rw [z] at ha; unfold z_core at ha; omega)⟩
theorem z_BF.sJ {M : q_Mem} {a k : Nat} {v : Int64} (h : 0 < k) : z_BF M (q_sJ M a k v) := ⟨z_FR.sJ0 h, fun _ _ => rfl⟩
theorem z_BF.sI {M : q_Mem} {k : Nat} {v : Int32} (h : 0 < k) : z_BF M (q_sI M 104 k v) := ⟨z_FR.sI4 h, fun _ ha => q_sI_ne ha⟩
def z_V3 (v : Nat × Nat × Nat) (Mx : q_Mem) (s : Nat) : Prop := q_J Mx 103 s = lN v.1 ∧ q_I Mx 104 s = nI v.2.1 ∧ q_J Mx 105 s = lN v.2.2
def h_vb (s : Nat) (v : Nat × Nat × Nat) : Prop := v.1 ≤ 10000000 * s ∧ v.2.1 ≤ s ∧ v.2.2 ≤ 17592186044416 * s
def z_W (W : Option (Nat × Nat × Nat)) (Mx : q_Mem) (c : Nat) : Prop := match W with
  | none => q_I Mx 104 c = 0
  | some w => z_V3 w Mx c
/-- but for the cells of the set c nothing is written -/
def z_ne (c : Nat) (Mx My : q_Mem) : Prop := z_BF Mx My ∧ (∀ a k, k ≠ c → q_J My a k = q_J Mx a k) ∧ (∀ k, k ≠ c → q_I My 104 k = q_I Mx 104 k) ∧ q_J My 102 = q_J Mx 102 ∧ q_J My 106 = q_J Mx 106
theorem z_ne.rf {c : Nat} {M : q_Mem} : z_ne c M M := ⟨z_BF.rf, fun _ _ _ => rfl, fun _ _ => rfl, rfl, rfl⟩
theorem z_ne.tr {c : Nat} {M M1 M2 : q_Mem} (h : z_ne c M M1) (h2 : z_ne c M1 M2) : z_ne c M M2 := ⟨h.1.tr h2.1, fun a k hk => (h2.2.1 a k hk).trans (h.2.1 a k hk), fun k hk => (h2.2.2.1 k hk).trans (h.2.2.1 k hk), h2.2.2.2.1.trans h.2.2.2.1, h2.2.2.2.2.trans h.2.2.2.2⟩
theorem z_ne.v3 {c s : Nat} {M Mx : q_Mem} {v : Nat × Nat × Nat} (h : z_ne c M Mx) (hs : s ≠ c) (z : z_V3 v M s) : z_V3 v Mx s := ⟨(h.2.1 103 s hs).trans z.1, (h.2.2.1 s hs).trans z.2.1, (h.2.1 105 s hs).trans z.2.2⟩
def h_lt (a b : Nat × Nat × Nat) : Prop := a.1 < b.1 ∨ (a.1 = b.1 ∧ (a.2.1 < b.2.1 ∨ (a.2.1 = b.2.1 ∧ a.2.2 < b.2.2)))
theorem zb_better {Mx : q_Mem} (hX : z_Lay Mx) {c : Nat} (c1 : c < 1024) {u w : Nat × Nat × Nat} (hw : z_V3 w Mx c) (bw : h_vb c w) (bu : h_vb c u) : (h_lt u w ∧ f_X2_isBetter Mx 101 (nI c) (lN u.1) (nI u.2.1) (lN u.2.2) = some (1 : Int32)) ∨ (¬ h_lt u w ∧ f_X2_isBetter Mx 101 (nI c) (lN u.1) (nI u.2.1) (lN u.2.2) = some (0 : Int32)) := by
  obtain ⟨w1, w2, w3⟩ := hw
  obtain ⟨b1, b2, b3⟩ := bw
  obtain ⟨d1, d2, d3⟩ := bu
  have c0 : (nI c < 0) = False := eq_false (nI_pos (by omega))
  have c2 : (nI c < (1024 : Int32)) = True := eq_true (nI_lt (b := 1024) c1 (by decide))
  have q1 : (lN u.1 = lN w.1) = (u.1 = w.1) := propext (pk_lEQ (by omega) (by omega))
  have q2 : (nI u.2.1 = nI w.2.1) = (u.2.1 = w.2.1) := propext (nI_eq (by omega) (by omega))
  have l1 : (lN u.1 < lN w.1) = (u.1 < w.1) := propext (pk_lLT (by omega) (by omega))
  have l2 : (nI u.2.1 < nI w.2.1) = (u.2.1 < w.2.1) := propext (nI_ltI (by omega) (by omega))
  have l3 : (lN u.2.2 < lN w.2.2) = (u.2.2 < w.2.2) := propext (pk_lLT (by omega) (by omega))
  have st : f_X2_isBetter Mx 101 (nI c) (lN u.1) (nI u.2.1) (lN u.2.2) = if u.1 = w.1 then (if u.2.1 = w.2.1 then (if u.2.2 < w.2.2 then some (1 : Int32) else some 0) else (if u.2.1 < w.2.1 then some 1 else some 0)) else (if u.1 < w.1 then some 1 else some 0) := by
    simp only [f_X2_isBetter, zob_101 hX, zo_101 hX, c0, c2, if_true, if_false, (za_103 hX).2.1 c c1, (za_104 hX).2.1 c c1, (za_105 hX).2.1 c c1, w1, w2, w3, Option.bind_some, q1, q2, l1, l2, l3]
  rw [st]
  unfold h_lt
  by_cases y1 : u.1 = w.1
  · rw [if_pos y1]
    by_cases y2 : u.2.1 = w.2.1
    · rw [if_pos y2]
      by_cases y3 : u.2.2 < w.2.2
      · exact Or.inl ⟨by omega, if_pos y3⟩
      · exact Or.inr ⟨by omega, if_neg y3⟩
    · rw [if_neg y2]
      by_cases y3 : u.2.1 < w.2.1
      · exact Or.inl ⟨by omega, if_pos y3⟩
      · exact Or.inr ⟨by omega, if_neg y3⟩
  · rw [if_neg y1]
    by_cases y3 : u.1 < w.1
    · exact Or.inl ⟨by omega, if_pos y3⟩
    · exact Or.inr ⟨by omega, if_neg y3⟩
/-- one heap is tried -/
theorem zb_try {Mx : q_Mem} (hX : z_Lay Mx) {F : Nat → Nat} {k c h : Nat} {V : Nat → Nat × Nat × Nat} {W : Option (Nat × Nat × Nat)} (c0 : 0 < c) (c1 : c < 1024) (ok : h_okh k c h) (e2 : q_J Mx 102 h = lN (F h)) (e6 : q_J Mx 106 h = lN (h_on h)) (eV : z_V3 (V (c ^^^ h)) Mx (c ^^^ h)) (bV : h_vb (c ^^^ h) (V (c ^^^ h))) (hF : F h ≤ 10000000) (hW : z_W W Mx c) (hWb : ∀ w, W = some w → h_vb c w ∧ 0 < w.2.1) :
    ∃ (w' : Nat × Nat × Nat) (My : q_Mem), f_X2_tryHeap Mx 101 (nI c) (nI h) = some My ∧ z_ne c Mx My ∧ z_V3 w' My c ∧ h_vb c w' ∧ 0 < w'.2.1 ∧ (w' = h_ad (h_hp F h) (V (c ^^^ h)) ∨ W = some w') ∧ h_le w' (h_ad (h_hp F h) (V (c ^^^ h))) ∧ ∀ w, W = some w → h_le w' w := by
  obtain ⟨l1, l2, l3⟩ := h_ok_lt c1 ok
  have h0 := h_ok_ne ok
  have hlo := (h_lo_all h (by omega) h0).2.2
  have hon := h_on_le h (by omega)
  obtain ⟨v1, v2, v3⟩ := eV
  obtain ⟨b1, b2, b3⟩ := bV
  have lo9 : h_lo 10 h * h_on h ≤ 9 * h_on h := Nat.mul_le_mul_right _ (by omega)
  have q1 : (nI c < (1 : Int32)) = False := eq_false (nI_nlt (b := 1) c0 (by omega))
  have q2 : (nI c < (1024 : Int32)) = True := eq_true (nI_lt (b := 1024) c1 (by decide))
  have q3 : (nI h < (1 : Int32)) = False := eq_false (nI_nlt (b := 1) h0 (by omega))
  have q4 : (nI h < (1024 : Int32)) = True := eq_true (nI_lt (b := 1024) (by omega) (by decide))
  have q5 : (nI (c ^^^ h) < 0) = False := eq_false (nI_pos (by omega))
  have q6 : (nI (c ^^^ h) < (1024 : Int32)) = True := eq_true (nI_lt (b := 1024) (by omega) (by decide))
  have li : (nI (h_lo 10 h)).toInt64 = lN (h_lo 10 h) := nI_l (by omega)
  obtain ⟨u, hu⟩ : ∃ u, u = h_ad (h_hp F h) (V (c ^^^ h)) := ⟨_, rfl⟩
  have u1 : F h + (V (c ^^^ h)).1 = u.1 := by rw [hu]; rfl
  have u2 : 1 + (V (c ^^^ h)).2.1 = u.2.1 := by rw [hu]; rfl
  have u3 : h_lo 10 h * h_on h + (V (c ^^^ h)).2.2 = u.2.2 := by rw [hu]; rfl
  have ma : (1 : Int32) + nI (V (c ^^^ h)).2.1 = nI u.2.1 := by rw [show (1 : Int32) = nI 1 from rfl, nI_add, u2]
  have bu : h_vb c u := ⟨by omega, by omega, by omega⟩
  have X1 : z_Lay (q_sJ Mx 103 c (lN u.1)) := hX
  have X2 : z_Lay (q_sI (q_sJ Mx 103 c (lN u.1)) 104 c (nI u.2.1)) := hX
  have put : f_X2_tryHeap_b110 Mx 101 (nI c) (lN u.1) (nI u.2.1) (lN u.2.2) = some (q_sJ (q_sI (q_sJ Mx 103 c (lN u.1)) 104 c (nI u.2.1)) 105 c (lN u.2.2)) := by
    simp only [f_X2_tryHeap_b110, zo_101 hX, zo_101 X1, zo_101 X2, (za_103 hX).2.2 c _ c1, (za_104 X1).2.2 c _ c1, (za_105 X2).2.2 c _ c1, Option.bind_some]
  have st : f_X2_tryHeap Mx 101 (nI c) (nI h) = if q_I Mx 104 c = 0 then f_X2_tryHeap_b110 Mx 101 (nI c) (lN u.1) (nI u.2.1) (lN u.2.2) else (f_X2_isBetter Mx 101 (nI c) (lN u.1) (nI u.2.1) (lN u.2.2)).bind fun v28 => if v28 = 0 then some Mx else f_X2_tryHeap_b110 Mx 101 (nI c) (lN u.1) (nI u.2.1) (lN u.2.2) := by
    simp only [f_X2_tryHeap, zob_101 hX, zo_101 hX, r_nxor, q1, q2, q3, q4, q5, q6, if_true, if_false, (za_102 hX).2.1 h (by omega), (za_103 hX).2.1 (c ^^^ h) (by omega), (za_104 hX).2.1 (c ^^^ h) (by omega), (za_105 hX).2.1 (c ^^^ h) (by omega), (za_106 hX).2.1 h (by omega), (za_104 hX).2.1 c c1, e2, e6, v1, v2, v3, h_ntz (show h < 1024 by omega) h0, li, lN_mul, lN_add, ma, u1, u3, Option.bind_some]
  have neP : z_ne c Mx (q_sJ (q_sI (q_sJ Mx 103 c (lN u.1)) 104 c (nI u.2.1)) 105 c (lN u.2.2)) := by
    refine ⟨((z_BF.sJ c0).tr (z_BF.sI c0)).tr (z_BF.sJ c0), fun a k hk => ?_, fun k hk => ?_, ?_, ?_⟩
    · rw [z_J_sJ, if_neg (fun z => hk z.2), z_J_sI, z_J_sJ, if_neg (fun z => hk z.2)]
    · rw [z_I_sJ, z_I_sI, if_neg (fun z => hk z.2), z_I_sJ]
    · rw [q_sJ_ne (by decide)]
      show q_J (q_sJ Mx 103 c (lN u.1)) 102 = _
      rw [q_sJ_ne (by decide)]
    · rw [q_sJ_ne (by decide)]
      show q_J (q_sJ Mx 103 c (lN u.1)) 106 = _
      rw [q_sJ_ne (by decide)]
  have vP : z_V3 u (q_sJ (q_sI (q_sJ Mx 103 c (lN u.1)) 104 c (nI u.2.1)) 105 c (lN u.2.2)) c := by
    refine ⟨?_, ?_, ?_⟩
    · rw [z_J_sJ, if_neg (by omega), z_J_sI, z_J_sJ, if_pos ⟨rfl, rfl⟩]
    · rw [z_I_sJ, z_I_sI, if_pos ⟨rfl, rfl⟩]
    · rw [z_J_sJ, if_pos ⟨rfl, rfl⟩]
  rw [st, ← hu]
  cases W with
  | none =>
    have hW : q_I Mx 104 c = 0 := hW
    rw [if_pos hW, put]
    exact ⟨u, _, rfl, neP, vP, bu, by omega, Or.inl rfl, h_le_rf _, fun w hw => absurd hw (by simp)⟩
  | some w =>
    have hW : z_V3 w Mx c := hW
    obtain ⟨bw, pw⟩ := hWb w rfl
    have nz : ¬ q_I Mx 104 c = 0 := by
      rw [hW.2.1]
      exact nI_ne0 pw (by have := bw.2.1; omega)
    rw [if_neg nz]
    rcases zb_better hX c1 hW bw bu with ⟨y1, y2⟩ | ⟨y1, y2⟩
    · rw [y2, Option.bind_some, if_neg (by decide), put]
      refine ⟨u, _, rfl, neP, vP, bu, by omega, Or.inl rfl, h_le_rf _, fun w' hw' => ?_⟩
      obtain rfl : w = w' := Option.some.inj hw'
      unfold h_lt at y1
      unfold h_le
      omega
    · rw [y2, Option.bind_some, if_pos rfl]
      refine ⟨w, Mx, rfl, z_ne.rf, hW, bw, pw, Or.inr rfl, ?_, fun w' hw' => ?_⟩
      · unfold h_lt at y1
        unfold h_le
        omega
      · obtain rfl : w = w' := Option.some.inj hw'
        exact h_le_rf _
