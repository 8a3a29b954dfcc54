/-! ===== the class' heaps: set by set ===== -/
/-- what is planned before the sets: their rows of ones, their losses as one heap -/
def z_P1 (M Mx : q_Mem) (k c : Nat) : Prop := z_BF M Mx ∧ (∀ s, s < c → q_J Mx 106 s = lN (h_on s)) ∧ ∀ s, 0 < s → s < c → r_pc 20 s ≤ k → q_J Mx 102 s = lN (h_F (q_I M 109) (z_m (q_I M 109) 7) s)
theorem h_shl : ∀ c, c < 10 → (1 : Int64) <<< ((nI (4 * (9 - c))).toInt64 &&& 63) = lN (h_w c) := by decide +kernel
theorem h_pc20 (c : Nat) : r_pc 20 c ≤ 20 := by
  have h := r_A_pc (g := id) 20 c
  have h2 := r_A_le (c := Nat.testBit c) (g := id) 20
  omega
theorem zb_shift (M : q_Mem) : ∀ l, l < 10 → f_X2_shiftOf M (nI l) = some (nI (4 * (9 - l))) := fun l hl => by
  unfold f_X2_shiftOf
  rw [show (9 : Int32) = nI 9 from rfl, show (4 : Int32) = nI 4 from rfl, pk_sub (by omega), pk_mul]
theorem zb_stp {Mx : q_Mem} (hX : z_Lay Mx) {c : Nat} {A : Int32} (hn : (A < nI c) = False) (c0 : 0 < c) (c1 : c < 1024) (k : Int32) (g : Nat) (on : q_J Mx 106 (c - 2 ^ h_lo 10 c) = lN (h_on (c - 2 ^ h_lo 10 c))) :
    f_X2_plan_b7 101 k A (g + 1) (nI c) Mx = if k < nI (r_pc 20 c) then f_X2_plan_b7 101 k A g (nI (c + 1)) (q_sJ Mx 106 c (lN (h_on c))) else (f_X2_lossAsHeap (q_sJ Mx 106 c (lN (h_on c))) 101 (nI c)).bind fun v20 => (q_tJ (q_sJ Mx 106 c (lN (h_on c))) 102 (nI c) v20).bind fun M21 => f_X2_plan_b7 101 k A g (nI (c + 1)) M21 := by
  obtain ⟨s1, s2, s3⟩ := h_on_step c c1 c0
  obtain ⟨o1, o2, o3⟩ := h_lo_all c c1 c0
  have q2 : (nI c < (1024 : Int32)) = True := eq_true (nI_lt (b := 1024) c1 (by decide))
  have sl := h_shl (h_lo 10 c) o3
  have sh := zb_shift Mx (h_lo 10 c) o3
  have nt := h_ntz (M := Mx) c1 c0
  generalize h_lo 10 c = l at s1 s2 s3 o1 o2 o3 sl sh nt on
  have X1 : z_Lay (q_sJ Mx 106 c (lN (h_on c))) := hX
  have bc := z_bitCount (M := q_sJ Mx 106 c (lN (h_on c))) (s := c) (by omega)
  have r1 := (za_106 hX).2.1 (c - 2 ^ l) (by omega)
  rw [on] at r1
  have e1 : lN (h_on (c - 2 ^ l)) + lN (h_w l) = lN (h_on c) := by rw [lN_add, ← s3]
  have r2 := (za_106 hX).2.2 c (lN (h_on c)) c1
  generalize lN (h_on (c - 2 ^ l)) = V1 at r1 e1
  generalize lN (h_on c) = V2 at e1 r2 X1 bc ⊢
  generalize lN (h_w l) = V3 at sl e1
  have g5 : q_gR 1 5 Mx 101 = some 106 := by simp only [zo_101 hX]
  have g1 : q_gR 1 1 (q_sJ Mx 106 c V2) 101 = some 102 := by simp only [zo_101 X1]
  have c1' : ¬ A < nI c := by rw [hn]; exact fun z => z
  have c2' : nI c < (1024 : Int32) := by rw [q2]; trivial
  rw [f_X2_plan_b7.eq_2, if_neg c1', if_pos c2', g5, Option.bind_some, Option.bind_some, s1, r1, Option.bind_some, nt, Option.bind_some, sh, Option.bind_some, sl, e1, r2, Option.bind_some, bc, Option.bind_some, g1, Option.bind_some, nI_1]
theorem zb_p1 {M : q_Mem} (hi : z_Inv M) {k : Nat} (k5 : k ≤ 5) : ∀ (d c fu : Nat) (Mx : q_Mem), c + d = 2 ^ z_m (q_I M 109) 7 → d < fu → 0 < c → z_P1 M Mx k c →
    ∃ My, f_X2_plan_b7 101 (nI k) (nI (2 ^ z_m (q_I M 109) 7 - 1)) fu (nI c) Mx = f_X2_plan_b72 101 (nI k) (nI (2 ^ z_m (q_I M 109) 7 - 1)) q_fuel (1 : Int32) My ∧ z_P1 M My k (2 ^ z_m (q_I M 109) 7) := by
  have h10 := (zt_7 hi).2.2.1
  have h1024 : 2 ^ z_m (q_I M 109) 7 ≤ 1024 := Nat.pow_le_pow_right (n := 2) (by decide) h10
  intro d
  induction d with
  | zero =>
    intro c fu Mx hd hf c0 hP
    obtain ⟨g, rfl⟩ : ∃ g, fu = g + 1 := ⟨fu - 1, by omega⟩
    have hn : (nI (2 ^ z_m (q_I M 109) 7 - 1) < nI c) = True := eq_true (nI_lt (by omega) (by omega))
    refine ⟨Mx, ?_, by rw [← hd]; exact hP⟩
    simp only [f_X2_plan_b7.eq_2, hn, if_true]
  | succ d ih =>
    intro c fu Mx hd hf c0 hP
    obtain ⟨g, rfl⟩ : ∃ g, fu = g + 1 := ⟨fu - 1, by omega⟩
    obtain ⟨p1, p2, p3⟩ := hP
    have c1 : c < 1024 := by omega
    have hX := (hi.sm p1.sm).1
    have hn : (nI (2 ^ z_m (q_I M 109) 7 - 1) < nI c) = False := eq_false (nI_nlt (by omega) (by omega))
    have q2 : (nI c < (1024 : Int32)) = True := eq_true (nI_lt (b := 1024) c1 (by decide))
    obtain ⟨s1, s2, s3⟩ := h_on_step c c1 c0
    obtain ⟨o1, o2, o3⟩ := h_lo_all c c1 c0
    have on := p2 (c - 2 ^ h_lo 10 c) s2
    have sh : f_X2_shiftOf Mx (nI (h_lo 10 c)) = some (nI (4 * (9 - h_lo 10 c))) := by
      unfold f_X2_shiftOf
      rw [show (9 : Int32) = nI 9 from rfl, show (4 : Int32) = nI 4 from rfl, pk_sub (by omega), pk_mul]
    have sl := h_shl (h_lo 10 c) o3
    have F1 : z_BF Mx (q_sJ Mx 106 c (lN (h_on c))) := z_BF.sJ c0
    have X1 : z_Lay (q_sJ Mx 106 c (lN (h_on c))) := hX
    have P1' : z_BF M (q_sJ Mx 106 c (lN (h_on c))) := p1.tr F1
    have n6 : ∀ s, s < c + 1 → q_J (q_sJ Mx 106 c (lN (h_on c))) 106 s = lN (h_on s) := fun s hs => by
      rw [z_J_sJ]
      by_cases e : s = c
      · rw [if_pos ⟨rfl, e⟩, e]
      · rw [if_neg (fun z => e z.2)]
        exact p2 s (by omega)
    have bc := z_bitCount (M := q_sJ Mx 106 c (lN (h_on c))) (s := c) (by omega)
    have pcl : r_pc 20 c ≤ 20 := h_pc20 c
    have stp := zb_stp hX hn c0 c1 (nI k) g on
    rw [stp]
    by_cases y : r_pc 20 c ≤ k
    · have z7 : h_lo 10 c < z_m (q_I M 109) 7 := by
        rcases Nat.lt_or_ge (h_lo 10 c) (z_m (q_I M 109) 7) with z | z
        · exact z
        · rw [h_bit_big (n := z_m (q_I M 109) 7) (by omega) z] at o1
          cases o1
      have ls := zb_loss hi P1'.sm (s := c) (by omega) o1 z7
      rw [if_neg (nI_nlt y (by omega)), ls, Option.bind_some, (za_102 X1).2.2 c _ c1, Option.bind_some]
      refine ih (c + 1) g _ (by omega) (by omega) (by omega) ⟨P1'.tr (z_BF.sJ c0), fun s hs => ?_, fun s hs0 hs hk => ?_⟩
      · rw [q_sJ_ne (by decide)]
        exact n6 s hs
      · rw [z_J_sJ]
        by_cases e : s = c
        · rw [if_pos ⟨rfl, e⟩, e]
        · rw [if_neg (fun z => e z.2), q_sJ_ne (by decide)]
          exact p3 s hs0 (by omega) hk
    · rw [if_pos (nI_lt (by omega) (by omega))]
      refine ih (c + 1) g _ (by omega) (by omega) (by omega) ⟨P1', n6, fun s hs0 hs hk => ?_⟩
      rw [q_sJ_ne (by decide)]
      have : s ≠ c := fun z => y (by rw [← z]; exact hk)
      exact p3 s hs0 (by omega) hk
theorem z_P1.ne {M Mx My : q_Mem} {k c c' : Nat} (h : z_P1 M Mx k c) (n : z_ne c' Mx My) : z_P1 M My k c := ⟨h.1.tr n.1, fun s hs => by rw [n.2.2.2.2]; exact h.2.1 s hs, fun s h0 hs hk => by rw [n.2.2.2.1]; exact h.2.2 s h0 hs hk⟩
/-- what stands while the heaps of the set c are tried -/
def z_St (M Mx : q_Mem) (k c : Nat) (V : Nat → Nat × Nat × Nat) : Prop := z_P1 M Mx k (2 ^ z_m (q_I M 109) 7) ∧ ∀ s, s < c → z_V3 (V s) Mx s
def h_cd (st : Nat → Int32) (n c : Nat) (V : Nat → Nat × Nat × Nat) (h : Nat) : Nat × Nat × Nat := h_ad (h_hp (h_F st n) h) (V (c ^^^ h))
theorem zb_set {M : q_Mem} (hi : z_Inv M) {k c : Nat} (k0 : 0 < k) (k5 : k ≤ 5) (c0 : 0 < c) (hc : c < 2 ^ z_m (q_I M 109) 7) {V : Nat → Nat × Nat × Nat} (hb : ∀ s, s < c → h_vb s (V s)) : ∀ (m p fu step : Nat) (Mx : q_Mem) (W : Option (Nat × Nat × Nat)), p ≤ m → m < fu → step + p ≤ 1023 → (∀ b, Nat.testBit p b = true → Nat.testBit (c ^^^ 2 ^ h_lo 10 c) b = true) → z_St M Mx k c V → z_W W Mx c →
    (∀ w, W = some w → (h_vb c w ∧ 0 < w.2.1) ∧ ∃ h, h_okh k c h ∧ w = h_cd (q_I M 109) (z_m (q_I M 109) 7) c V h) →
    (∀ q, (∀ b, Nat.testBit q b = true → Nat.testBit (c ^^^ 2 ^ h_lo 10 c) b = true) → p < q → r_pc 20 (q ||| 2 ^ h_lo 10 c) ≤ k → ∃ w, W = some w ∧ h_le w (h_cd (q_I M 109) (z_m (q_I M 109) 7) c V (q ||| 2 ^ h_lo 10 c))) →
    ∃ w My, f_X2_planSet_b37 101 (nI c) (nI k) (nI (2 ^ h_lo 10 c)) (nI (c ^^^ 2 ^ h_lo 10 c)) fu (nI p) (nI step) Mx = some My ∧ z_St M My k c V ∧ z_V3 w My c ∧ h_vb c w ∧ (∃ h, h_okh k c h ∧ w = h_cd (q_I M 109) (z_m (q_I M 109) 7) c V h) ∧ ∀ q, (∀ b, Nat.testBit q b = true → Nat.testBit (c ^^^ 2 ^ h_lo 10 c) b = true) → r_pc 20 (q ||| 2 ^ h_lo 10 c) ≤ k → h_le w (h_cd (q_I M 109) (z_m (q_I M 109) 7) c V (q ||| 2 ^ h_lo 10 c)) := by
  have h10 := (zt_7 hi).2.2.1
  have h1024 : 2 ^ z_m (q_I M 109) 7 ≤ 1024 := Nat.pow_le_pow_right (n := 2) (by decide) h10
  have c1 : c < 1024 := by omega
  obtain ⟨lo1, lo2, lo3⟩ := h_lo_all c c1 c0
  have ol : Nat.testBit (c ^^^ 2 ^ h_lo 10 c) (h_lo 10 c) = false := by
    rw [h_oth c0 c1, decide_eq_true rfl]
    exact Bool.and_false _
  have o1024 : c ^^^ 2 ^ h_lo 10 c < 2 ^ 10 := Nat.xor_lt_two_pow c1 (Nat.pow_lt_pow_right (by decide) lo3)
  intro m
  induction m with
  | zero =>
    intro p fu step Mx W hp hf hs hpo hS hW hWb hv
    obtain ⟨g, rfl⟩ : ∃ g, fu = g + 1 := ⟨fu - 1, by omega⟩
    obtain rfl : p = 0 := by omega
    have hX := (hi.sm hS.1.1.sm).1
    have pc := h_pc1 (h_lo 10 c) lo3 0 (by decide) (Nat.zero_testBit _)
    rw [h_pc0] at pc
    have ok := h_okq (k := k) c0 c1 hpo (by omega)
    have lt := h_ok_lt c1 ok
    have q1 : (nI step < (1024 : Int32)) = True := eq_true (nI_lt (b := 1024) (by omega) (by decide))
    have q2 : (nI 0 < nI k) = True := eq_true (nI_lt k0 (by omega))
    have bc := z_bitCount (M := Mx) (s := 0) (by decide)
    rw [h_pc0] at bc
    obtain ⟨w', My, r1, r2, r3, r4, r5, r6, r7, r8⟩ := zb_try hX c0 c1 ok (hS.1.2.2 _ (h_ok_ne ok) (by omega) ok.2.2) (hS.1.2.1 _ (by omega)) (hS.2 _ lt.2.1) (hb _ lt.2.1) (h_F_le hi _) hW (fun w hw => (hWb w hw).1)
    have z0 : (nI 0 = (0 : Int32)) = True := eq_true nI_0
    refine ⟨w', My, ?_, ⟨hS.1.ne r2, fun s hs => r2.v3 (by omega) (hS.2 s hs)⟩, r3, r4, ?_, fun q hq hk => ?_⟩
    · simp only [f_X2_planSet_b37.eq_2, q1, if_true, bc, Option.bind_some, q2, r_nor, r1, f_X2_planSet_b63, z0]
    · rcases r6 with e | e
      · exact ⟨_, ok, e⟩
      · exact (hWb w' e).2
    · rcases Nat.eq_zero_or_pos q with z | z
      · subst z
        exact r7
      · obtain ⟨w, w1, w2⟩ := hv q hq z hk
        exact h_le_tr (r8 w w1) w2
  | succ m ih =>
    intro p fu step Mx W hp hf hs hpo hS hW hWb hv
    obtain ⟨g, rfl⟩ : ∃ g, fu = g + 1 := ⟨fu - 1, by omega⟩
    have hX := (hi.sm hS.1.1.sm).1
    have po : p ≤ c ^^^ 2 ^ h_lo 10 c := h_sub_le o1024 hpo
    have pl : Nat.testBit p (h_lo 10 c) = false := by
      cases e : Nat.testBit p (h_lo 10 c) with
      | false => rfl
      | true => have := hpo _ e; rw [ol] at this; cases this
    have pc := h_pc1 (h_lo 10 c) lo3 p (by omega) pl
    have q1 : (nI step < (1024 : Int32)) = True := eq_true (nI_lt (b := 1024) (by omega) (by decide))
    have bc := z_bitCount (M := Mx) (s := p) (by omega)
    have pcl : r_pc 20 p ≤ 20 := h_pc20 p
    -- after this part: on with a smaller one, or done
    have fin : ∀ (W' : Option (Nat × Nat × Nat)) (My : q_Mem), z_St M My k c V → z_W W' My c →
        (∀ w, W' = some w → (h_vb c w ∧ 0 < w.2.1) ∧ ∃ h, h_okh k c h ∧ w = h_cd (q_I M 109) (z_m (q_I M 109) 7) c V h) →
        (∀ q, (∀ b, Nat.testBit q b = true → Nat.testBit (c ^^^ 2 ^ h_lo 10 c) b = true) → p ≤ q → r_pc 20 (q ||| 2 ^ h_lo 10 c) ≤ k → ∃ w, W' = some w ∧ h_le w (h_cd (q_I M 109) (z_m (q_I M 109) 7) c V (q ||| 2 ^ h_lo 10 c))) →
        ∃ w Mz, f_X2_planSet_b63 (f_X2_planSet_b37 101 (nI c) (nI k) (nI (2 ^ h_lo 10 c)) (nI (c ^^^ 2 ^ h_lo 10 c)) g) My 101 (nI c) (nI k) (nI (2 ^ h_lo 10 c)) (nI (c ^^^ 2 ^ h_lo 10 c)) (nI p) (nI step) = some Mz ∧ z_St M Mz k c V ∧ z_V3 w Mz c ∧ h_vb c w ∧ (∃ h, h_okh k c h ∧ w = h_cd (q_I M 109) (z_m (q_I M 109) 7) c V h) ∧ ∀ q, (∀ b, Nat.testBit q b = true → Nat.testBit (c ^^^ 2 ^ h_lo 10 c) b = true) → r_pc 20 (q ||| 2 ^ h_lo 10 c) ≤ k → h_le w (h_cd (q_I M 109) (z_m (q_I M 109) 7) c V (q ||| 2 ^ h_lo 10 c)) := by
      intro W' My hS' hW' hWb' hv'
      rcases Nat.eq_zero_or_pos p with z | z
      · subst z
        have z0 : (nI 0 = (0 : Int32)) = True := eq_true nI_0
        have pc0 := h_pc1 (h_lo 10 c) lo3 0 (by decide) (Nat.zero_testBit _)
        rw [h_pc0] at pc0
        obtain ⟨w, w1, w2⟩ := hv' 0 (fun b hb => absurd hb (by rw [Nat.zero_testBit]; decide)) (Nat.le_refl _) (by omega)
        subst w1
        obtain ⟨⟨a1, a2⟩, a3⟩ := hWb' w rfl
        refine ⟨w, My, by simp only [f_X2_planSet_b63, z0, if_true], hS', hW', a1, a3, fun q hq hk => ?_⟩
        obtain ⟨w', w1', w2'⟩ := hv' q hq (Nat.zero_le _) hk
        obtain rfl : w = w' := Option.some.inj w1'
        exact w2'
      · have n0 : (nI p = (0 : Int32)) = False := eq_false (nI_ne0 z (by omega))
        have ps : nI p - (1 : Int32) = nI (p - 1) := pk_sub (b := 1) z
        have le : (p - 1) &&& (c ^^^ 2 ^ h_lo 10 c) ≤ p - 1 := Nat.and_le_left
        obtain ⟨w, Mz, r1, r2⟩ := ih ((p - 1) &&& (c ^^^ 2 ^ h_lo 10 c)) g (step + 1) My W' (by omega) (by omega) (by omega) (fun b hb => by
          rw [Nat.testBit_and] at hb
          exact (Bool.and_eq_true_iff.mp hb).2) hS' hW' hWb' (fun q hq hlt hk => hv' q hq (by
          rcases Nat.lt_or_ge q p with y | y
          · have := h_part 10 (c ^^^ 2 ^ h_lo 10 c) p q (by omega) hpo hq y
            omega
          · exact y) hk)
        refine ⟨w, Mz, ?_, r2⟩
        simp only [f_X2_planSet_b63, n0, if_false, ps, r_nand, nI_1]
        exact r1
    by_cases y : r_pc 20 p < k
    · have ok := h_okq (k := k) c0 c1 hpo (by omega)
      have lt := h_ok_lt c1 ok
      have q2 : (nI (r_pc 20 p) < nI k) = True := eq_true (nI_lt y (by omega))
      obtain ⟨w', My, r1, r2, r3, r4, r5, r6, r7, r8⟩ := zb_try hX c0 c1 ok (hS.1.2.2 _ (h_ok_ne ok) (by omega) ok.2.2) (hS.1.2.1 _ (by omega)) (hS.2 _ lt.2.1) (hb _ lt.2.1) (h_F_le hi _) hW (fun w hw => (hWb w hw).1)
      obtain ⟨w, Mz, t1, t2⟩ := fin (some w') My ⟨hS.1.ne r2, fun s hs => r2.v3 (by omega) (hS.2 s hs)⟩ r3 (fun w hw => by
        obtain rfl : w' = w := Option.some.inj hw
        refine ⟨⟨r4, r5⟩, ?_⟩
        rcases r6 with e | e
        · exact ⟨_, ok, e⟩
        · exact (hWb w' e).2) (fun q hq hpq hk => by
        rcases Nat.lt_or_ge p q with z | z
        · obtain ⟨w, w1, w2⟩ := hv q hq z hk
          exact ⟨w', rfl, h_le_tr (r8 w w1) w2⟩
        · obtain rfl : p = q := by omega
          exact ⟨w', rfl, r7⟩)
      refine ⟨w, Mz, ?_, t2⟩
      simp only [f_X2_planSet_b37.eq_2, q1, if_true, bc, Option.bind_some, q2, r_nor, r1]
      exact t1
    · have q2 : (nI (r_pc 20 p) < nI k) = False := eq_false (nI_nlt (by omega) (by omega))
      obtain ⟨w, Mz, t1, t2⟩ := fin W Mx hS hW hWb (fun q hq hpq hk => by
        rcases Nat.lt_or_ge p q with z | z
        · exact hv q hq z hk
        · obtain rfl : p = q := by omega
          exact absurd hk (by omega))
      refine ⟨w, Mz, ?_, t2⟩
      simp only [f_X2_planSet_b37.eq_2, q1, if_true, bc, Option.bind_some, q2, if_false]
      exact t1
/-- all sets before c are planned -/
def z_P2 (M Mx : q_Mem) (k c : Nat) (V : Nat → Nat × Nat × Nat) : Prop := z_St M Mx k c V ∧ V 0 = (0, 0, 0) ∧ (∀ s, s < c → h_vb s (V s)) ∧ ∀ s, 0 < s → s < c → h_B1 (h_F (q_I M 109) (z_m (q_I M 109) 7)) k V s
theorem zb_planSet {M Mx : q_Mem} (hi : z_Inv M) {k c : Nat} (k0 : 0 < k) (k5 : k ≤ 5) (c0 : 0 < c) (hc : c < 2 ^ z_m (q_I M 109) 7) {V : Nat → Nat × Nat × Nat} (hP : z_P2 M Mx k c V) : ∃ V' My, f_X2_planSet Mx 101 (nI c) (nI k) = some My ∧ z_P2 M My k (c + 1) V' := by
  have h10 := (zt_7 hi).2.2.1
  have h1024 : 2 ^ z_m (q_I M 109) 7 ≤ 1024 := Nat.pow_le_pow_right (n := 2) (by decide) h10
  have c1 : c < 1024 := by omega
  obtain ⟨hS, hV0, hb, hB⟩ := hP
  have hX := (hi.sm hS.1.1.sm).1
  obtain ⟨lo1, lo2, lo3⟩ := h_lo_all c c1 c0
  have o1024 : c ^^^ 2 ^ h_lo 10 c < 2 ^ 10 := Nat.xor_lt_two_pow c1 (Nat.pow_lt_pow_right (by decide) lo3)
  have ne : z_ne c Mx (q_sI Mx 104 c 0) := ⟨z_BF.sI c0, fun _ _ _ => rfl, fun k hk => by rw [z_I_sI, if_neg (fun z => hk z.2)], rfl, rfl⟩
  obtain ⟨w, My, r1, r2, r3, r4, r5, r6⟩ := zb_set hi k0 k5 c0 hc hb (c ^^^ 2 ^ h_lo 10 c) (c ^^^ 2 ^ h_lo 10 c) q_fuel 0 (q_sI Mx 104 c 0) none (Nat.le_refl _) (by unfold q_fuel; omega) (by omega) (fun b hb => hb) ⟨hS.1.ne ne, fun s hs => ne.v3 (by omega) (hS.2 s hs)⟩ (by show q_I (q_sI Mx 104 c 0) 104 c = 0; rw [z_I_sI, if_pos ⟨rfl, rfl⟩]) (fun w hw => absurd hw (by simp)) (fun q hq hlt hk => absurd (h_sub_le o1024 hq) (by omega))
  have r1 : f_X2_planSet_b37 101 (nI c) (nI k) (nI (2 ^ h_lo 10 c)) (nI (c ^^^ 2 ^ h_lo 10 c)) q_fuel (nI (c ^^^ 2 ^ h_lo 10 c)) (0 : Int32) (q_sI Mx 104 c 0) = some My := r1
  have q1 : (nI c < (1 : Int32)) = False := eq_false (nI_nlt (b := 1) c0 (by omega))
  have q2 : (nI c < (1024 : Int32)) = True := eq_true (nI_lt (b := 1024) c1 (by decide))
  refine ⟨fun s => if s = c then w else V s, My, ?_, ⟨⟨r2.1, fun s hs => ?_⟩, ?_, fun s hs => ?_, fun s hs0 hs => ?_⟩⟩
  · simp only [f_X2_planSet, zob_101 hX, zo_101 hX, q1, q2, if_true, if_false, (za_104 hX).2.2 c _ c1, Option.bind_some, h_low2 c c1 c0, r_nxor, r1]
  · show z_V3 (if s = c then w else V s) My s
    by_cases e : s = c
    · rw [if_pos e, e]
      exact r3
    · rw [if_neg e]
      exact r2.2 s (by omega)
  · show (if 0 = c then w else V 0) = _
    rw [if_neg (by omega)]
    exact hV0
  · show h_vb s (if s = c then w else V s)
    by_cases e : s = c
    · rw [if_pos e, e]
      exact r4
    · rw [if_neg e]
      exact hb s (by omega)
  · have key : ∀ s h, s ≤ c → h_okh k s h → (fun s => if s = c then w else V s) (s ^^^ h) = V (s ^^^ h) := fun s h hsc ok => by
      have := (h_ok_lt (by omega) ok).2.1
      show (if s ^^^ h = c then w else V (s ^^^ h)) = _
      rw [if_neg (by omega)]
    by_cases e : s = c
    · subst e
      have ew : (fun s' => if s' = s then w else V s') s = w := if_pos rfl
      refine ⟨?_, fun h ok => ?_⟩
      · obtain ⟨h, ok, e⟩ := r5
        refine ⟨h, ok, ?_⟩
        rw [key s h (Nat.le_refl _) ok, ew]
        exact e
      · rw [key s h (Nat.le_refl _) ok, ew]
        obtain ⟨q, a1, a2⟩ := h_okp c0 c1 ok
        have := r6 q a1 (by rw [a2]; exact ok.2.2)
        rw [a2] at this
        exact this
    · obtain ⟨⟨h, ok, e1⟩, b2⟩ := hB s hs0 (by omega)
      have ew : (fun s => if s = c then w else V s) s = V s := if_neg e
      refine ⟨⟨h, ok, ?_⟩, fun h ok => ?_⟩
      · rw [key s h (by omega) ok, ew]
        exact e1
      · rw [key s h (by omega) ok, ew]
        exact b2 h ok
theorem zb_p2 {M : q_Mem} (hi : z_Inv M) {k : Nat} (k0 : 0 < k) (k5 : k ≤ 5) : ∀ (d c fu : Nat) (Mx : q_Mem) (V : Nat → Nat × Nat × Nat), c + d = 2 ^ z_m (q_I M 109) 7 → d < fu → 0 < c → z_P2 M Mx k c V →
    ∃ V' My, f_X2_plan_b72 101 (nI k) (nI (2 ^ z_m (q_I M 109) 7 - 1)) fu (nI c) Mx = some My ∧ z_P2 M My k (2 ^ z_m (q_I M 109) 7) V' := by
  have h10 := (zt_7 hi).2.2.1
  have h1024 : 2 ^ z_m (q_I M 109) 7 ≤ 1024 := Nat.pow_le_pow_right (n := 2) (by decide) h10
  intro d
  induction d with
  | zero =>
    intro c fu Mx V hd hf c0 hP
    obtain ⟨g, rfl⟩ : ∃ g, fu = g + 1 := ⟨fu - 1, by omega⟩
    have hn : (nI (2 ^ z_m (q_I M 109) 7 - 1) < nI c) = True := eq_true (nI_lt (by omega) (by omega))
    refine ⟨V, Mx, ?_, by rw [← hd]; exact hP⟩
    simp only [f_X2_plan_b72.eq_2, hn, if_true]
  | succ d ih =>
    intro c fu Mx V hd hf c0 hP
    obtain ⟨g, rfl⟩ : ∃ g, fu = g + 1 := ⟨fu - 1, by omega⟩
    have hn : (nI (2 ^ z_m (q_I M 109) 7 - 1) < nI c) = False := eq_false (nI_nlt (by omega) (by omega))
    have q2 : (nI c < (1024 : Int32)) = True := eq_true (nI_lt (b := 1024) (by omega) (by decide))
    obtain ⟨V', My, r1, r2⟩ := zb_planSet hi k0 k5 c0 (by omega) hP
    obtain ⟨V'', Mz, s1, s2⟩ := ih (c + 1) g My V' (by omega) (by omega) (by omega) r2
    refine ⟨V'', Mz, ?_, s2⟩
    simp only [f_X2_plan_b72.eq_2, hn, if_false, q2, if_true, r1, Option.bind_some, nI_1]
    exact s1
theorem zb_all {M Mx : q_Mem} (hi : z_Inv M) (hS : z_sm M Mx) : f_X2_allCreams Mx 101 = some (nI (2 ^ z_m (q_I M 109) 7 - 1)) := by
  have hiX := hi.sm hS
  have hX := hiX.1
  obtain ⟨R, h3, h10, hcn⟩ := zt_7 hiX
  rw [z_inv9 hS] at h3 h10
  have e : q_mi (10 : Int32) (nI (z_m (q_I M 109) 7)) = nI (z_m (q_I M 109) 7) := by
    have := r_mi_N (a := 10) (b := z_m (q_I M 109) 7) (by decide) (by omega)
    have e2 : (if z_m (q_I M 109) 7 < 10 then z_m (q_I M 109) 7 else 10) = z_m (q_I M 109) 7 := by split <;> omega
    rw [e2] at this
    exact this
  simp only [f_X2_allCreams, zob_101 hX, zo_101 hX, zo_16 hX, h3, Option.bind_some, e, z_full20 _ (show z_m (q_I M 109) 7 < 21 by omega)]
/-- the whole plan -/
theorem zb_plan {M : q_Mem} (hi : z_Inv M) {k : Nat} (k0 : 0 < k) (k5 : k ≤ 5) : ∃ V My, f_X2_plan M 101 (nI k) = some My ∧ z_BF M My ∧ h_Bl (h_F (q_I M 109) (z_m (q_I M 109) 7)) k (z_m (q_I M 109) 7) V ∧ z_V3 (V (2 ^ z_m (q_I M 109) 7 - 1)) My (2 ^ z_m (q_I M 109) 7 - 1) ∧ h_vb (2 ^ z_m (q_I M 109) 7 - 1) (V (2 ^ z_m (q_I M 109) 7 - 1)) := by
  have hL := hi.1
  have h10 := (zt_7 hi).2.2.1
  have h1024 : 2 ^ z_m (q_I M 109) 7 ≤ 1024 := Nat.pow_le_pow_right (n := 2) (by decide) h10
  have hpos : 0 < 2 ^ z_m (q_I M 109) 7 := Nat.pow_pos (by decide)
  obtain ⟨Z1, Z2, Z3, Z4⟩ : z_Zc M := hi.2.2.2.2.2.2
  have on0 : h_on 0 = 0 := by decide
  have l0 : lN 0 = (0 : Int64) := rfl
  obtain ⟨M1, a1, a2⟩ := zb_p1 hi k5 (2 ^ z_m (q_I M 109) 7 - 1) 1 q_fuel M (by omega) (by unfold q_fuel; omega) (by decide) ⟨z_BF.rf, fun s hs => by
    obtain rfl : s = 0 := by omega
    rw [Z4, on0, l0], fun s h0 hs => absurd hs (by omega)⟩
  have a1 : f_X2_plan_b7 101 (nI k) (nI (2 ^ z_m (q_I M 109) 7 - 1)) q_fuel (1 : Int32) M = _ := a1
  have zc1 : z_Zc M1 := a2.1.1.zc ⟨Z1, Z2, Z3, Z4⟩
  obtain ⟨V, My, b1, b2⟩ := zb_p2 hi k0 k5 (2 ^ z_m (q_I M 109) 7 - 1) 1 q_fuel M1 (fun _ => (0, 0, 0)) (by omega) (by unfold q_fuel; omega) (by decide) ⟨⟨a2, fun s hs => by
    obtain rfl : s = 0 := by omega
    exact ⟨by rw [zc1.2.1]; rfl, by rw [zc1.1]; rfl, by rw [zc1.2.2.1]; rfl⟩⟩, rfl, fun s hs => ⟨Nat.zero_le _, Nat.zero_le _, Nat.zero_le _⟩, fun s h0 hs => absurd hs (by omega)⟩
  have b1 : f_X2_plan_b72 101 (nI k) (nI (2 ^ z_m (q_I M 109) 7 - 1)) q_fuel (1 : Int32) M1 = _ := b1
  obtain ⟨c1, c2, c3, c4⟩ := b2
  refine ⟨V, My, ?_, c1.1.1, ⟨c2, c4⟩, c1.2 _ (by omega), c3 _ (by omega)⟩
  simp only [f_X2_plan, zob_101 hL, zb_all hi z_sm.rf, Option.bind_some, a1, b1]
