/-! ===== share ===== -/
/-- a motion's text as the class' cells have it -/
theorem zr_6t {M : q_Mem} (hi : z_Inv M) {i j : Nat} (h : i < z_m (q_I M 109) 6) (hj : j ≤ (q_I M 109 (3686 + 84 * i)).toNatClampNeg) (hj2 : j < 61) : q_I M 15 (84 * i + (3 + j)) = q_I M 109 (3686 + 84 * i + j) := by
  have e := (hi.2.2.2.2.1.1 6 (by decide)).2.2.2 i (3 + j) h (show 3 + j < 84 by omega) ⟨fun z => absurd z (by decide), fun _ _ _ => by rw [show 3 + j - 3 = j by omega]; exact hj⟩
  have e3 : z_pm 6 (3 + j) = j := by unfold z_pm; rw [if_pos rfl, if_neg (by omega), if_pos (by omega)]; omega
  rw [e3] at e
  exact e
/-- which text tells in a week: none, or that of a motion in force -/
def z_wh (st : Nat → Int32) (r : Int32) (sem : Option z_Sem) : Prop := (r = -1 ∧ sem = none) ∨ ∃ j n, j < z_m st 6 ∧ r = nI j ∧ st (3686 + 84 * j) = nI n ∧ n ≤ 60 ∧ (z_gP n (z_ct st (3686 + 84 * j) n) (n + 1) 0 [] none).1 = -1 ∧ sem = some (z_gP n (z_ct st (3686 + 84 * j) n) (n + 1) 0 [] none).2
theorem z_mt {M : q_Mem} (hi : z_Inv M) {j : Nat} (hj : j < z_m (q_I M 109) 6) : z_Tx (q_I M 109) (3686 + 84 * j) ∧ z_ff (q_I M 109) (3686 + 84 * j) := by
  have ov := hi.2.2.2.2.1.2.2.2 6 (by decide) j hj
  exact ⟨ov.1, ov.2.2.2.2.2⟩
theorem zs_findSharesC {M Mg : q_Mem} (hi : z_Inv M) {fk : Nat → Int64} {rt : Nat → Int32} {wk : Int32} (hG : z_G M Mg fk rt wk) : ∃ r sem Mf, f_X0_inForce Mg 87 ((7 : Int32) * wk) = some r ∧ z_wh (q_I M 109) r sem ∧ f_X7_findShares Mg 88 wk = some Mf ∧ z_sm M Mf ∧ ∀ f, f < 20 → (f < z_m (q_I M 109) 0 → ∃ t, z_T0 sem (z_nv (q_I M 109) fk rt wk f) t ∧ q_J Mf 94 f = z_cut0 (z_gN (q_I M 109) wk f (z_m (q_I M 109) 1)) t) ∧ (z_m (q_I M 109) 0 ≤ f → q_J Mf 94 f = 0) := by
  have sg := z_G_sm hG
  have hig := hi.sm sg
  have Lg := hig.1
  have e9g := z_inv9 sg
  obtain ⟨r, r1, _, r3⟩ := zs_force hig Lg rfl ((7 : Int32) * wk)
  have fin : ∀ (Ml Mf : q_Mem) (sem : Option z_Sem), z_sm Mg Ml → z_PS M Ml Mf fk rt wk sem 20 → z_sm M Mf ∧ ∀ f, f < 20 → (f < z_m (q_I M 109) 0 → ∃ t, z_T0 sem (z_nv (q_I M 109) fk rt wk f) t ∧ q_J Mf 94 f = z_cut0 (z_gN (q_I M 109) wk f (z_m (q_I M 109) 1)) t) ∧ (z_m (q_I M 109) 0 ≤ f → q_J Mf 94 f = 0) := fun Ml Mf sem sl h =>
    ⟨(sg.tr sl).tr ⟨h.1, fun a ha => h.2.1 a (fun z => by rw [z] at ha; unfold z_core at ha; omega) (fun z => by rw [z] at ha; unfold z_core at ha; omega) (fun z => by rw [z] at ha; unfold z_core at ha; omega)⟩, h.2.2.2.2⟩
  rcases r3 with rfl | ⟨j, hj, rfl⟩
  · obtain ⟨Mf, p, h⟩ := zq_shares hi hG z_FR.rf (fun _ _ _ => rfl) rfl (r := -1) (n := 0) (c := fun _ => 0) (Or.inl ⟨rfl, rfl⟩) 20 0 q_fuel Mg (by omega) (by unfold q_fuel; omega) ⟨z_FR.rf, fun _ _ _ _ => rfl, rfl, fun _ _ _ _ _ => rfl, fun f hf => absurd hf (Nat.not_lt_zero _)⟩
    have p' : f_X7_findShares_b35 88 (-1 : Int32) q_fuel (0 : Int32) Mg = some Mf := p
    obtain ⟨f1, f2⟩ := fin Mg Mf none z_sm.rf h
    refine ⟨-1, none, Mf, r1, Or.inl ⟨rfl, rfl⟩, ?_, f1, f2⟩
    simp only [f_X7_findShares, zob_88 Lg, zo_88 Lg, r1, Option.bind_some, if_true, p']
  · obtain ⟨R6, h36, hm6, hcn6⟩ := zt_6 hig
    obtain ⟨tx, tf⟩ := z_mt hig hj
    obtain ⟨n, hn, e0, e3⟩ := z_txlen tx
    have hl : q_I Mg 15 (84 * j + 3) = nI n := by
      have := zr_6t hig hj (j := 0) (Nat.zero_le _) (by decide)
      rw [Nat.add_zero, Nat.add_zero] at this
      rw [this]; exact e0
    obtain ⟨Ml, l1, l2, l4, l5, l6, l7, l8⟩ := zs_load Lg R6 h36 hm6 hj (col := 3) (by decide) hn (by decide) (by decide) hl
    have sl : z_sm Mg Ml := ⟨l2, fun a ha => l4 a (fun z => by rw [z] at ha; unfold z_core at ha; omega) (fun z => by rw [z] at ha; unfold z_core at ha; omega)⟩
    have l1' : f_X8_load Mg 81 14 (nI j) (3 : Int32) = some Ml := l1
    have ok := z_ct_ok tx e0 hn
    have hok : (z_gP n (z_ct (q_I Mg 109) (3686 + 84 * j) n) (n + 1) 0 [] none).1 = -1 := by
      have q := tf
      unfold z_ff at q
      rw [e3] at q
      exact q
    have nj : (nI j = (-1 : Int32)) = False := z_nI_n1 (by omega)
    have hl82 : ∀ k, k < n → q_I Ml 82 k = nI (z_ct (q_I Mg 109) (3686 + 84 * j) n k) ∧ z_ct (q_I Mg 109) (3686 + 84 * j) n k < 128 := fun k hk => by
      refine ⟨?_, (ok k hk).2⟩
      rw [l8 k hk, ← (ok k hk).1, show 3 + 1 + k = 3 + (1 + k) by omega, zr_6t hig hj (j := 1 + k) (by rw [e3]; omega) (by omega), ← Nat.add_assoc]
    obtain ⟨Mf, p, h⟩ := zq_shares hi hG l2 l4 l6 (r := nI j) (n := n) (c := z_ct (q_I Mg 109) (3686 + 84 * j) n) (Or.inr ⟨fun z => by rw [nj] at z; exact z, hn, l7, hl82, hok, rfl⟩) 20 0 q_fuel Ml (by omega) (by unfold q_fuel; omega) ⟨z_FR.rf, fun _ _ _ _ => rfl, rfl, fun _ _ _ _ _ => rfl, fun f hf => absurd hf (Nat.not_lt_zero _)⟩
    have p' : f_X7_findShares_b35 88 (nI j) q_fuel (0 : Int32) Ml = some Mf := p
    obtain ⟨f1, f2⟩ := fin Ml Mf _ sl h
    rw [e9g] at hj e0 hok
    refine ⟨nI j, some (z_gP n (z_ct (q_I Mg 109) (3686 + 84 * j) n) (n + 1) 0 [] none).2, Mf, r1, Or.inr ⟨j, n, hj, rfl, e0, hn, hok, by rw [e9g]⟩, ?_, f1, f2⟩
    simp only [f_X7_findShares, zob_88 Lg, zo_88 Lg, zo_1 Lg, r1, Option.bind_some, nj, if_false, l1', p']
theorem z_to64_0 {x : Int32} : (x.toInt64 = 0) = (x = 0) := by
  apply propext
  constructor
  · intro h
    apply Int32.toInt_inj.mp
    have := congrArg Int64.toInt h
    rw [Int32.toInt_toInt64] at this
    exact this
  · intro h; rw [h]; rfl
/-- the model cuts as the class does -/
theorem zm_cut {Y : q_Mem} {k : Nat} {N : Int32} {t : Int64} (kk : Int32 → q_Mem → Option q_Mem) (hY : z_Lay Y) (hk : k < 20) (wk r : Int32) (h2 : q_J Y 119 2 = N.toInt64) : f_X12_findShares_b84 kk Y 108 wk r (nI k) t = kk (nI (k + 1)) (q_sJ Y 123 k (z_cut0 N t)) := by
  have l2 : q_lJ Y 119 (2 : Int32) = some (q_J Y 119 2) := (za_119 hY).2.1 2 (by decide)
  have n9 : ((1000000000 : Int64) < 0) = False := by decide
  unfold z_cut0
  by_cases c0 : t < 0
  · have e : (if N = 0 then (0 : Int64) else q_mxJ 0 (q_miJ 1000000000 t)) = 0 := by
      by_cases z : N = 0
      · rw [if_pos z]
      · rw [if_neg z]
        have c1 : t < 1000000000 := by
          rw [Int64.lt_iff_toInt_lt] at c0 ⊢
          have e0 : (0 : Int64).toInt = 0 := rfl
          have e9 : (1000000000 : Int64).toInt = 1000000000 := rfl
          omega
        unfold q_miJ q_mxJ
        rw [if_pos c1, if_pos c0]
    rw [e]
    simp only [f_X12_findShares_b84, f_X12_findShares_b110, c0, if_true, zo_108 hY, Option.bind_some, n9, if_false, (za_123 hY).2.2 k _ hk, ← nI_succ]
  · by_cases z : N = 0
    · rw [if_pos z]
      have z2 : (q_J Y 119 2 = 0) = True := by rw [h2, z_to64_0]; exact eq_true z
      simp only [f_X12_findShares_b84, f_X12_findShares_b110, c0, if_false, zo_108 hY, Option.bind_some, l2, z2, if_true, n9, (za_123 hY).2.2 k _ hk, ← nI_succ]
    · rw [if_neg z]
      have z2 : (q_J Y 119 2 = 0) = False := by rw [h2, z_to64_0]; exact eq_false z
      by_cases c1 : (1000000000 : Int64) < t
      · have e : q_mxJ (0 : Int64) (q_miJ 1000000000 t) = 1000000000 := by
          have c2 : ¬ t < 1000000000 := by
            rw [Int64.lt_iff_toInt_lt] at c1 ⊢
            omega
          unfold q_miJ q_mxJ
          rw [if_neg c2]
          rfl
        rw [e]
        simp only [f_X12_findShares_b84, f_X12_findShares_b110, c0, if_false, zo_108 hY, Option.bind_some, l2, z2, c1, if_true, (za_123 hY).2.2 k _ hk, ← nI_succ]
      · have e : q_mxJ (0 : Int64) (q_miJ 1000000000 t) = t := by
          unfold q_miJ q_mxJ
          by_cases c2 : t < 1000000000
          · rw [if_pos c2, if_neg c0]
          · rw [if_neg c2]
            have e9 : (1000000000 : Int64).toInt = 1000000000 := rfl
            have : t = 1000000000 := by
              apply Int64.toInt_inj.mp
              rw [Int64.lt_iff_toInt_lt] at c1 c2
              omega
            rw [this]; rfl
        rw [e]
        simp only [f_X12_findShares_b84, f_X12_findShares_b110, c0, if_false, zo_108 hY, Option.bind_some, l2, z2, c1, (za_123 hY).2.2 k _ hk, ← nI_succ]
def z_qa (a : Nat) : Prop := a = 108 ∨ a = 122
/-- the model's shares, of the farms before k -/
def z_QS (Mr Y : q_Mem) (A : Nat → Int64) (k : Nat) : Prop := z_FR Mr Y ∧ (∀ a, ¬ z_qa a → q_I Y a = q_I Mr a) ∧ q_I Y 108 4 = q_I Mr 108 4 ∧ ∀ f, f < k → q_J Y 123 f = A f
theorem zq_sharesM {M Mr : q_Mem} (hi : z_Inv M) {rt : Nat → Int32} {fk : Nat → Int64} {wk : Int32} (hR : z_RM M Mr rt) (hfat : ∀ Y, z_RM M Y rt → ∀ c, c < z_m (q_I M 109) 1 → f_X12_fatOf Y 108 (nI c) = some (fk c)) {A : Nat → Int64} {r : Int32} {sem : Option z_Sem} (hA : ∀ f, f < z_m (q_I M 109) 0 → ∃ t, z_T0 sem (z_nv (q_I M 109) fk rt wk f) t ∧ A f = z_cut0 (z_gN (q_I M 109) wk f (z_m (q_I M 109) 1)) t)
    (hr : (r = -1 ∧ sem = none) ∨ (¬ r = -1 ∧ ∃ S s, q_I Mr 108 4 = nI S ∧ S ≤ 125 ∧ z_Run (q_I Mr 113) (q_I Mr 114) (q_I Mr 115) 0 S s ∧ sem = some s)) : ∀ (d k fu : Nat) (Y : q_Mem), k + d = z_m (q_I M 109) 0 → d < fu → z_QS Mr Y A k → ∃ Z, f_X12_findShares_b35 108 wk r fu (nI k) Y = some Z ∧ z_QS Mr Z A (z_m (q_I M 109) 0) := by
  obtain ⟨R0, h30, hm0, hcn⟩ := zt_0 hi
  intro d
  induction d with
  | zero =>
    intro k fu Y hd hf h
    obtain ⟨g, rfl⟩ : ∃ g, fu = g + 1 := ⟨fu - 1, by omega⟩
    obtain rfl : k = z_m (q_I M 109) 0 := by omega
    have hY := h.1.lay hR.1
    have e9 : q_I Y 109 = q_I M 109 := (h.2.1 109 (by unfold z_qa; omega)).trans hR.2.1
    have hn : (nI (z_m (q_I M 109) 0) < nI (z_m (q_I M 109) 0)) = False := eq_false (nI_nlt (Nat.le_refl _) (by omega))
    simp only [f_X12_findShares_b35.eq_2, zo_108 hY, zl_ hY, e9, hcn, Option.bind_some, hn, if_false]
    exact ⟨Y, rfl, h⟩
  | succ d ih =>
    intro k fu Y hd hf h
    obtain ⟨g, rfl⟩ : ∃ g, fu = g + 1 := ⟨fu - 1, by omega⟩
    have hk : k < z_m (q_I M 109) 0 := by omega
    have hY := h.1.lay hR.1
    have e9 : q_I Y 109 = q_I M 109 := (h.2.1 109 (by unfold z_qa; omega)).trans hR.2.1
    have hn : (nI k < nI (z_m (q_I M 109) 0)) = True := eq_true (nI_lt hk (by omega))
    have hRY : z_RM M Y rt := ⟨hY, e9, fun j hj => by rw [h.2.1 112 (by unfold z_qa; omega)]; exact hR.2.2 j hj⟩
    obtain ⟨Y1, p1, k1, n1⟩ := zs_findNames hi hRY hfat (wk := wk) hk
    have L1 := k1.1.lay hY
    obtain ⟨t, ht, hAt⟩ := hA k hk
    have j2 : q_J Y1 119 2 = (z_gN (q_I M 109) wk k (z_m (q_I M 109) 1)).toInt64 := n1 2 (by decide)
    -- on, from where t is told
    have on : ∀ Y2, z_FR Y1 Y2 → (∀ a, ¬ z_qa a → q_I Y2 a = q_I Y1 a) → q_I Y2 108 4 = q_I Y1 108 4 → (∀ a, a ≠ 121 → q_J Y2 a = q_J Y1 a) → ∃ Z, f_X12_findShares_b84 (f_X12_findShares_b35 108 wk r g) Y2 108 wk r (nI k) t = some Z ∧ z_QS Mr Z A (z_m (q_I M 109) 0) := fun Y2 F2 I2 e4 J2 => by
      rw [zm_cut (f_X12_findShares_b35 108 wk r g) (F2.lay L1) (by omega) wk r (by rw [J2 119 (by decide)]; exact j2)]
      refine ih (k + 1) g _ (by omega) (by omega) ⟨h.1.tr (k1.1.tr (F2.tr ⟨rfl, rfl, rfl⟩)), fun a ha => ?_, ?_, fun f hf => ?_⟩
      · show q_I Y2 a = _
        rw [I2 a ha, k1.2.1]; exact h.2.1 a ha
      · show q_I Y2 108 4 = _
        rw [e4, k1.2.1]; exact h.2.2.1
      · rw [z_J_eq]
        by_cases e : f = k
        · rw [if_pos e, e, hAt]
        · rw [if_neg e, J2 123 (by decide), k1.2.2 123 (by decide)]
          exact h.2.2.2 f (by omega)
    rcases hr with ⟨hr1, hsem⟩ | ⟨hr1, S, s, hS4, hS5, hRun, hsem⟩
    · subst hr1
      have l1 : q_lJ Y1 119 (1 : Int32) = some (q_J Y1 119 1) := (za_119 L1).2.1 1 (by decide)
      have et : q_J Y1 119 1 = t := by
        rw [n1 1 (by decide)]
        rw [hsem] at ht
        exact ht.symm
      obtain ⟨Z, z1, z2⟩ := on Y1 z_FR.rf (fun _ _ => rfl) rfl (fun _ _ => rfl)
      refine ⟨Z, ?_, z2⟩
      simp only [f_X12_findShares_b35.eq_2, zo_108 hY, zl_ hY, e9, hcn, Option.bind_some, hn, if_true, p1, zo_108 L1, l1, et, z1]
    · have hr1' := eq_false hr1
      have y4 : q_I Y1 108 4 = nI S := by rw [k1.2.1, h.2.2.1]; exact hS4
      have yR : z_Run (q_I Y1 113) (q_I Y1 114) (q_I Y1 115) 0 S s := by
        rw [k1.2.1, h.2.1 113 (by unfold z_qa; omega), h.2.1 114 (by unfold z_qa; omega), h.2.1 115 (by unfold z_qa; omega)]; exact hRun
      obtain ⟨Y2, pY, vY, jY⟩ := zs_goes L1 y4 hS5 yR
      have L2 := vY.1.lay L1
      have v0 : q_lJ Y2 121 (0 : Int32) = some (q_J Y2 121 0) := (za_121 L2).2.1 0 (by decide)
      have tt : t = (if (s (q_J Y1 119)).2 = true then 0 else (s (q_J Y1 119)).1) := by
        rw [hsem] at ht
        exact ht (q_J Y1 119) n1
      obtain ⟨Z, z1, z2⟩ := on Y2 vY.1 (fun a ha => vY.2.1 a (fun z => ha (Or.inl z)) (fun z => ha (Or.inr z))) (vY.2.2.1 4 (by decide)) vY.2.2.2.2.1
      refine ⟨Z, ?_, z2⟩
      cases hnone : (s (q_J Y1 119)).2 with
      | true =>
        rw [hnone] at pY tt
        have et : t = 0 := tt
        rw [et] at z1
        have pY' : f_X12_goes Y1 108 = some ((0 : Int32), Y2) := pY
        simp only [f_X12_findShares_b35.eq_2, zo_108 hY, zl_ hY, e9, hcn, Option.bind_some, hn, if_true, p1, hr1', if_false, pY', z1]
      | false =>
        rw [hnone] at pY tt
        have et : t = (s (q_J Y1 119)).1 := tt
        rw [et, ← jY hnone] at z1
        have pY' : f_X12_goes Y1 108 = some ((1 : Int32), Y2) := pY
        simp only [f_X12_findShares_b35.eq_2, zo_108 hY, zl_ hY, e9, hcn, Option.bind_some, hn, if_true, p1, hr1', if_false, pY', show ((1 : Int32) = 0) = False by decide, zo_108 L2, v0, z1]
/-- both sides' shares -/
theorem zs_shares {M : q_Mem} (hi : z_Inv M) (wk dd : Int32) : ∃ Mg Mf Mm, f_X7_gather M 88 wk dd = some Mg ∧ z_Lay Mg ∧ f_X7_findShares Mg 88 wk = some Mf ∧ z_sm M Mf ∧ f_X12_findShares Mf 108 wk dd = some Mm ∧ z_sm Mf Mm ∧ (∀ f, f < z_m (q_I M 109) 0 → q_J Mm 123 f = q_J Mf 94 f ∧ 0 ≤ (q_J Mf 94 f).toInt ∧ (q_J Mf 94 f).toInt ≤ 1000000000) ∧ ∀ f, f < 20 → z_m (q_I M 109) 0 ≤ f → q_J Mf 94 f = 0 := by
  obtain ⟨R0, h30, hm0, hcn⟩ := zt_0 hi
  obtain ⟨Mg, fk, pg, hG, hfat⟩ := zs_gather hi wk dd
  have sg := z_G_sm hG
  have hig := hi.sm sg
  obtain ⟨r, sem, Mf, r1, hw, pf, sf, shs⟩ := zs_findSharesC hi hG
  have hif := hi.sm sf
  have Lf := hif.1
  have e9f := z_inv9 sf
  obtain ⟨M2, p2, F2, I2, J2, k2⟩ := zs_find2 hi Lf e9f dd
  have L2 := F2.lay Lf
  have e92 : q_I M2 109 = q_I M 109 := (I2 109 (by decide)).trans e9f
  have s2 : z_sm Mf M2 := ⟨F2, fun a ha => I2 a (fun z => by rw [z] at ha; exact z_nc112 ha)⟩
  have hRM : z_RM M M2 (z_rt M dd) := ⟨L2, e92, k2⟩
  obtain ⟨r', x1, x2, _⟩ := zs_force hig L2 (e92.trans (z_inv9 sg).symm) ((7 : Int32) * wk)
  rw [r1] at x1
  obtain rfl : r = r' := Option.some.inj x1
  have hA : ∀ f, f < z_m (q_I M 109) 0 → ∃ t, z_T0 sem (z_nv (q_I M 109) fk (z_rt M dd) wk f) t ∧ q_J Mf 94 f = z_cut0 (z_gN (q_I M 109) wk f (z_m (q_I M 109) 1)) t := fun f hf => (shs f (by omega)).1 hf
  have bd : ∀ f, f < z_m (q_I M 109) 0 → 0 ≤ (q_J Mf 94 f).toInt ∧ (q_J Mf 94 f).toInt ≤ 1000000000 := fun f hf => by
    obtain ⟨t, _, e⟩ := hA f hf
    rw [e]; exact z_cutR _ _
  have QS_sm : ∀ Mr Z, z_QS Mr Z (q_J Mf 94) (z_m (q_I M 109) 0) → z_sm Mr Z := fun Mr Z h => ⟨h.1, fun a ha => h.2.1 a (fun z => by unfold z_qa at z; unfold z_core at ha; omega)⟩
  rcases hw with ⟨w1, w2⟩ | ⟨j, n, wj, w1, w3, wn, wok, w2⟩
  · subst w1
    obtain ⟨Z, z1, z2⟩ := zq_sharesM hi hRM hfat hA (Or.inl ⟨rfl, w2⟩) (z_m (q_I M 109) 0) 0 q_fuel M2 (by omega) (z_fu (by omega)) ⟨z_FR.rf, fun _ _ => rfl, rfl, fun f hf => absurd hf (Nat.not_lt_zero _)⟩
    have z1' : f_X12_findShares_b35 108 wk (-1 : Int32) q_fuel (0 : Int32) M2 = some Z := z1
    refine ⟨Mg, Mf, Z, pg, hig.1, pf, sf, ?_, s2.tr (QS_sm _ _ z2), fun f hf => ⟨z2.2.2.2 f hf, bd f hf⟩, fun f hf h2 => (shs f hf).2 h2⟩
    simp only [f_X12_findShares, zob_108 Lf, p2, Option.bind_some, x2, if_true, z1']
  · subst w1
    have nj : (nI j = (-1 : Int32)) = False := z_nI_n1 (by have := (zt_6 hi).2.2.1; omega)
    have hj10 : j < 10 := by have := (zt_6 hi).2.2.1; omega
    have hTM : z_txM M2 (3686 + 84 * j) n (z_ct (q_I M 109) (3686 + 84 * j) n) := ⟨L2, wn, by omega, by rw [e92]; exact w3, fun k hk => by rw [e92]; exact z_ct_ok (z_mt hi wj).1 w3 wn k hk⟩
    obtain ⟨Mr, q1, q2⟩ := zs_readsM hTM
    obtain ⟨S, hS4, hS5, hRun⟩ := q2.2 wok
    have q1' : f_X12_reads M2 108 ((3686 : Int32) + (84 : Int32) * nI j) = some ((z_gP n (z_ct (q_I M 109) (3686 + 84 * j) n) (n + 1) 0 [] none).1, Mr) := by rw [z_ix0_6]; exact q1
    have sr := z_mfin_sm q2.1
    have Lr := sr.1.lay L2
    have hRMr : z_RM M Mr (z_rt M dd) := ⟨Lr, (z_inv9 sr).trans e92, fun k hk => by rw [q2.1.2.1 112 (by unfold z_ma; omega)]; exact k2 k hk⟩
    obtain ⟨Z, z1, z2⟩ := zq_sharesM hi hRMr hfat hA (r := nI j) (Or.inr ⟨fun z => by rw [nj] at z; exact z, S, _, hS4, hS5, hRun, w2⟩) (z_m (q_I M 109) 0) 0 q_fuel Mr (by omega) (z_fu (by omega)) ⟨z_FR.rf, fun _ _ => rfl, rfl, fun f hf => absurd hf (Nat.not_lt_zero _)⟩
    have z1' : f_X12_findShares_b35 108 wk (nI j) q_fuel (0 : Int32) Mr = some Z := z1
    refine ⟨Mg, Mf, Z, pg, hig.1, pf, sf, ?_, s2.tr (sr.tr (QS_sm _ _ z2)), fun f hf => ⟨z2.2.2.2 f hf, bd f hf⟩, fun f hf h2 => (shs f hf).2 h2⟩
    simp only [f_X12_findShares, zob_108 Lf, p2, Option.bind_some, x2, nj, if_false, q1', z1']
theorem Z_share_ok : Z_share := by
  intro M p1 p2 p3 hi
  have hL := hi.1
  obtain ⟨R0, h30, hm0, hcn0⟩ := zt_0 hi
  have hh0 := z_has (x := p2) R0 h30 hm0
  have hs0 : ∀ M1, z_Lay M1 → q_I M1 109 = q_I M 109 → f_X12_is M1 108 (0 : Int32) p2 = some (q_b (0 ≤ p2.toInt ∧ p2.toInt < (z_m (q_I M 109) 0 : Int))) := fun M1 a b => z_m_is (t := 0) (j := 0) a (by decide) (by rw [b]; exact hcn0) (by omega)
  by_cases g1 : (0 : Int32).toInt ≤ p1.toInt ∧ p1.toInt ≤ (27 : Int32).toInt
  · by_cases g0 : 0 ≤ p2.toInt ∧ p2.toInt < (z_m (q_I M 109) 0 : Int)
    · by_cases g2 : (0 : Int32).toInt ≤ p3.toInt ∧ p3.toInt ≤ (195 : Int32).toInt
      · obtain ⟨f, hf, rfl⟩ := z_of g0 (by omega)
        obtain ⟨Mg, Mf, Mm, pg, Lg, pf, sf, pm, sm, he, _⟩ := zs_shares hi p1 p3
        have hif := hi.sm sf
        have Lf := hif.1
        have Lm := sm.1.lay Lf
        have c20 : (nI f < (20 : Int32)) = True := eq_true (nI_lt (b := 20) (by omega) (by decide))
        refine ⟨q_J Mf 94 f, Mf, Mm, ?_, ?_, hif.sm sm⟩
        · simp only [f_X11_share, zob_0 hL, zo_0 hL, zo_1 hL, hh0, z_c_isWeek, z_c_isDay, Option.bind_some, z_b0, g0, g1, g2, and_self, if_true, pg, zo_0 Lg, pf, c20, zo_0 Lf, zo_88 Lf, (za_94 Lf).2.1 f (show f < 20 by omega)]
        · simp only [f_X12_share, zob_108 Lf, hs0 Mf Lf (z_inv9 sf), z_m_isWeek, z_m_isDay, Option.bind_some, z_b0, g0, g1, g2, and_self, if_true, pm, zo_108 Lm, (za_123 Lm).2.1 f (show f < 20 by omega), (he f hf).1]
      · refine ⟨-2, M, M, ?_, ?_, hi⟩
        · simp only [f_X11_share, zob_0 hL, zo_0 hL, zo_1 hL, hh0, z_c_isWeek, z_c_isDay, Option.bind_some, z_b0, g0, g1, g2, and_self, if_true, if_false]
        · simp only [f_X12_share, zob_108 hL, hs0 M hL rfl, z_m_isWeek, z_m_isDay, Option.bind_some, z_b0, g0, g1, g2, and_self, if_true, if_false]
    · refine ⟨-2, M, M, ?_, ?_, hi⟩
      · simp only [f_X11_share, zob_0 hL, zo_0 hL, zo_1 hL, hh0, z_c_isWeek, z_c_isDay, Option.bind_some, z_b0, g0, g1, and_self, if_true, if_false]
      · simp only [f_X12_share, zob_108 hL, hs0 M hL rfl, z_m_isWeek, z_m_isDay, Option.bind_some, z_b0, g0, g1, and_self, if_true, if_false]
  · refine ⟨-2, M, M, ?_, ?_, hi⟩
    · simp only [f_X11_share, zob_0 hL, z_c_isWeek, Option.bind_some, z_b0, g1, if_false]
    · simp only [f_X12_share, zob_108 hL, z_m_isWeek, Option.bind_some, z_b0, g1, if_false]
