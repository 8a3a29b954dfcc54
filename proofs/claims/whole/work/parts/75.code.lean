/-! ===== the model: from sign to sign; fault ===== -/
theorem z_dgm9 : ∀ x, x < 128 → f_X12_in z_M9 (nI x) 48 57 = some (q_b (48 ≤ x ∧ x ≤ 57)) := by decide +kernel
theorem zm_digit {M : q_Mem} {x : Nat} (h : x < 128) : f_X12_in M (nI x) (48 : Int32) (57 : Int32) = some (q_b (48 ≤ x ∧ x ≤ 57)) := z_dgm9 x h
theorem z_nd_bd (len : Nat) (c : Nat → Nat) (first : Nat) : ∀ (n j v : Nat), first ≤ j → v < 10 ^ (j - first) → (z_nd c len n j v).2 < 10 ^ ((z_nd c len n j v).1 - first)
  | 0, j, v, hj, hv => hv
  | n + 1, j, v, hj, hv => by
    unfold z_nd
    split
    · refine z_nd_bd len c first n (j + 1) _ (by omega) ?_
      rw [show j + 1 - first = (j - first) + 1 by omega, Nat.pow_succ]
      have h : j < len ∧ 48 ≤ c j ∧ c j ≤ 57 := by assumption
      generalize 10 ^ (j - first) = p at hv
      omega
    · exact hv
section ZE
variable {Mb M : q_Mem} {o B o0 len : Nat} {c : Nat → Nat} {fr : List z_Fr} {s : z_Sem}
theorem zm_sign' (hT : z_txM Mb o0 len c) (hf : z_mfin Mb M) {i : Nat} (hi : i < len) : q_lI M 109 (nI (o0 + 1) + nI i) = some (nI (c i)) := by
  rw [nI_succ]; exact zm_sign hT hf hi
theorem zm_number (hT : z_txM Mb o0 len c) (hf : z_mfin Mb M) (kk : Int32 → Int32 → q_Mem → Option (Int32 × q_Mem)) (first : Nat) : ∀ (n j v fu : Nat), j ≤ len → len ≤ j + n → n < fu → first ≤ j → j ≤ first + 6 → f_X12_reads_b118 kk M 108 (nI o0) (nI len) (nI first) fu (nI j) (nI v) = (if 6 < (z_nd c len n j v).1 - first then f_X12_reads_b155 M (nI first) else f_X12_reads_b191 kk M 108 (nI o0) (nI len) (nI (z_nd c len n j v).1) (nI (z_nd c len n j v).2)) := by
  have hM := hf.1.lay hT.1
  have h60 := hT.2.1
  intro n
  induction n with
  | zero =>
    intro j v fu hjl hj hfu h1 h2
    obtain ⟨g, rfl⟩ : ∃ g, fu = g + 1 := ⟨fu - 1, by omega⟩
    have c1 : (nI j < nI len) = False := eq_false (nI_nlt (by omega) (by omega))
    rw [if_neg (show ¬ 6 < (z_nd c len 0 j v).1 - first by show ¬ 6 < j - first; omega)]
    simp only [f_X12_reads_b118.eq_2, c1, if_false]
    rfl
  | succ n ih =>
    intro j v fu hjl hj hfu h1 h2
    obtain ⟨g, rfl⟩ : ∃ g, fu = g + 1 := ⟨fu - 1, by omega⟩
    by_cases c1 : j < len
    · have c2 : (nI j < nI len) = True := eq_true (nI_lt c1 (by omega))
      have hc := (hT.2.2.2.2 j c1).2
      have sg := zm_sign hT hf c1
      have sg' := zm_sign' hT hf c1
      by_cases c3 : 48 ≤ c j ∧ c j ≤ 57
      · have q : (q_b (48 ≤ c j ∧ c j ≤ 57) = 0) = False := eq_false (fun z => (q_b0.mp z) c3)
        have e : z_nd c len (n + 1) j v = z_nd c len n (j + 1) (10 * v + (c j - 48)) := if_pos ⟨c1, c3⟩
        have es := z_subN (a := first) (b := j) h1 (by omega)
        have ge := z_nd_le len c n (j + 1) (10 * v + (c j - 48)) (by omega)
        by_cases c6 : j - first = 6
        · have c6' : (nI (j - first) = (6 : Int32)) = True := by rw [c6]; exact eq_true rfl
          rw [e, if_pos (by omega)]
          simp only [f_X12_reads_b118.eq_2, c2, if_true, zo_108 hM, Option.bind_some, sg, sg', zm_digit hc, q, if_false, es, c6']
        · have c6' : (nI (j - first) = (6 : Int32)) = False := by rw [show (6 : Int32) = nI 6 from rfl, z_nI_in (by omega) (by decide)]; exact eq_false c6
          have ev : ((10 : Int32) * nI v + nI (c j)) - (48 : Int32) = nI (10 * v + (c j - 48)) := by
            rw [show (10 : Int32) = nI 10 from rfl, pk_mul, nI_add, show 10 * v + c j = (10 * v + (c j - 48)) + 48 by omega, ← nI_add, show (48 : Int32) = nI 48 from rfl, Int32.add_sub_cancel]
          rw [e, ← ih (j + 1) (10 * v + (c j - 48)) g (by omega) (by omega) (by omega) (by omega) (by omega)]
          simp only [f_X12_reads_b118.eq_2, c2, if_true, zo_108 hM, Option.bind_some, sg, sg', zm_digit hc, q, if_false, es, c6', ev, ← nI_succ]
      · have q : (q_b (48 ≤ c j ∧ c j ≤ 57) = 0) = True := eq_true (q_b0.mpr c3)
        have e : z_nd c len (n + 1) j v = (j, v) := if_neg (fun z => c3 z.2)
        rw [e, if_neg (show ¬ 6 < j - first by omega)]
        simp only [f_X12_reads_b118.eq_2, c2, if_true, zo_108 hM, Option.bind_some, sg, sg', zm_digit hc, q]
    · have c2 : (nI j < nI len) = False := eq_false (nI_nlt (by omega) (by omega))
      have e : z_nd c len (n + 1) j v = (j, v) := if_neg (fun z => c1 z.1)
      rw [e, if_neg (show ¬ 6 < j - first by omega)]
      simp only [f_X12_reads_b118.eq_2, c2, if_false]
theorem z_ten (i k : Nat) : (10 : Int32) * nI i + nI k = nI (10 * i + k) := by rw [show (10 : Int32) = nI 10 from rfl, pk_mul, nI_add]
theorem z_mres_f {i k : Nat} {x : q_Mem} (h : z_mfin Mb x) (h2 : 10 * i + k < 1000000) : z_mres Mb x (nI (10 * i + k), z_no2) := ⟨h, fun z => absurd z (z_nI_ne h2)⟩
theorem zq_reads (hT : z_txM Mb o0 len c) : ∀ (n i fu : Nat) (fr : List z_Fr) (M : q_Mem), i ≤ len → len < i + n → len < i + fu → z_kx fr → z_wf fr → z_opn fr ≤ 8 →
    (z_MN Mb M fr (z_opn fr) (2 * i) → ∃ M', f_X12_reads_b27 108 (nI o0) (nI len) fu (0 : Int32) (nI i) M = some ((z_gP len c n i fr none).1, M') ∧ z_mres Mb M' (z_gP len c n i fr none)) ∧
    (∀ s, z_nu fr → z_MT Mb M fr s (z_opn fr) (2 * i) → ∃ M', f_X12_reads_b27 108 (nI o0) (nI len) fu (1 : Int32) (nI i) M = some ((z_gP len c n i fr (some s)).1, M') ∧ z_mres Mb M' (z_gP len c n i fr (some s))) := by
  have h60 := hT.2.1
  have hL := hT.1
  intro n
  induction n with
  | zero =>
    intro i fu fr M hi hn
    omega
  | succ n ih =>
    intro i fu fr M hi hn hfu hkx hwf hop
    obtain ⟨g, rfl⟩ : ∃ g, fu = g + 1 := ⟨fu - 1, by omega⟩
    constructor
    · intro h
      have hM := h.lay hL
      have hf := h.fin
      by_cases hlt : i < len
      · have c1 : (nI i < nI len) = True := eq_true (nI_lt hlt (by omega))
        have hc := (hT.2.2.2.2 i hlt).2
        have sg := zm_sign hT hf hlt
        have sg' := zm_sign' hT hf hlt
        have q : ∀ (j : Nat) (x : Int32), j < 128 → x = nI j → ((nI (c i) = x) = (c i = j)) := fun j x hj hx => by rw [hx]; exact z_nI_in (by omega) (by omega)
        have q32 := q 32 32 (by decide) rfl
        have q33 := q 33 33 (by decide) rfl
        have q45 := q 45 45 (by decide) rfl
        have q40 := q 40 40 (by decide) rfl
        by_cases k32 : c i = 32
        · have eg : z_gP len c (n + 1) i fr none = z_gP len c n (i + 1) fr none := by rw [z_gP.eq_2, if_pos hlt, if_pos k32]
          rw [eg]
          obtain ⟨M', r1, r2⟩ := (ih (i + 1) g fr M (by omega) (by omega) (by omega) hkx hwf hop).1 (h.mono (by omega))
          refine ⟨M', ?_, r2⟩
          have k32' := eq_true k32
          simp only [f_X12_reads_b27.eq_2, c1, if_true, zo_108 hM, Option.bind_some, sg, sg', q32, k32', ← nI_succ, r1]
        · have k32' := eq_false k32
          by_cases kd : 48 ≤ c i ∧ c i ≤ 57
          · have dq : (q_b (48 ≤ c i ∧ c i ≤ 57) = 0) = False := eq_false (fun z => (q_b0.mp z) kd)
            have nb := zm_number hT hf (f_X12_reads_b27 108 (nI o0) (nI len) g) i len i 0 q_fuel hi (by omega) (by unfold q_fuel; omega) (Nat.le_refl _) (by omega)
            have nb' : f_X12_reads_b118 (f_X12_reads_b27 108 (nI o0) (nI len) g) M 108 (nI o0) (nI len) (nI i) q_fuel (nI i) (0 : Int32) = _ := nb
            have nle := z_nd_le len c len i 0 hi
            have nlt : i < (z_nd c len len i 0).1 := by
              have : len = (len - 1) + 1 := by omega
              rw [this] at hlt ⊢
              exact z_nd_lt hlt kd
            have nbd := z_nd_bd len c i len i 0 (Nat.le_refl _) (by rw [Nat.sub_self]; exact Nat.zero_lt_one)
            by_cases k6 : 6 < (z_nd c len len i 0).1 - i
            · have eg : z_gP len c (n + 1) i fr none = (nI (10 * i + 2), z_no2) := by rw [z_gP.eq_2, if_pos hlt, if_neg k32, if_pos kd, if_pos k6]
              rw [eg]
              rw [if_pos k6] at nb'
              refine ⟨M, ?_, z_mres_f hf (by omega)⟩
              have e2 : (10 : Int32) * nI i + (2 : Int32) = nI (10 * i + 2) := z_ten i 2
              rw [f_X12_reads_b27.eq_2]
              simp only [c1, if_true, zo_108 hM, Option.bind_some, sg, sg', q32, k32', if_false, zm_digit hc, dq, nb', f_X12_reads_b155, e2]
            · have eg : z_gP len c (n + 1) i fr none = z_gP len c n (z_nd c len len i 0).1 (z_gU fr (z_sNum (Int64.ofNat (z_nd c len len i 0).2))).1 (some (z_gU fr (z_sNum (Int64.ofNat (z_nd c len len i 0).2))).2) := by rw [z_gP.eq_2, if_pos hlt, if_neg k32, if_pos kd, if_neg k6]
              rw [eg]
              rw [if_neg k6] at nb'
              have v6 : (z_nd c len len i 0).2 < 1000000 := Nat.lt_of_lt_of_le nbd (Nat.pow_le_pow_right (n := 10) (by decide) (show (z_nd c len len i 0).1 - i ≤ 6 by omega))
              obtain ⟨r, M1, p1, h1⟩ := zm_unit (s := z_sNum (Int64.ofNat (z_nd c len len i 0).2)) hL (0 : Int32) (nI (z_nd c len len i 0).2) h (by omega) (fun sp wi ot S a b => z_Run.num v6 a b)
              obtain ⟨M2, p2, h2⟩ := zs_settlesU hL (by omega) hkx h1
              obtain ⟨hwf2, hnu2⟩ := z_wf_gU fr (z_sNum (Int64.ofNat (z_nd c len len i 0).2)) hwf
              have hkx2 := z_kx_gU fr (z_sNum (Int64.ofNat (z_nd c len len i 0).2)) hkx
              have ho2 := z_opn_gU fr (z_sNum (Int64.ofNat (z_nd c len len i 0).2))
              rw [← ho2] at h2
              obtain ⟨M', r1, r2⟩ := (ih (z_nd c len len i 0).1 g (z_gU fr (z_sNum (Int64.ofNat (z_nd c len len i 0).2))).1 M2 (by omega) (by omega) (by omega) hkx2 hwf2 (by omega)).2 _ hnu2 (h2.mono (by omega))
              refine ⟨M', ?_, r2⟩
              rw [f_X12_reads_b27.eq_2]
              simp only [c1, if_true, zo_108 hM, Option.bind_some, sg, sg', q32, k32', if_false, zm_digit hc, dq, nb', f_X12_reads_b191, p1, p2, r1]
          · have dq : (q_b (48 ≤ c i ∧ c i ≤ 57) = 0) = True := eq_true (q_b0.mpr kd)
            by_cases k33 : c i = 33
            · have eg : z_gP len c (n + 1) i fr none = z_gP len c n (i + 1) ((33, z_no2, z_no2) :: fr) none := by rw [z_gP.eq_2, if_pos hlt, if_neg k32, if_neg kd, if_pos k33]
              rw [eg]
              obtain ⟨M1, p1, h1⟩ := zm_mark (k := 33) (Or.inl rfl) hL h (by omega)
              have p1' : f_X12_waitsWith M 108 (33 : Int32) (0 : Int32) (0 : Int32) = some M1 := p1
              obtain ⟨M', r1, r2⟩ := (ih (i + 1) g ((33, z_no2, z_no2) :: fr) M1 (by omega) (by omega) (by omega) ⟨Or.inl rfl, hkx⟩ ⟨Or.inl rfl, hwf⟩ (by show 0 + z_opn fr ≤ 8; omega)).1 (by rw [show z_opn ((33, z_no2, z_no2) :: fr) = z_opn fr from Nat.zero_add _]; exact h1.mono (by omega))
              refine ⟨M', ?_, r2⟩
              have nm : f_X12_nameOf M (nI (c i)) = some (-1) := by rw [zm_nameOf hc, k33]; rfl
              have k33' := eq_true k33
              have k40' : (c i = 40) = False := eq_false (by omega)
              rw [f_X12_reads_b27.eq_2]
              simp only [f_X12_reads_b306, f_X12_reads_b321, c1, if_true, zo_108 hM, Option.bind_some, sg, sg', q32, k32', if_false, zm_digit hc, dq, nm, q40, k40', q33, k33', p1', ← nI_succ, r1]
            · have k33' := eq_false k33
              by_cases k45 : c i = 45
              · have eg : z_gP len c (n + 1) i fr none = z_gP len c n (i + 1) ((128, z_no2, z_no2) :: fr) none := by rw [z_gP.eq_2, if_pos hlt, if_neg k32, if_neg kd, if_neg k33, if_pos k45]
                rw [eg]
                obtain ⟨M1, p1, h1⟩ := zm_mark (k := 128) (Or.inr (Or.inl rfl)) hL h (by omega)
                have p1' : f_X12_waitsWith M 108 (126 : Int32) (0 : Int32) (0 : Int32) = some M1 := p1
                obtain ⟨M', r1, r2⟩ := (ih (i + 1) g ((128, z_no2, z_no2) :: fr) M1 (by omega) (by omega) (by omega) ⟨Or.inr (Or.inl rfl), hkx⟩ ⟨Or.inr (Or.inl rfl), hwf⟩ (by show 0 + z_opn fr ≤ 8; omega)).1 (by rw [show z_opn ((128, z_no2, z_no2) :: fr) = z_opn fr from Nat.zero_add _]; exact h1.mono (by omega))
                refine ⟨M', ?_, r2⟩
                have nm : f_X12_nameOf M (nI (c i)) = some (-1) := by rw [zm_nameOf hc, k45]; rfl
                have k45' := eq_true k45
                have k40' : (c i = 40) = False := eq_false (by omega)
                rw [f_X12_reads_b27.eq_2]
                simp only [f_X12_reads_b306, f_X12_reads_b321, c1, if_true, zo_108 hM, Option.bind_some, sg, sg', q32, k32', if_false, zm_digit hc, dq, nm, q40, k40', q33, k33', q45, k45', p1', ← nI_succ, r1]
              · have k45' := eq_false k45
                have f12 := h.f12
                by_cases k40 : c i = 40
                · have k40' := eq_true k40
                  have nm : f_X12_nameOf M (nI (c i)) = some (-1) := by rw [zm_nameOf hc, k40]; rfl
                  have q8 : (nI (z_opn fr) = (8 : Int32)) = (z_opn fr = 8) := z_nI_in (b := 8) (by omega) (by decide)
                  by_cases k8 : z_opn fr < 8
                  · have eg : z_gP len c (n + 1) i fr none = z_gP len c n (i + 1) ((40, z_no2, z_no2) :: fr) none := by rw [z_gP.eq_2, if_pos hlt, if_neg k32, if_neg kd, if_neg k33, if_neg k45, if_pos k40, if_pos k8]
                    rw [eg]
                    have c8 : (z_opn fr = 8) = False := eq_false (by omega)
                    have h0 := zm_open h (z_opn fr + 1)
                    obtain ⟨M1, p1, h1⟩ := zm_mark (k := 40) (Or.inr (Or.inr rfl)) hL h0 (by omega)
                    have p1' : f_X12_waitsWith (q_sI M 108 12 (nI (z_opn fr + 1))) 108 (40 : Int32) (0 : Int32) (0 : Int32) = some M1 := p1
                    have eo : z_opn ((40, z_no2, z_no2) :: fr) = z_opn fr + 1 := Nat.add_comm _ _
                    obtain ⟨M', r1, r2⟩ := (ih (i + 1) g ((40, z_no2, z_no2) :: fr) M1 (by omega) (by omega) (by omega) ⟨Or.inr (Or.inr (Or.inl rfl)), hkx⟩ ⟨Or.inr (Or.inr (Or.inl rfl)), hwf⟩ (by rw [eo]; omega)).1 (by rw [eo]; exact h1.mono (by omega))
                    refine ⟨M', ?_, r2⟩
                    rw [f_X12_reads_b27.eq_2]
                    simp only [c1, if_true, zo_108 hM, Option.bind_some, sg, sg', q32, k32', if_false, zm_digit hc, dq, nm, q40, k40', f12, q8, c8, p1', ← nI_succ, r1]
                  · have eg : z_gP len c (n + 1) i fr none = (nI (10 * i + 3), z_no2) := by rw [z_gP.eq_2, if_pos hlt, if_neg k32, if_neg kd, if_neg k33, if_neg k45, if_pos k40, if_neg k8]
                    rw [eg]
                    have c8 : (z_opn fr = 8) = True := eq_true (by omega)
                    have e3 : (10 : Int32) * nI i + (3 : Int32) = nI (10 * i + 3) := z_ten i 3
                    refine ⟨M, ?_, z_mres_f hf (by omega)⟩
                    rw [f_X12_reads_b27.eq_2]
                    simp only [f_X12_reads_b260, c1, if_true, zo_108 hM, Option.bind_some, sg, sg', q32, k32', if_false, zm_digit hc, dq, nm, q40, k40', f12, q8, c8, e3]
                · have k40' := eq_false k40
                  by_cases kn : z_nmOf (c i) < 8
                  · have eg : z_gP len c (n + 1) i fr none = z_gP len c n (i + 1) (z_gU fr (z_sName (z_nmOf (c i)))).1 (some (z_gU fr (z_sName (z_nmOf (c i)))).2) := by rw [z_gP.eq_2, if_pos hlt, if_neg k32, if_neg kd, if_neg k33, if_neg k45, if_neg k40, if_pos kn]
                    rw [eg]
                    have nm : f_X12_nameOf M (nI (c i)) = some (nI (z_nmOf (c i))) := by rw [zm_nameOf hc, if_pos kn]
                    have nm1 : (nI (z_nmOf (c i)) = (-1 : Int32)) = False := z_nI_n1 (by omega)
                    obtain ⟨r, M1, p1, h1⟩ := zm_unit (s := z_sName (z_nmOf (c i))) hL (1 : Int32) (nI (z_nmOf (c i))) h (by omega) (fun sp wi ot S a b => z_Run.name kn a b)
                    obtain ⟨M2, p2, h2⟩ := zs_settlesU hL (by omega) hkx h1
                    obtain ⟨hwf2, hnu2⟩ := z_wf_gU fr (z_sName (z_nmOf (c i))) hwf
                    have hkx2 := z_kx_gU fr (z_sName (z_nmOf (c i))) hkx
                    have ho2 := z_opn_gU fr (z_sName (z_nmOf (c i)))
                    rw [← ho2] at h2
                    obtain ⟨M', r1, r2⟩ := (ih (i + 1) g (z_gU fr (z_sName (z_nmOf (c i)))).1 M2 (by omega) (by omega) (by omega) hkx2 hwf2 (by omega)).2 _ hnu2 (h2.mono (by omega))
                    refine ⟨M', ?_, r2⟩
                    rw [f_X12_reads_b27.eq_2]
                    simp only [c1, if_true, zo_108 hM, Option.bind_some, sg, sg', q32, k32', if_false, zm_digit hc, dq, nm, nm1, p1, p2, ← nI_succ, r1]
                  · have eg : z_gP len c (n + 1) i fr none = (nI (10 * i + 1), z_no2) := by rw [z_gP.eq_2, if_pos hlt, if_neg k32, if_neg kd, if_neg k33, if_neg k45, if_neg k40, if_neg kn]
                    rw [eg]
                    have nm : f_X12_nameOf M (nI (c i)) = some (-1) := by rw [zm_nameOf hc, if_neg kn]
                    have e1 : (10 : Int32) * nI i + (1 : Int32) = nI (10 * i + 1) := z_ten i 1
                    refine ⟨M, ?_, z_mres_f hf (by omega)⟩
                    rw [f_X12_reads_b27.eq_2]
                    simp only [f_X12_reads_b332, c1, if_true, zo_108 hM, Option.bind_some, sg, sg', q32, k32', if_false, zm_digit hc, dq, nm, q40, k40', q33, k33', q45, k45', e1]
      · obtain rfl : i = len := by omega
        have eg : z_gP i c (n + 1) i fr none = (nI (10 * i + 1), z_no2) := by rw [z_gP.eq_2, if_neg hlt]
        rw [eg]
        have c1 : (nI i < nI i) = False := eq_false (nI_nlt (Nat.le_refl _) (by omega))
        have e1 : (10 : Int32) * nI i + (1 : Int32) = nI (10 * i + 1) := z_ten i 1
        refine ⟨M, ?_, z_mres_f hf (by omega)⟩
        simp only [f_X12_reads_b27.eq_2, f_X12_reads_b343, c1, if_false, if_true, e1]
    · intro s hnu h
      have hM := z_MT_lay hL h
      have hf := h.fin
      have n10 : ((1 : Int32) = 0) = False := by decide
      by_cases hlt : i < len
      · have c1 : (nI i < nI len) = True := eq_true (nI_lt hlt (by omega))
        have hc := (hT.2.2.2.2 i hlt).2
        have sg := zm_sign hT hf hlt
        have sg' := zm_sign' hT hf hlt
        have q : ∀ (j : Nat) (x : Int32), j < 128 → x = nI j → ((nI (c i) = x) = (c i = j)) := fun j x hj hx => by rw [hx]; exact z_nI_in (by omega) (by omega)
        have q32 := q 32 32 (by decide) rfl
        have q41 := q 41 41 (by decide) rfl
        by_cases k32 : c i = 32
        · have eg : z_gP len c (n + 1) i fr (some s) = z_gP len c n (i + 1) fr (some s) := by rw [z_gP.eq_3, if_pos hlt, if_pos k32]
          rw [eg]
          obtain ⟨M', r1, r2⟩ := (ih (i + 1) g fr M (by omega) (by omega) (by omega) hkx hwf hop).2 s hnu (h.mono (by omega))
          refine ⟨M', ?_, r2⟩
          have k32' := eq_true k32
          simp only [f_X12_reads_b27.eq_2, c1, if_true, zo_108 hM, Option.bind_some, sg, sg', q32, k32', ← nI_succ, r1]
        · have k32' := eq_false k32
          -- on: where goesOn says so
          have on1 : ∀ M1, f_X12_goesOn M 108 (nI (c i)) = some ((1 : Int32), M1) → c i ≠ 41 → f_X12_reads_b27 108 (nI o0) (nI len) (g + 1) (1 : Int32) (nI i) M = f_X12_reads_b27 108 (nI o0) (nI len) g (0 : Int32) (nI (i + 1)) M1 := fun M1 hg h41 => by
            have h41' := eq_false h41
            rw [f_X12_reads_b27.eq_2]
            simp only [c1, if_true, zo_108 hM, Option.bind_some, sg, sg', q32, k32', n10, if_false, hg, q41, h41', ← nI_succ]
          have off : ∀ M1, f_X12_goesOn M 108 (nI (c i)) = some ((0 : Int32), M1) → f_X12_reads_b27 108 (nI o0) (nI len) (g + 1) (1 : Int32) (nI i) M = some (nI (10 * i + 1), M1) := fun M1 hg => by
            have e1 : (10 : Int32) * nI i + (1 : Int32) = nI (10 * i + 1) := z_ten i 1
            rw [f_X12_reads_b27.eq_2]
            simp only [f_X12_reads_b72, c1, if_true, zo_108 hM, Option.bind_some, sg, sg', q32, k32', n10, if_false, hg, e1]
          by_cases k63 : c i = 63
          · have eg : z_gP len c (n + 1) i fr (some s) = z_gP len c n (i + 1) ((63, (z_gS 1 fr s).2, z_no2) :: (z_gS 1 fr s).1) none := by rw [z_gP.eq_3, if_pos hlt, if_neg k32, if_pos k63]
            rw [eg]
            obtain ⟨M1, p1, h1⟩ := zm_question hL (by omega) hkx hwf hnu h
            rw [← k63] at p1
            obtain ⟨hwf1, hnu1⟩ := z_wf_gS 1 (by decide) fr s hwf hnu
            have eo : z_opn ((63, (z_gS 1 fr s).2, z_no2) :: (z_gS 1 fr s).1) = z_opn fr := by
              show 0 + z_opn (z_gS 1 fr s).1 = _
              rw [Nat.zero_add, z_opn_gS 1 (by decide)]
            obtain ⟨M', r1, r2⟩ := (ih (i + 1) g ((63, (z_gS 1 fr s).2, z_no2) :: (z_gS 1 fr s).1) M1 (by omega) (by omega) (by omega) ⟨Or.inr (Or.inr (Or.inr (Or.inl rfl))), z_kx_gS 1 fr s hkx⟩ ⟨Or.inr (Or.inr (Or.inr hnu1)), hwf1⟩ (by rw [eo]; exact hop)).1 (by rw [eo]; exact h1.mono (by omega))
            exact ⟨M', (on1 M1 p1 (by omega)).trans r1, r2⟩
          · by_cases k58 : c i = 58
            · obtain ⟨e1, e2⟩ := zm_else hL (by omega) hkx hwf hnu h
              rw [← k58] at e1 e2
              by_cases kt : z_tk (z_gE fr s).1 = 63
              · have eg : z_gP len c (n + 1) i fr (some s) = z_gP len c n (i + 1) ((c i, ((z_gE fr s).1.headD (0, z_no2, z_no2)).2.1, (z_gE fr s).2) :: (z_gE fr s).1.tail) none := by rw [z_gP.eq_3, if_pos hlt, if_neg k32, if_neg k63, if_pos k58, if_pos kt, k58]
                rw [eg]
                obtain ⟨M1, p1, h1⟩ := e1 kt
                obtain ⟨hwfE, hnuE⟩ := z_wf_gE fr s hwf hnu
                have hkE := z_kx_gE fr s hkx
                have hoE := z_opn_gE fr s
                have htl : z_kx (z_gE fr s).1.tail ∧ z_opn (z_gE fr s).1.tail = z_opn (z_gE fr s).1 ∧ z_wf (z_gE fr s).1.tail ∧ z_nu (z_gE fr s).1.tail := by
                  obtain ⟨a, b, t, e⟩ := z_tk_ne kt (by decide)
                  rw [e] at hkE hwfE ⊢
                  refine ⟨hkE.2, ?_, hwfE.2, ?_⟩
                  · show z_opn t = 0 + z_opn t
                    rw [Nat.zero_add]
                  · rcases hwfE.1 with z | z | z | z
                    · exact absurd z (by decide : (63 : Nat) ≠ 33)
                    · exact absurd z (by decide : (63 : Nat) ≠ 128)
                    · exact absurd z (by decide : (63 : Nat) ≠ 40)
                    · exact z
                have eo : z_opn ((c i, ((z_gE fr s).1.headD (0, z_no2, z_no2)).2.1, (z_gE fr s).2) :: (z_gE fr s).1.tail) = z_opn fr := by
                  show (if c i = 40 then 1 else 0) + z_opn (z_gE fr s).1.tail = _
                  rw [if_neg (by omega), Nat.zero_add, htl.2.1, hoE]
                obtain ⟨M', r1, r2⟩ := (ih (i + 1) g ((c i, ((z_gE fr s).1.headD (0, z_no2, z_no2)).2.1, (z_gE fr s).2) :: (z_gE fr s).1.tail) M1 (by omega) (by omega) (by omega) ⟨Or.inr (Or.inr (Or.inr (Or.inr (Or.inl k58)))), htl.1⟩ ⟨Or.inr (Or.inr (Or.inr htl.2.2.2)), htl.2.2.1⟩ (by rw [eo]; exact hop)).1 (by rw [eo]; exact h1.mono (by omega))
                exact ⟨M', (on1 M1 p1 (by omega)).trans r1, r2⟩
              · have eg : z_gP len c (n + 1) i fr (some s) = (nI (10 * i + 1), z_no2) := by rw [z_gP.eq_3, if_pos hlt, if_neg k32, if_neg k63, if_pos k58, if_neg kt]
                rw [eg]
                obtain ⟨M1, p1, h1⟩ := e2 kt
                exact ⟨M1, off M1 p1, z_mres_f h1 (by omega)⟩
            · by_cases k41 : c i = 41
              · obtain ⟨e1, e2⟩ := zm_close hL (by omega) hkx hwf hnu h
                by_cases kt : z_tk (z_gE fr s).1 = 40
                · have eg : z_gP len c (n + 1) i fr (some s) = z_gP len c n (i + 1) (z_gU (z_gE fr s).1.tail (z_gE fr s).2).1 (some (z_gU (z_gE fr s).1.tail (z_gE fr s).2).2) := by rw [z_gP.eq_3, if_pos hlt, if_neg k32, if_neg k63, if_neg k58, if_pos k41, if_pos kt]
                  rw [eg]
                  obtain ⟨M1, p1, h1⟩ := e1 kt
                  obtain ⟨hwfE, hnuE⟩ := z_wf_gE fr s hwf hnu
                  have hkE := z_kx_gE fr s hkx
                  have hoE := z_opn_gE fr s
                  have htl : z_kx (z_gE fr s).1.tail ∧ z_opn (z_gE fr s).1.tail ≤ z_opn (z_gE fr s).1 ∧ z_wf (z_gE fr s).1.tail := by
                    obtain ⟨a, b, t, e⟩ := z_tk_ne kt (by decide)
                    rw [e] at hkE hwfE ⊢
                    exact ⟨hkE.2, Nat.le_add_left _ _, hwfE.2⟩
                  obtain ⟨hwfU, hnuU⟩ := z_wf_gU (z_gE fr s).1.tail (z_gE fr s).2 htl.2.2
                  have hkU := z_kx_gU (z_gE fr s).1.tail (z_gE fr s).2 htl.1
                  have hoU := z_opn_gU (z_gE fr s).1.tail (z_gE fr s).2
                  rw [← hoU] at h1
                  obtain ⟨M', r1, r2⟩ := (ih (i + 1) g (z_gU (z_gE fr s).1.tail (z_gE fr s).2).1 M1 (by omega) (by omega) (by omega) hkU hwfU (by omega)).2 _ hnuU (h1.mono (by omega))
                  refine ⟨M', ?_, r2⟩
                  rw [← k41] at p1
                  have k41' := eq_true k41
                  rw [f_X12_reads_b27.eq_2]
                  simp only [c1, if_true, zo_108 hM, Option.bind_some, sg, sg', q32, k32', n10, if_false, p1, q41, k41', ← nI_succ, r1]
                · have eg : z_gP len c (n + 1) i fr (some s) = (nI (10 * i + 1), z_no2) := by rw [z_gP.eq_3, if_pos hlt, if_neg k32, if_neg k63, if_neg k58, if_pos k41, if_neg kt]
                  rw [eg]
                  obtain ⟨M1, p1, h1⟩ := e2 kt
                  rw [← k41] at p1
                  exact ⟨M1, off M1 p1, z_mres_f h1 (by omega)⟩
              · obtain ⟨e1, e2, e3, e4⟩ := zm_join hc k41 k58 k63 hL (by omega) hkx hwf hnu h
                have kkN : ∀ r, z_rk (c i) ≠ 0 → 0 < r → (z_kx ((c i, (z_gS r fr s).2, z_no2) :: (z_gS r fr s).1) ∧ z_wf ((c i, (z_gS r fr s).2, z_no2) :: (z_gS r fr s).1) ∧ z_opn ((c i, (z_gS r fr s).2, z_no2) :: (z_gS r fr s).1) = z_opn fr) := fun r h0 hr0 => by
                  have hp : 0 < z_rk (c i) := by omega
                  have hne : c i ≠ 40 := by
                    rcases z_rk_pos hp with z | z | z | z | z | z | z | z | z <;> omega
                  obtain ⟨hwf1, hnu1⟩ := z_wf_gS r hr0 fr s hwf hnu
                  refine ⟨⟨Or.inr (Or.inr (Or.inr (Or.inr (Or.inr hp)))), z_kx_gS r fr s hkx⟩, ⟨Or.inr (Or.inr (Or.inr hnu1)), hwf1⟩, ?_⟩
                  show (if c i = 40 then 1 else 0) + z_opn (z_gS r fr s).1 = _
                  rw [if_neg hne, Nat.zero_add]
                  exact z_opn_gS r hr0 fr s
                by_cases k0 : z_rk (c i) = 0
                · have eg : z_gP len c (n + 1) i fr (some s) = (nI (10 * i + 1), z_no2) := by rw [z_gP.eq_3, if_pos hlt, if_neg k32, if_neg k63, if_neg k58, if_neg k41, if_pos k0]
                  rw [eg]
                  obtain ⟨M1, p1, h1⟩ := e1 k0
                  exact ⟨M1, off M1 p1, z_mres_f h1 (by omega)⟩
                · by_cases k3 : z_rk (c i) = 3
                  · by_cases kt : z_rk (z_tk (z_gS 4 fr s).1) = 3
                    · have eg : z_gP len c (n + 1) i fr (some s) = (nI (10 * i + 1), z_no2) := by rw [z_gP.eq_3, if_pos hlt, if_neg k32, if_neg k63, if_neg k58, if_neg k41, if_neg k0, if_pos k3, if_pos kt]
                      rw [eg]
                      obtain ⟨M1, p1, h1⟩ := e2 k3 kt
                      exact ⟨M1, off M1 p1, z_mres_f h1 (by omega)⟩
                    · have eg : z_gP len c (n + 1) i fr (some s) = z_gP len c n (i + 1) ((c i, (z_gS 4 fr s).2, z_no2) :: (z_gS 4 fr s).1) none := by rw [z_gP.eq_3, if_pos hlt, if_neg k32, if_neg k63, if_neg k58, if_neg k41, if_neg k0, if_pos k3, if_neg kt]
                      rw [eg]
                      obtain ⟨M1, p1, h1⟩ := e3 k3 kt
                      obtain ⟨u1, u2, u3⟩ := kkN 4 k0 (by decide)
                      obtain ⟨M', r1, r2⟩ := (ih (i + 1) g _ M1 (by omega) (by omega) (by omega) u1 u2 (by rw [u3]; exact hop)).1 (by rw [u3]; exact h1.mono (by omega))
                      exact ⟨M', (on1 M1 p1 k41).trans r1, r2⟩
                  · have eg : z_gP len c (n + 1) i fr (some s) = z_gP len c n (i + 1) ((c i, (z_gS (z_rk (c i)) fr s).2, z_no2) :: (z_gS (z_rk (c i)) fr s).1) none := by rw [z_gP.eq_3, if_pos hlt, if_neg k32, if_neg k63, if_neg k58, if_neg k41, if_neg k0, if_neg k3]
                    rw [eg]
                    obtain ⟨M1, p1, h1⟩ := e4 k0 k3
                    obtain ⟨u1, u2, u3⟩ := kkN (z_rk (c i)) k0 (by omega)
                    obtain ⟨M', r1, r2⟩ := (ih (i + 1) g _ M1 (by omega) (by omega) (by omega) u1 u2 (by rw [u3]; exact hop)).1 (by rw [u3]; exact h1.mono (by omega))
                    exact ⟨M', (on1 M1 p1 k41).trans r1, r2⟩
      · obtain rfl : i = len := by omega
        have c1 : (nI i < nI i) = False := eq_false (nI_nlt (Nat.le_refl _) (by omega))
        obtain ⟨M1, p1, h1⟩ := zs_chosen hL (by omega) hkx hwf hnu h
        have hM1 := z_MT_lay hL h1
        have hkE := z_kx_gE fr s hkx
        have hf1 := h1.fin
        obtain ⟨sp, wi, ot, w0, w1, w2, p, S, g1, g2, g3, g4⟩ := h1
        have e8 : q_I M1 108 8 = nI (z_gE fr s).1.length := g1.2.2.2.2.2.2.2.2.2.2.2.1
        have e1 : (10 : Int32) * nI i + (1 : Int32) = nI (10 * i + 1) := z_ten i 1
        by_cases kt : z_tk (z_gE fr s).1 = 0
        · have eg : z_gP i c (n + 1) i fr (some s) = (-1, (z_gE fr s).2) := by rw [z_gP.eq_3, if_neg hlt, if_pos kt]
          rw [eg]
          have hnil : (z_gE fr s).1 = [] := by
            match (z_gE fr s).1, hkE, kt with
            | [], _, _ => rfl
            | f :: t, hh, kt => exact absurd kt (z_kx_lt hh.1).2.2
          rw [hnil] at g2 e8 g4
          have hp0 : p = 0 := g2
          rw [hp0] at g3
          refine ⟨M1, ?_, hf1, fun _ => ⟨S, g1.2.2.2.2.2.2.2.2.2.2.1, by have : ([] : List z_Fr).length = 0 := rfl; omega, ?_⟩⟩
          · have c8 : ((0 : Int32) < nI ([] : List z_Fr).length) = False := by decide
            simp only [f_X12_reads_b27.eq_2, f_X12_reads_b343, c1, if_false, n10, p1, Option.bind_some, zo_108 hM1, e8, c8]
          · rw [g1.2.2.2.2.1, g1.2.2.2.2.2.1, g1.2.2.2.2.2.2.1]
            exact g3
        · have eg : z_gP i c (n + 1) i fr (some s) = (nI (10 * i + 1), z_no2) := by rw [z_gP.eq_3, if_neg hlt, if_neg kt]
          rw [eg]
          have hne : 0 < (z_gE fr s).1.length := by
            match (z_gE fr s).1, kt with
            | [], kt => exact absurd rfl kt
            | f :: t, _ => exact Nat.succ_pos _
          have c8 : ((0 : Int32) < nI (z_gE fr s).1.length) = True := eq_true (nI_lt (a := 0) hne (by omega))
          refine ⟨M1, ?_, z_mres_f hf1 (by omega)⟩
          simp only [f_X12_reads_b27.eq_2, f_X12_reads_b343, c1, if_false, n10, p1, Option.bind_some, zo_108 hM1, e8, c8, if_true, e1]
theorem zs_readsM (hT : z_txM Mb o0 len c) : ∃ M', f_X12_reads Mb 108 (nI o0) = some ((z_gP len c (len + 1) 0 [] none).1, M') ∧ z_mres Mb M' (z_gP len c (len + 1) 0 [] none) := by
  have hL := hT.1
  have h60 := hT.2.1
  have h61 := hT.2.2.1
  have k1 : z_Lay (q_sI Mb 108 4 0) := z_L1 hL
  have k2 : z_Lay (q_sI (q_sI Mb 108 4 0) 108 8 0) := z_L1 k1
  have k3 : z_Lay (q_sI (q_sI (q_sI Mb 108 4 0) 108 8 0) 108 12 0) := z_L1 k2
  obtain ⟨M1, hM1⟩ : ∃ M1, M1 = q_sI (q_sI (q_sI Mb 108 4 0) 108 8 0) 108 12 0 := ⟨_, rfl⟩
  have rI : ∀ a, a ≠ 108 → q_I M1 a = q_I Mb a := fun a h => by rw [hM1, q_sI_ne h, q_sI_ne h, q_sI_ne h]
  have rf : ∀ f, q_I M1 108 f = if f = 12 then 0 else if f = 8 then 0 else if f = 4 then 0 else q_I Mb 108 f := fun f => by
    rw [hM1]
    simp only [z_I_sI, true_and]
  have rJ : q_J M1 = q_J Mb := by rw [hM1]; rfl
  have rF : z_FR Mb M1 := by rw [hM1]; exact ⟨rfl, rfl, rfl⟩
  have L1 : z_Lay M1 := by rw [hM1]; exact k3
  have hT1 : z_txM M1 o0 len c := ⟨L1, h60, h61, by rw [rI 109 (by decide)]; exact hT.2.2.2.1, fun j hj => by rw [rI 109 (by decide)]; exact hT.2.2.2.2 j hj⟩
  have mn : z_MN M1 M1 [] 0 (2 * 0) := by
    refine ⟨q_I M1 113, q_I M1 114, q_I M1 115, q_I M1 116, q_I M1 117, q_I M1 118, 0, ⟨z_FR.rf, fun _ _ => rfl, fun _ _ _ _ => rfl, rfl, rfl, rfl, rfl, rfl, rfl, rfl, ?_, ?_, ?_⟩, rfl, Nat.le_refl _⟩
    · rw [rf]; rfl
    · rw [rf]; rfl
    · rw [rf]; rfl
  obtain ⟨M', r1, r2⟩ := (zq_reads hT1 (len + 1) 0 q_fuel [] M1 (Nat.zero_le _) (by omega) (by unfold q_fuel; omega) trivial trivial (Nat.zero_le _)).1 mn
  have r1' : f_X12_reads_b27 108 (nI o0) (nI len) q_fuel (0 : Int32) (0 : Int32) M1 = some ((z_gP len c (len + 1) 0 [] none).1, M') := r1
  have rl : q_lI M1 109 (nI o0) = some (nI len) := by rw [z_st_lit L1 (by omega), hT1.2.2.2.1]
  refine ⟨M', ?_, ⟨?_, r2.2⟩⟩
  · simp only [f_X12_reads, zob_108 hL, zo_108 hL, zo_108 k1, zo_108 k2, Option.bind_some, ← hM1, zo_108 L1, rl, r1']
  · have ff := r2.1
    refine ⟨rF.tr ff.1, fun a ha => ?_, fun f h1 h2 h3 => ?_, ff.2.2.2.trans rJ⟩
    · rw [ff.2.1 a ha]
      exact rI a (fun z => ha (Or.inl z))
    · rw [ff.2.2.1 f h1 h2 h3, rf, if_neg h3, if_neg h2, if_neg h1]
end ZE
