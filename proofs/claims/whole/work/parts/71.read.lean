/-! ===== the reader: from sign to sign ===== -/
def z_res (ν : Nat → Int64) (Mb M' : q_Mem) (g : Int32 × z_Sem) : Prop := z_fin Mb M' ∧ (g.1 = -1 → q_I M' 81 12 = z_bi (g.2 ν).2 ∧ q_J M' 81 13 = (g.2 ν).1)
theorem z_tk0 {fr : List z_Fr} (hk : z_kk fr) : (z_tk fr = 0) = (fr = []) := by
  match fr, hk with
  | [], _ => exact propext ⟨fun _ => rfl, fun _ => rfl⟩
  | f :: t, h => exact propext ⟨fun z => absurd z h.1.2.1, fun z => by cases z⟩
section ZW
variable {ν : Nat → Int64} {Mb M0 M : q_Mem} {len : Nat} {c : Nat → Nat} {fr : List z_Fr} {s : z_Sem}
theorem z_res_f {i k : Nat} {x : q_Mem} (h : z_fin Mb x) (h2 : 10 * i + k < 1000000) : z_res ν Mb x (nI (10 * i + k), z_no2) := ⟨h, fun z => absurd z (z_nI_ne h2)⟩
theorem zs_joinAll {i : Nat} (hL : z_Lay M0) (hk : z_kk fr) (h : z_CT ν M0 M fr s) (hl : z_wt fr < 60) {k : Nat} (hk2 : k < 128) :
    (z_rk k = 0 → f_X8_readJoin M 81 (nI i) (nI k) = some (q_sI M 81 11 (nI (10 * i + 1)))) ∧
    (z_rk k = 3 → z_rk (z_tk (z_gS 4 fr s).1) = 3 → ∃ M1, z_CT ν M0 M1 (z_gS 4 fr s).1 (z_gS 4 fr s).2 ∧ f_X8_readJoin M 81 (nI i) (nI k) = some (q_sI M1 81 11 (nI (10 * i + 1)))) ∧
    (z_rk k = 3 → ¬ z_rk (z_tk (z_gS 4 fr s).1) = 3 → ∃ M1, f_X8_readJoin M 81 (nI i) (nI k) = some M1 ∧ z_CR ν (q_sI M0 81 10 1) M1 ((k, (z_gS 4 fr s).2, z_no2) :: (z_gS 4 fr s).1)) ∧
    (z_rk k ≠ 0 → z_rk k ≠ 3 → ∃ M1, f_X8_readJoin M 81 (nI i) (nI k) = some M1 ∧ z_CR ν (q_sI M0 81 10 1) M1 ((k, (z_gS (z_rk k) fr s).2, z_no2) :: (z_gS (z_rk k) fr s).1)) := by
  have hM := h.lay hL
  have hrk : z_rk k < 10 := by
    unfold z_rk
    repeat' split
    all_goals omega
  have er : f_X8_rankOf M (nI k) = some (nI (z_rk k)) := zk_rankOf (by omega)
  have hlen : ∀ r, (z_gS r fr s).1.length < 60 := fun r => by
    have h3 := z_gS_wt r fr s
    have h4 := z_room ν (z_gS r fr s).1
    omega
  refine ⟨fun h0 => ?_, fun h3 ht => ?_, fun h3 ht => ?_, fun h0 h3 => ?_⟩
  · have st : f_X8_stop M 81 (nI i) (1 : Int32) = some (q_sI M 81 11 (nI (10 * i + 1))) := zk_stop (k := 1) hL h
    simp only [f_X8_readJoin, f_X8_readJoin_b25, zob_81 hM, er, h0, Option.bind_some, show ((0 : Int32) < nI 0) = False by decide, if_false, show (nI 0 = (0 : Int32)) = True by decide, if_true, st]
  · obtain ⟨M1, p1, h1⟩ := zs_settle hL (r := 4) (by decide) (by decide) hk h
    have p1' : f_X8_settle M 81 (nI 3 + (1 : Int32)) = some M1 := p1
    have tm := zk_topT hL h1
    have tr : f_X8_rankOf M1 (nI (z_tk (z_gS 4 fr s).1)) = some (nI (z_rk (z_tk (z_gS 4 fr s).1))) := zk_rankOf (by have := z_kk_tk (z_kk_gS 4 fr s hk); omega)
    rw [ht] at tr
    have st : f_X8_stop M1 81 (nI i) (1 : Int32) = some (q_sI M1 81 11 (nI (10 * i + 1))) := zk_stop (k := 1) hL h1
    refine ⟨M1, h1, ?_⟩
    simp only [f_X8_readJoin, f_X8_readJoin_b25, zob_81 hM, er, h3, Option.bind_some, show ((0 : Int32) < nI 3) = True by decide, if_true, show (nI 3 = (3 : Int32)) = True by decide, p1', show (nI 3 = (0 : Int32)) = False by decide, if_false, tm, tr, st]
  · obtain ⟨M1, p1, h1⟩ := zs_settle hL (r := 4) (by decide) (by decide) hk h
    have p1' : f_X8_settle M 81 (nI 3 + (1 : Int32)) = some M1 := p1
    have tm := zk_topT hL h1
    have tr : f_X8_rankOf M1 (nI (z_tk (z_gS 4 fr s).1)) = some (nI (z_rk (z_tk (z_gS 4 fr s).1))) := zk_rankOf (by have := z_kk_tk (z_kk_gS 4 fr s hk); omega)
    have hr3 : z_rk (z_tk (z_gS 4 fr s).1) < 10 := by
      unfold z_rk
      repeat' split
      all_goals omega
    have q : (nI (z_rk (z_tk (z_gS 4 fr s).1)) = (3 : Int32)) = False := by
      rw [show (3 : Int32) = nI 3 from rfl, z_nI_in (by omega) (by decide)]
      exact eq_false ht
    obtain ⟨M2, p2, h2⟩ := zs_join hL (show 0 < z_rk k by omega) h1 (hlen 4)
    refine ⟨_, ?_, h2⟩
    simp only [f_X8_readJoin, f_X8_readJoin_b25, zob_81 hM, er, h3, Option.bind_some, show ((0 : Int32) < nI 3) = True by decide, if_true, show (nI 3 = (3 : Int32)) = True by decide, p1', show (nI 3 = (0 : Int32)) = False by decide, if_false, tm, tr, q, p2]
  · obtain ⟨M1, p1, h1⟩ := zs_settle hL (r := z_rk k) (by omega) hrk hk h
    obtain ⟨M2, p2, h2⟩ := zs_join hL (show 0 < z_rk k by omega) h1 (hlen _)
    have c1 : ((0 : Int32) < nI (z_rk k)) = True := eq_true (nI_lt (a := 0) (by omega) (by omega))
    have c2 : (nI (z_rk k) = (3 : Int32)) = False := by
      rw [show (3 : Int32) = nI 3 from rfl, z_nI_in (by omega) (by decide)]
      exact eq_false h3
    have c3 : (nI (z_rk k) = (0 : Int32)) = False := by
      rw [show (0 : Int32) = nI 0 from rfl, z_nI_in (by omega) (by decide)]
      exact eq_false h0
    refine ⟨_, ?_, h2⟩
    simp only [f_X8_readJoin, f_X8_readJoin_b25, zob_81 hM, er, Option.bind_some, c1, if_true, c2, c3, if_false, p1, p2]
theorem zq_read (hT : z_tx0 ν Mb len c) : ∀ (n i nx fu : Nat) (fr : List z_Fr) (M0 M : q_Mem), z_kp Mb M0 → i ≤ len → len < i + n → nx ≤ i → len < i + fu → z_kk fr → q_I M0 81 8 = nI (z_opn fr) → q_I M0 81 11 = -1 →
    (q_I M0 81 10 = 1 → z_wt fr ≤ i → z_CR ν M0 M fr → ∃ M', f_X8_read_b44 81 fu (nI nx) (nI i) M = some ((z_gP len c n i fr none).1, M') ∧ z_res ν Mb M' (z_gP len c n i fr none)) ∧
    (∀ s, q_I M0 81 10 = 0 → z_wt fr + 1 ≤ i → z_CT ν M0 M fr s → ∃ M', f_X8_read_b44 81 fu (nI nx) (nI i) M = some ((z_gP len c n i fr (some s)).1, M') ∧ z_res ν Mb M' (z_gP len c n i fr (some s))) := by
  have h60 := hT.2.1
  intro n
  induction n with
  | zero =>
    intro i nx fu fr M0 M hkp hi hn
    omega
  | succ n ih =>
    intro i nx fu fr M0 M hkp hi hn hnx hfu hkk h8 h11
    obtain ⟨g, rfl⟩ : ∃ g, fu = g + 1 := ⟨fu - 1, by omega⟩
    have hL0 := hkp.1.lay hT.1
    have cnx : (nI i < nI nx) = False := eq_false (nI_nlt hnx (by omega))
    constructor
    · intro h10 hw h
      have hM := h.lay hL0
      have f11 : q_I M 81 11 = -1 := by rw [h.2.2.1 11 (by unfold z_rf; omega)]; exact h11
      have f10 : q_I M 81 10 = 1 := by rw [h.2.2.1 10 (by unfold z_rf; omega)]; exact h10
      have n10 : ((1 : Int32) = 0) = False := by decide
      by_cases hlt : i < len
      · have c1 : (nI i < nI len) = True := eq_true (nI_lt hlt (by omega))
        have hc := (hT.2.2.2.1 i hlt).2
        have sg := zk_signAt hT hkp h hlt
        have q : ∀ (j : Nat) (x : Int32), j < 128 → x = nI j → ((nI (c i) = x) = (c i = j)) := fun j x hj hx => by rw [hx]; exact z_nI_in (by omega) (by omega)
        have q32 := q 32 32 (by decide) rfl
        have q33 := q 33 33 (by decide) rfl
        have q45 := q 45 45 (by decide) rfl
        have q40 := q 40 40 (by decide) rfl
        by_cases k32 : c i = 32
        · have eg : z_gP len c (n + 1) i fr none = z_gP len c n (i + 1) fr none := by rw [z_gP.eq_2, if_pos hlt, if_pos k32]
          rw [eg]
          obtain ⟨M', r1, r2⟩ := (ih (i + 1) nx g fr M0 M hkp (by omega) (by omega) (by omega) (by omega) hkk h8 h11).1 h10 (by omega) h
          refine ⟨M', ?_, r2⟩
          have k32' := eq_true k32
          simp only [f_X8_read_b44.eq_2, zo_81 hM, zk_len hT hkp h, Option.bind_some, c1, if_true, f11, sg, cnx, if_false, q32, k32', ← nI_succ, r1]
        · have k32' := eq_false k32
          by_cases kd : 48 ≤ c i ∧ c i ≤ 57
          · have dq : (q_b (48 ≤ c i ∧ c i ≤ 57) = 0) = False := eq_false (fun z => (q_b0.mp z) kd)
            have nb := zk_number hT hkp h i len i 0 q_fuel hi (by omega) (by unfold q_fuel; omega)
            have nle := z_nd_le len c len i 0 hi
            have nlt : i < (z_nd c len len i 0).1 := by
              have : len = (len - 1) + 1 := by omega
              rw [this] at hlt ⊢
              exact z_nd_lt hlt kd
            have rn : f_X8_readNumber M 81 (nI i) = f_X8_readNumber_b59 M 81 (nI i) (Int64.ofNat (z_nd c len len i 0).2) (nI (z_nd c len len i 0).1) := by
              unfold f_X8_readNumber
              rw [zob_81 hM]; exact nb
            have es := z_subN (a := i) (b := (z_nd c len len i 0).1) (by omega) (by omega)
            by_cases k6 : 6 < (z_nd c len len i 0).1 - i
            · have eg : z_gP len c (n + 1) i fr none = (nI (10 * i + 2), z_no2) := by rw [z_gP.eq_2, if_pos hlt, if_neg k32, if_pos kd, if_pos k6]
              rw [eg]
              obtain ⟨g', rfl⟩ : ∃ g', g = g' + 1 := ⟨g - 1, by omega⟩
              have c6 : ((6 : Int32) < nI ((z_nd c len len i 0).1 - i)) = True := eq_true (nI_lt (a := 6) k6 (by omega))
              have st : f_X8_stop M 81 (nI i) (2 : Int32) = some (q_sI M 81 11 (nI (10 * i + 2))) := zk_stop (k := 2) hL0 h
              obtain ⟨r1, r2⟩ := zk_fault (i := i) (k := 2) (nx := nI (z_nd c len len i 0).1) (j := nI (i + 1)) (fu := g') hkp hT.1 h (by omega)
              refine ⟨_, ?_, z_res_f r2 (by omega)⟩
              rw [f_X8_read_b44.eq_2]
              simp only [zo_81 hM, zk_len hT hkp h, Option.bind_some, c1, if_true, f11, sg, cnx, if_false, q32, k32', f10, n10, zk_isDigit hc, dq, rn, f_X8_readNumber_b59, es, c6, st, ← nI_succ, r1]
            · have eg : z_gP len c (n + 1) i fr none = z_gP len c n (z_nd c len len i 0).1 (z_gU fr (z_sNum (Int64.ofNat (z_nd c len len i 0).2))).1 (some (z_gU fr (z_sNum (Int64.ofNat (z_nd c len len i 0).2))).2) := by rw [z_gP.eq_2, if_pos hlt, if_neg k32, if_pos kd, if_neg k6]
              rw [eg]
              have c6 : ((6 : Int32) < nI ((z_nd c len len i 0).1 - i)) = False := eq_false (nI_nlt (a := 6) (by omega) (by omega))
              have hv : (z_vs ν fr).length < 60 := by have := z_room ν fr; omega
              obtain ⟨M1, p1, h1⟩ := zs_endUnit hL0 hkk (z_CU_of (s := z_sNum (Int64.ofNat (z_nd c len len i 0).2)) rfl h) hv
              have p1' : f_X8_endUnit M 81 (Int64.ofNat (z_nd c len len i 0).2) = some M1 := p1
              have hkp1 := hkp.set (f := 10) (v := 0) (Or.inr (Or.inl rfl))
              have h81 : q_I (q_sI M0 81 10 0) 81 8 = nI (z_opn (z_gU fr (z_sNum (Int64.ofNat (z_nd c len len i 0).2))).1) := by rw [z_I_sI, if_neg (by omega), z_opn_gU]; exact h8
              have h111 : q_I (q_sI M0 81 10 0) 81 11 = -1 := by rw [z_I_sI, if_neg (by omega)]; exact h11
              have hw1 := z_gU_wt fr (z_sNum (Int64.ofNat (z_nd c len len i 0).2))
              have hkk1 := z_kk_gU fr (z_sNum (Int64.ofNat (z_nd c len len i 0).2)) hkk
              have sk := zk_skip hT hkp1 h1 h111 (e := (z_nd c len len i 0).1) (by omega) ((z_nd c len len i 0).1 - (i + 1)) (i + 1) g (by omega) (by omega)
              obtain ⟨M', r1, r2⟩ := (ih (z_nd c len len i 0).1 (z_nd c len len i 0).1 (g - ((z_nd c len len i 0).1 - (i + 1))) _ _ M1 hkp1 (by omega) (by omega) (Nat.le_refl _) (by omega) hkk1 h81 h111).2 _ (by rw [z_I_sI, if_pos ⟨rfl, rfl⟩]) (by omega) h1
              refine ⟨M', ?_, r2⟩
              rw [f_X8_read_b44.eq_2]
              simp only [zo_81 hM, zk_len hT hkp h, Option.bind_some, c1, if_true, f11, sg, cnx, if_false, q32, k32', f10, n10, zk_isDigit hc, dq, rn, f_X8_readNumber_b59, es, c6, p1', ← nI_succ, sk, r1]
          · have dq : (q_b (48 ≤ c i ∧ c i ≤ 57) = 0) = True := eq_true (q_b0.mpr kd)
            have hlen : fr.length < 60 := by have := z_room ν fr; omega
            -- what readUnit does, and on
            have go : ∀ M1, f_X8_readUnit M 81 (nI i) (nI (c i)) = some M1 → f_X8_read_b44 81 (g + 1) (nI nx) (nI i) M = f_X8_read_b44 81 g (nI nx) (nI (i + 1)) M1 := by
              intro M1 hu
              rw [f_X8_read_b44.eq_2]
              simp only [f_X8_read_b103, zo_81 hM, zk_len hT hkp h, Option.bind_some, c1, if_true, f11, sg, cnx, if_false, q32, k32', f10, n10, zk_isDigit hc, dq, hu, ← nI_succ]
            by_cases k33 : c i = 33
            · have eg : z_gP len c (n + 1) i fr none = z_gP len c n (i + 1) ((33, z_no2, z_no2) :: fr) none := by rw [z_gP.eq_2, if_pos hlt, if_neg k32, if_neg kd, if_pos k33]
              rw [eg]
              obtain ⟨M1, p1, h1⟩ := zs_mark (k := 33) hL0 (Or.inl rfl) h hlen
              have p1' : f_X8_pushMark M 81 (33 : Int32) (0 : Int32) = some M1 := p1
              obtain ⟨M', r1, r2⟩ := (ih (i + 1) nx g ((33, z_no2, z_no2) :: fr) M0 M1 hkp (by omega) (by omega) (by omega) (by omega) ⟨⟨by decide, by decide, fun _ _ _ => rfl⟩, hkk⟩ (by rw [h8]; exact congrArg nI (Nat.zero_add _).symm) h11).1 h10 (by show 1 + z_wt fr ≤ i + 1; omega) h1
              refine ⟨M', (go M1 ?_).trans r1, r2⟩
              have k33' := eq_true k33
              simp only [f_X8_readUnit, zob_81 hM, q33, k33', if_true, p1', Option.bind_some]
            · have k33' := eq_false k33
              by_cases k45 : c i = 45
              · have eg : z_gP len c (n + 1) i fr none = z_gP len c n (i + 1) ((128, z_no2, z_no2) :: fr) none := by rw [z_gP.eq_2, if_pos hlt, if_neg k32, if_neg kd, if_neg k33, if_pos k45]
                rw [eg]
                obtain ⟨M1, p1, h1⟩ := zs_mark (k := 128) hL0 (Or.inr (Or.inl rfl)) h hlen
                have p1' : f_X8_pushMark M 81 (128 : Int32) (0 : Int32) = some M1 := p1
                obtain ⟨M', r1, r2⟩ := (ih (i + 1) nx g ((128, z_no2, z_no2) :: fr) M0 M1 hkp (by omega) (by omega) (by omega) (by omega) ⟨⟨by decide, by decide, fun _ _ _ => rfl⟩, hkk⟩ (by rw [h8]; exact congrArg nI (Nat.zero_add _).symm) h11).1 h10 (by show 1 + z_wt fr ≤ i + 1; omega) h1
                refine ⟨M', (go M1 ?_).trans r1, r2⟩
                have k45' := eq_true k45
                simp only [f_X8_readUnit, zob_81 hM, q33, k33', q45, k45', if_true, if_false, p1', Option.bind_some]
              · have k45' := eq_false k45
                have f8 : q_I M 81 8 = nI (z_opn fr) := by rw [h.2.2.1 8 (by unfold z_rf; omega)]; exact h8
                have hopn : z_opn fr ≤ fr.length := by
                  have : ∀ l : List z_Fr, z_opn l ≤ l.length := by
                    intro l
                    induction l with
                    | nil => exact Nat.le_refl _
                    | cons f t iht =>
                      show (if f.1 = 40 then 1 else 0) + z_opn t ≤ t.length + 1
                      split <;> omega
                  exact this fr
                by_cases k40 : c i = 40
                · have k40' := eq_true k40
                  by_cases k8 : z_opn fr < 8
                  · have eg : z_gP len c (n + 1) i fr none = z_gP len c n (i + 1) ((40, z_no2, z_no2) :: fr) none := by rw [z_gP.eq_2, if_pos hlt, if_neg k32, if_neg kd, if_neg k33, if_neg k45, if_pos k40, if_pos k8]
                    rw [eg]
                    have h' : z_CR ν (q_sI M0 81 8 (nI (z_opn fr + 1))) (q_sI M 81 8 (nI (z_opn fr + 1))) fr := h.fld (f := 8) (by unfold z_rf; omega)
                    obtain ⟨M1, p1, h1⟩ := zs_mark (k := 40) (z_L1 hL0) (Or.inr (Or.inr rfl)) h' hlen
                    have p1' : f_X8_pushMark (q_sI M 81 8 (nI (z_opn fr + 1))) 81 (40 : Int32) (0 : Int32) = some M1 := p1
                    have c8 : (nI (z_opn fr) < (8 : Int32)) = True := eq_true (nI_lt (b := 8) k8 (by decide))
                    obtain ⟨M', r1, r2⟩ := (ih (i + 1) nx g ((40, z_no2, z_no2) :: fr) (q_sI M0 81 8 (nI (z_opn fr + 1))) M1 (hkp.set (Or.inl rfl)) (by omega) (by omega) (by omega) (by omega) ⟨⟨by decide, by decide, fun _ _ _ => rfl⟩, hkk⟩ (by rw [z_I_sI, if_pos ⟨rfl, rfl⟩, Nat.add_comm]; rfl) (by rw [z_I_sI, if_neg (by omega)]; exact h11)).1 (by rw [z_I_sI, if_neg (by omega)]; exact h10) (by show 1 + z_wt fr ≤ i + 1; omega) h1
                    refine ⟨M', (go M1 ?_).trans r1, r2⟩
                    simp only [f_X8_readUnit, f_X8_readUnit_b54, zob_81 hM, q33, k33', q45, k45', q40, k40', if_true, if_false, zo_81 hM, f8, c8, p1', Option.bind_some, ← nI_succ]
                  · have eg : z_gP len c (n + 1) i fr none = (nI (10 * i + 3), z_no2) := by rw [z_gP.eq_2, if_pos hlt, if_neg k32, if_neg kd, if_neg k33, if_neg k45, if_pos k40, if_neg k8]
                    rw [eg]
                    have st : f_X8_stop M 81 (nI i) (3 : Int32) = some (q_sI M 81 11 (nI (10 * i + 3))) := zk_stop (k := 3) hL0 h
                    have ha : z_CR ν (q_sI M0 81 11 (nI (10 * i + 3))) (q_sI M 81 11 (nI (10 * i + 3))) fr := h.fld (f := 11) (by unfold z_rf; omega)
                    have hb : z_CR ν (q_sI (q_sI M0 81 11 (nI (10 * i + 3))) 81 8 (nI (z_opn fr + 1))) (q_sI (q_sI M 81 11 (nI (10 * i + 3))) 81 8 (nI (z_opn fr + 1))) fr := ha.fld (f := 8) (by unfold z_rf; omega)
                    have hMa := ha.lay (z_L1 hL0)
                    obtain ⟨M1, p1, h1⟩ := zs_mark (k := 40) (z_L1 (z_L1 hL0)) (Or.inr (Or.inr rfl)) hb hlen
                    have p1' : f_X8_pushMark (q_sI (q_sI M 81 11 (nI (10 * i + 3))) 81 8 (nI (z_opn fr + 1))) 81 (40 : Int32) (0 : Int32) = some M1 := p1
                    have c8 : (nI (z_opn fr) < (8 : Int32)) = False := eq_false (nI_nlt (b := 8) (by omega) (by omega))
                    have f8a : q_I (q_sI M 81 11 (nI (10 * i + 3))) 81 8 = nI (z_opn fr) := by rw [z_I_sI, if_neg (by omega)]; exact f8
                    have hM1 := h1.lay (z_L1 (z_L1 hL0))
                    have f11b : q_I M1 81 11 = nI (10 * i + 3) := by
                      rw [h1.2.2.1 11 (by unfold z_rf; omega), z_I_sI, if_neg (by omega), z_I_sI, if_pos ⟨rfl, rfl⟩]
                    obtain ⟨g', rfl⟩ : ∃ g', g = g' + 1 := ⟨g - 1, by omega⟩
                    refine ⟨M1, (go M1 ?_).trans (zk_done hM1 f11b (z_nI_ne (by omega))), z_res_f (z_fin_of ((hkp.set (Or.inr (Or.inr rfl))).set (Or.inl rfl)) h1) (by omega)⟩
                    simp only [f_X8_readUnit, f_X8_readUnit_b54, zob_81 hM, q33, k33', q45, k45', q40, k40', if_true, if_false, zo_81 hM, f8, c8, st, zo_81 hMa, f8a, p1', Option.bind_some, ← nI_succ]
                · have k40' := eq_false k40
                  by_cases kn : z_nmOf (c i) < 8
                  · have eg : z_gP len c (n + 1) i fr none = z_gP len c n (i + 1) (z_gU fr (z_sName (z_nmOf (c i)))).1 (some (z_gU fr (z_sName (z_nmOf (c i)))).2) := by rw [z_gP.eq_2, if_pos hlt, if_neg k32, if_neg kd, if_neg k33, if_neg k45, if_neg k40, if_pos kn]
                    rw [eg]
                    have hv : (z_vs ν fr).length < 60 := by have := z_room ν fr; omega
                    obtain ⟨M1, p1, h1⟩ := zs_endUnit hL0 hkk (z_CU_of (s := z_sName (z_nmOf (c i))) rfl h) hv
                    have p1' : f_X8_endUnit M 81 (ν (z_nmOf (c i))) = some M1 := p1
                    have hkp1 := hkp.set (f := 10) (v := 0) (Or.inr (Or.inl rfl))
                    have hw1 := z_gU_wt fr (z_sName (z_nmOf (c i)))
                    have hkk1 := z_kk_gU fr (z_sName (z_nmOf (c i))) hkk
                    obtain ⟨M', r1, r2⟩ := (ih (i + 1) nx g (z_gU fr (z_sName (z_nmOf (c i)))).1 (q_sI M0 81 10 0) M1 hkp1 (by omega) (by omega) (by omega) (by omega) hkk1 (by rw [z_I_sI, if_neg (by omega), z_opn_gU]; exact h8) (by rw [z_I_sI, if_neg (by omega)]; exact h11)).2 _ (by rw [z_I_sI, if_pos ⟨rfl, rfl⟩]) (by omega) h1
                    refine ⟨M', (go M1 ?_).trans r1, r2⟩
                    have nm : f_X8_nameOf M (nI (c i)) = some (nI (z_nmOf (c i))) := by rw [zk_nameOf hc, if_pos kn]
                    have c0 : (nI (z_nmOf (c i)) < 0) = False := eq_false (nI_pos (by omega))
                    have c8 : (nI (z_nmOf (c i)) < nI 8) = True := eq_true (nI_lt kn (by decide))
                    simp only [f_X8_readUnit, zob_81 hM, q33, k33', q45, k45', q40, k40', if_false, nm, c0, zo_81 hM, (za_83 hM).1, c8, if_true, zk_name hT hkp h kn, p1', Option.bind_some]
                  · have eg : z_gP len c (n + 1) i fr none = (nI (10 * i + 1), z_no2) := by rw [z_gP.eq_2, if_pos hlt, if_neg k32, if_neg kd, if_neg k33, if_neg k45, if_neg k40, if_neg kn]
                    rw [eg]
                    obtain ⟨g', rfl⟩ : ∃ g', g = g' + 1 := ⟨g - 1, by omega⟩
                    have st : f_X8_stop M 81 (nI i) (1 : Int32) = some (q_sI M 81 11 (nI (10 * i + 1))) := zk_stop (k := 1) hL0 h
                    obtain ⟨r1, r2⟩ := zk_fault (i := i) (k := 1) (nx := nI nx) (j := nI (i + 1)) (fu := g') hkp hT.1 h (by omega)
                    refine ⟨_, (go _ ?_).trans r1, z_res_f r2 (by omega)⟩
                    have nm : f_X8_nameOf M (nI (c i)) = some (-1) := by rw [zk_nameOf hc, if_neg kn]
                    simp only [f_X8_readUnit, f_X8_readUnit_b92, zob_81 hM, q33, k33', q45, k45', q40, k40', if_false, nm, show ((-1 : Int32) < 0) = True by decide, if_true, st, Option.bind_some]
      · obtain rfl : i = len := by omega
        have eg : z_gP i c (n + 1) i fr none = (nI (10 * i + 1), z_no2) := by rw [z_gP.eq_2, if_neg hlt]
        rw [eg]
        have c1 : (nI i < nI i) = False := eq_false (nI_nlt (Nat.le_refl _) (by omega))
        have st : f_X8_stop M 81 (nI i) (1 : Int32) = some (q_sI M 81 11 (nI (10 * i + 1))) := zk_stop (k := 1) hL0 h
        refine ⟨q_sI M 81 11 (nI (10 * i + 1)), ?_, z_res_f (z_fin_of (hkp.set (Or.inr (Or.inr rfl))) (h.fld (f := 11) (by unfold z_rf; omega))) (by omega)⟩
        simp only [f_X8_read_b44.eq_2, f_X8_read_b172, f_X8_readEnd, f_X8_readEnd_b11, f_X8_readEnd_b25, zob_81 hM, zo_81 hM, zk_len hT hkp h, Option.bind_some, c1, if_false, f11, if_true, f10, n10, st, zo_81 (z_L1 hM), z_I_sI, and_self]
    · intro s h10 hw h
      have hM := h.lay hL0
      have f11 : q_I M 81 11 = -1 := by rw [h.2.2.1 11 (by unfold z_rf; omega)]; exact h11
      have f10 : q_I M 81 10 = 0 := by rw [h.2.2.1 10 (by unfold z_rf; omega)]; exact h10
      by_cases hlt : i < len
      · have c1 : (nI i < nI len) = True := eq_true (nI_lt hlt (by omega))
        have hc := (hT.2.2.2.1 i hlt).2
        have sg := zk_signAt hT hkp h hlt
        have q : ∀ (j : Nat) (x : Int32), j < 128 → x = nI j → ((nI (c i) = x) = (c i = j)) := fun j x hj hx => by rw [hx]; exact z_nI_in (by omega) (by omega)
        have q32 := q 32 32 (by decide) rfl
        have q63 := q 63 63 (by decide) rfl
        have q58 := q 58 58 (by decide) rfl
        have q41 := q 41 41 (by decide) rfl
        have hkp1 := hkp.set (f := 10) (v := 1) (Or.inr (Or.inl rfl))
        have h101 : q_I (q_sI M0 81 10 1) 81 10 = 1 := by rw [z_I_sI, if_pos ⟨rfl, rfl⟩]
        have h111 : q_I (q_sI M0 81 10 1) 81 11 = -1 := by rw [z_I_sI, if_neg (by omega)]; exact h11
        have h81 : q_I (q_sI M0 81 10 1) 81 8 = nI (z_opn fr) := by rw [z_I_sI, if_neg (by omega)]; exact h8
        by_cases k32 : c i = 32
        · have eg : z_gP len c (n + 1) i fr (some s) = z_gP len c n (i + 1) fr (some s) := by rw [z_gP.eq_3, if_pos hlt, if_pos k32]
          rw [eg]
          obtain ⟨M', r1, r2⟩ := (ih (i + 1) nx g fr M0 M hkp (by omega) (by omega) (by omega) (by omega) hkk h8 h11).2 s h10 (by omega) h
          refine ⟨M', ?_, r2⟩
          have k32' := eq_true k32
          simp only [f_X8_read_b44.eq_2, zo_81 hM, zk_len hT hkp h, Option.bind_some, c1, if_true, f11, sg, cnx, if_false, q32, k32', ← nI_succ, r1]
        · have k32' := eq_false k32
          by_cases k63 : c i = 63
          · have k63' := eq_true k63
            have eg : z_gP len c (n + 1) i fr (some s) = z_gP len c n (i + 1) ((63, (z_gS 1 fr s).2, z_no2) :: (z_gS 1 fr s).1) none := by rw [z_gP.eq_3, if_pos hlt, if_neg k32, if_pos k63]
            rw [eg]
            obtain ⟨M1, p1, h1⟩ := zs_question hL0 hkk h (by omega)
            have hwS := z_gS_wt 1 fr s
            obtain ⟨M', r1, r2⟩ := (ih (i + 1) nx g ((63, (z_gS 1 fr s).2, z_no2) :: (z_gS 1 fr s).1) _ M1 hkp1 (by omega) (by omega) (by omega) (by omega) ⟨⟨(by decide : 63 < 129), (by decide : 63 ≠ 0), fun _ _ z => absurd rfl z⟩, z_kk_gS 1 fr s hkk⟩ (by rw [h81, ← z_opn_gS 1 (by decide) fr s]; exact congrArg nI (Nat.zero_add _).symm) h111).1 h101 (by show 1 + z_wt (z_gS 1 fr s).1 ≤ i + 1; omega) h1
            refine ⟨M', ?_, r2⟩
            rw [f_X8_read_b44.eq_2]
            simp only [f_X8_read_b103, zo_81 hM, zk_len hT hkp h, Option.bind_some, c1, if_true, f11, sg, cnx, if_false, q32, k32', f10, q63, k63', p1, ← nI_succ, r1]
          · have k63' := eq_false k63
            by_cases k58 : c i = 58
            · have k58' := eq_true k58
              obtain ⟨e1, e2⟩ := zs_else (i := i) hL0 hkk h (by omega)
              by_cases kt : z_tk (z_gE fr s).1 = 63
              · have eg : z_gP len c (n + 1) i fr (some s) = z_gP len c n (i + 1) ((58, ((z_gE fr s).1.headD (0, z_no2, z_no2)).2.1, (z_gE fr s).2) :: (z_gE fr s).1.tail) none := by rw [z_gP.eq_3, if_pos hlt, if_neg k32, if_neg k63, if_pos k58, if_pos kt]
                rw [eg]
                obtain ⟨M1, p1, h1⟩ := e1 kt
                have hwE := z_gE_wt fr s
                have hkE := z_kk_gE fr s hkk
                have hoE := z_opn_gE fr s
                have htl : z_wt (z_gE fr s).1.tail + 1 ≤ z_wt (z_gE fr s).1 ∧ z_kk (z_gE fr s).1.tail ∧ z_opn (z_gE fr s).1.tail = z_opn (z_gE fr s).1 := by
                  obtain ⟨a, b, t, e⟩ := z_tk_ne kt (by decide)
                  rw [e] at hkE ⊢
                  refine ⟨?_, hkE.2, ?_⟩
                  · show z_wt t + 1 ≤ 1 + z_wt t
                    omega
                  · show z_opn t = 0 + z_opn t
                    rw [Nat.zero_add]
                obtain ⟨M', r1, r2⟩ := (ih (i + 1) nx g ((58, ((z_gE fr s).1.headD (0, z_no2, z_no2)).2.1, (z_gE fr s).2) :: (z_gE fr s).1.tail) _ M1 hkp1 (by omega) (by omega) (by omega) (by omega) ⟨⟨(by decide : 58 < 129), (by decide : 58 ≠ 0), fun _ z => absurd rfl z⟩, htl.2.1⟩ (by rw [h81, ← hoE, ← htl.2.2]; exact congrArg nI (Nat.zero_add _).symm) h111).1 h101 (by show 2 + z_wt (z_gE fr s).1.tail ≤ i + 1; omega) h1
                refine ⟨M', ?_, r2⟩
                rw [f_X8_read_b44.eq_2]
                simp only [f_X8_read_b103, zo_81 hM, zk_len hT hkp h, Option.bind_some, c1, if_true, f11, sg, cnx, if_false, q32, k32', f10, q63, k63', q58, k58', p1, ← nI_succ, r1]
              · have eg : z_gP len c (n + 1) i fr (some s) = (nI (10 * i + 1), z_no2) := by rw [z_gP.eq_3, if_pos hlt, if_neg k32, if_neg k63, if_pos k58, if_neg kt]
                rw [eg]
                obtain ⟨M1, h1, p1⟩ := e2 kt
                obtain ⟨g', rfl⟩ : ∃ g', g = g' + 1 := ⟨g - 1, by omega⟩
                obtain ⟨r1, r2⟩ := zk_fault (i := i) (k := 1) (nx := nI nx) (j := nI (i + 1)) (fu := g') hkp hT.1 h1 (by omega)
                refine ⟨_, ?_, z_res_f r2 (by omega)⟩
                rw [f_X8_read_b44.eq_2]
                simp only [f_X8_read_b103, zo_81 hM, zk_len hT hkp h, Option.bind_some, c1, if_true, f11, sg, cnx, if_false, q32, k32', f10, q63, k63', q58, k58', p1, ← nI_succ, r1]
            · have k58' := eq_false k58
              by_cases k41 : c i = 41
              · have k41' := eq_true k41
                obtain ⟨e1, e2⟩ := zs_close (i := i) hL0 hkk h (by omega) h8 (z_opn_gE fr s)
                by_cases kt : z_tk (z_gE fr s).1 = 40
                · have eg : z_gP len c (n + 1) i fr (some s) = z_gP len c n (i + 1) (z_gU (z_gE fr s).1.tail (z_gE fr s).2).1 (some (z_gU (z_gE fr s).1.tail (z_gE fr s).2).2) := by rw [z_gP.eq_3, if_pos hlt, if_neg k32, if_neg k63, if_neg k58, if_pos k41, if_pos kt]
                  rw [eg]
                  obtain ⟨M1, p1, h1⟩ := e1 kt
                  have hwE := z_gE_wt fr s
                  have hkE := z_kk_gE fr s hkk
                  have htl : z_wt (z_gE fr s).1.tail + 1 ≤ z_wt (z_gE fr s).1 ∧ z_kk (z_gE fr s).1.tail := by
                    obtain ⟨a, b, t, e⟩ := z_tk_ne kt (by decide)
                    rw [e] at hkE ⊢
                    refine ⟨?_, hkE.2⟩
                    show z_wt t + 1 ≤ 1 + z_wt t
                    omega
                  have hwU := z_gU_wt (z_gE fr s).1.tail (z_gE fr s).2
                  obtain ⟨M', r1, r2⟩ := (ih (i + 1) nx g (z_gU (z_gE fr s).1.tail (z_gE fr s).2).1 _ M1 ((hkp.set (Or.inl rfl)).set (Or.inr (Or.inl rfl))) (by omega) (by omega) (by omega) (by omega) (z_kk_gU _ _ htl.2) (by rw [z_I_sI, if_neg (by omega), z_I_sI, if_pos ⟨rfl, rfl⟩, z_opn_gU]) (by rw [z_I_sI, if_neg (by omega), z_I_sI, if_neg (by omega)]; exact h11)).2 _ (by rw [z_I_sI, if_pos ⟨rfl, rfl⟩]) (by omega) h1
                  refine ⟨M', ?_, r2⟩
                  rw [f_X8_read_b44.eq_2]
                  simp only [f_X8_read_b103, zo_81 hM, zk_len hT hkp h, Option.bind_some, c1, if_true, f11, sg, cnx, if_false, q32, k32', f10, q63, k63', q58, k58', q41, k41', p1, ← nI_succ, r1]
                · have eg : z_gP len c (n + 1) i fr (some s) = (nI (10 * i + 1), z_no2) := by rw [z_gP.eq_3, if_pos hlt, if_neg k32, if_neg k63, if_neg k58, if_pos k41, if_neg kt]
                  rw [eg]
                  obtain ⟨M1, h1, p1⟩ := e2 kt
                  obtain ⟨g', rfl⟩ : ∃ g', g = g' + 1 := ⟨g - 1, by omega⟩
                  obtain ⟨r1, r2⟩ := zk_fault (i := i) (k := 1) (nx := nI nx) (j := nI (i + 1)) (fu := g') hkp hT.1 h1 (by omega)
                  refine ⟨_, ?_, z_res_f r2 (by omega)⟩
                  rw [f_X8_read_b44.eq_2]
                  simp only [f_X8_read_b103, zo_81 hM, zk_len hT hkp h, Option.bind_some, c1, if_true, f11, sg, cnx, if_false, q32, k32', f10, q63, k63', q58, k58', q41, k41', p1, ← nI_succ, r1]
              · have k41' := eq_false k41
                obtain ⟨e1, e2, e3, e4⟩ := zs_joinAll (i := i) hL0 hkk h (by omega) hc
                have go : ∀ M1, f_X8_readJoin M 81 (nI i) (nI (c i)) = some M1 → f_X8_read_b44 81 (g + 1) (nI nx) (nI i) M = f_X8_read_b44 81 g (nI nx) (nI (i + 1)) M1 := by
                  intro M1 hu
                  rw [f_X8_read_b44.eq_2]
                  simp only [f_X8_read_b103, zo_81 hM, zk_len hT hkp h, Option.bind_some, c1, if_true, f11, sg, cnx, if_false, q32, k32', f10, q63, k63', q58, k58', q41, k41', hu, ← nI_succ]
                have kkN : ∀ r, z_rk (c i) ≠ 0 → 0 < r → (z_kk ((c i, (z_gS r fr s).2, z_no2) :: (z_gS r fr s).1) ∧ z_wt ((c i, (z_gS r fr s).2, z_no2) :: (z_gS r fr s).1) ≤ i + 1 ∧ z_opn ((c i, (z_gS r fr s).2, z_no2) :: (z_gS r fr s).1) = z_opn fr) := fun r h0 hr0 => by
                  have hp : 0 < z_rk (c i) := by omega
                  have hne : c i ≠ 0 ∧ c i ≠ 40 := by
                    rcases z_rk_pos hp with z | z | z | z | z | z | z | z | z <;> omega
                  refine ⟨⟨⟨(show c i < 129 by omega), hne.1, fun z => absurd z h0⟩, z_kk_gS r fr s hkk⟩, ?_, ?_⟩
                  · show (if 0 < z_rk (c i) then 2 else if c i = 58 then 2 else 1) + z_wt (z_gS r fr s).1 ≤ i + 1
                    rw [if_pos hp]
                    have := z_gS_wt r fr s
                    omega
                  · show (if c i = 40 then 1 else 0) + z_opn (z_gS r fr s).1 = _
                    rw [if_neg hne.2, Nat.zero_add]
                    exact z_opn_gS r hr0 fr s
                by_cases k0 : z_rk (c i) = 0
                · have eg : z_gP len c (n + 1) i fr (some s) = (nI (10 * i + 1), z_no2) := by rw [z_gP.eq_3, if_pos hlt, if_neg k32, if_neg k63, if_neg k58, if_neg k41, if_pos k0]
                  rw [eg]
                  obtain ⟨g', rfl⟩ : ∃ g', g = g' + 1 := ⟨g - 1, by omega⟩
                  obtain ⟨r1, r2⟩ := zk_fault (i := i) (k := 1) (nx := nI nx) (j := nI (i + 1)) (fu := g') hkp hT.1 h (by omega)
                  exact ⟨_, (go _ (e1 k0)).trans r1, z_res_f r2 (by omega)⟩
                · by_cases k3 : z_rk (c i) = 3
                  · by_cases kt : z_rk (z_tk (z_gS 4 fr s).1) = 3
                    · have eg : z_gP len c (n + 1) i fr (some s) = (nI (10 * i + 1), z_no2) := by rw [z_gP.eq_3, if_pos hlt, if_neg k32, if_neg k63, if_neg k58, if_neg k41, if_neg k0, if_pos k3, if_pos kt]
                      rw [eg]
                      obtain ⟨M1, h1, p1⟩ := e2 k3 kt
                      obtain ⟨g', rfl⟩ : ∃ g', g = g' + 1 := ⟨g - 1, by omega⟩
                      obtain ⟨r1, r2⟩ := zk_fault (i := i) (k := 1) (nx := nI nx) (j := nI (i + 1)) (fu := g') hkp hT.1 h1 (by omega)
                      exact ⟨_, (go _ p1).trans r1, z_res_f r2 (by omega)⟩
                    · have eg : z_gP len c (n + 1) i fr (some s) = z_gP len c n (i + 1) ((c i, (z_gS 4 fr s).2, z_no2) :: (z_gS 4 fr s).1) none := by rw [z_gP.eq_3, if_pos hlt, if_neg k32, if_neg k63, if_neg k58, if_neg k41, if_neg k0, if_pos k3, if_neg kt]
                      rw [eg]
                      obtain ⟨M1, p1, h1⟩ := e3 k3 kt
                      obtain ⟨u1, u2, u3⟩ := kkN 4 k0 (by decide)
                      obtain ⟨M', r1, r2⟩ := (ih (i + 1) nx g _ _ M1 hkp1 (by omega) (by omega) (by omega) (by omega) u1 (by rw [u3]; exact h81) h111).1 h101 u2 h1
                      exact ⟨M', (go _ p1).trans r1, r2⟩
                  · have eg : z_gP len c (n + 1) i fr (some s) = z_gP len c n (i + 1) ((c i, (z_gS (z_rk (c i)) fr s).2, z_no2) :: (z_gS (z_rk (c i)) fr s).1) none := by rw [z_gP.eq_3, if_pos hlt, if_neg k32, if_neg k63, if_neg k58, if_neg k41, if_neg k0, if_neg k3]
                    rw [eg]
                    obtain ⟨M1, p1, h1⟩ := e4 k0 k3
                    obtain ⟨u1, u2, u3⟩ := kkN (z_rk (c i)) k0 (by omega)
                    obtain ⟨M', r1, r2⟩ := (ih (i + 1) nx g _ _ M1 hkp1 (by omega) (by omega) (by omega) (by omega) u1 (by rw [u3]; exact h81) h111).1 h101 u2 h1
                    exact ⟨M', (go _ p1).trans r1, r2⟩
      · obtain rfl : i = len := by omega
        have c1 : (nI i < nI i) = False := eq_false (nI_nlt (Nat.le_refl _) (by omega))
        obtain ⟨M1, p1, h1⟩ := zs_endChoices hL0 hkk h
        have hM1 := h1.lay hL0
        have hkE := z_kk_gE fr s hkk
        have tk := z_tk0 hkE
        have g10 : q_I M1 81 10 = 0 := by rw [h1.2.2.1 10 (by unfold z_rf; omega)]; exact h10
        have g7 : q_I M1 81 7 = nI (z_ms ν (z_gE fr s).1).length := h1.2.2.2.2.2.2.2.1
        rw [z_ms_len] at g7
        have hl60 := z_flen h1
        by_cases kt : z_tk (z_gE fr s).1 = 0
        · have eg : z_gP i c (n + 1) i fr (some s) = (-1, (z_gE fr s).2) := by rw [z_gP.eq_3, if_neg hlt, if_pos kt]
          rw [eg]
          have hnil : (z_gE fr s).1 = [] := by rw [← tk]; exact kt
          rw [hnil] at h1 g7
          obtain ⟨M2, p2, h2⟩ := zk_popValue hL0 h1
          have hM2 := h2.lay hL0
          have f112 : q_I M2 81 11 = -1 := by rw [h2.2.2.1 11 (by unfold z_rf; omega)]; exact h11
          refine ⟨q_sJ M2 81 13 ((z_gE fr s).2 ν).1, ?_, ?_, fun _ => ⟨?_, z_J_sJ2⟩⟩
          · simp only [f_X8_read_b44.eq_2, f_X8_read_b172, f_X8_readEnd, f_X8_readEnd_b11, zob_81 hM, zo_81 hM, zk_len hT hkp h, Option.bind_some, c1, if_false, f11, if_true, f10, p1, zo_81 hM1, g10, g7, List.length_nil, show ((0 : Int32) < nI 0) = False by decide, p2, zo_81 hM2, zo_81 (z_L2 hM2), z_I_sJ, f112]
          · have ff := z_fin_of hkp h2
            refine ⟨⟨ff.1.1, ff.1.2.1, ff.1.2.2⟩, ff.2.1, ff.2.2.1, fun a h3 h4 => ?_⟩
            have e : q_J (q_sJ M2 81 13 ((z_gE fr s).2 ν).1) a = q_J M2 a := by
              funext j
              show (if a = 81 ∧ j = 13 then _ else q_J M2 a j) = _
              rw [if_neg (fun z => h3 z.1)]
            rw [e]; exact ff.2.2.2 a h3 h4
          · have e12 := h2.2.2.2.2.2.2.2.2.2.2.2
            rw [z_I_sJ, e12]
            show z_bi (false || (if (0 : Nat) = 0 then ((z_gE fr s).2 ν).2 else false)) = _
            rw [if_pos rfl, Bool.false_or]
        · have eg : z_gP i c (n + 1) i fr (some s) = (nI (10 * i + 1), z_no2) := by rw [z_gP.eq_3, if_neg hlt, if_neg kt]
          rw [eg]
          have hne : 0 < (z_gE fr s).1.length := by
            rcases Nat.eq_zero_or_pos (z_gE fr s).1.length with z | z
            · exact absurd (by rw [tk]; exact List.length_eq_zero_iff.mp z) kt
            · exact z
          have c7 : ((0 : Int32) < nI (z_gE fr s).1.length) = True := eq_true (nI_lt (a := 0) hne (by omega))
          have st : f_X8_stop M1 81 (nI i) (1 : Int32) = some (q_sI M1 81 11 (nI (10 * i + 1))) := zk_stop (k := 1) hL0 h1
          refine ⟨q_sI M1 81 11 (nI (10 * i + 1)), ?_, z_res_f (z_fin_of (hkp.set (Or.inr (Or.inr rfl))) (h1.fld (f := 11) (by unfold z_rf; omega))) (by omega)⟩
          simp only [f_X8_read_b44.eq_2, f_X8_read_b172, f_X8_readEnd, f_X8_readEnd_b11, f_X8_readEnd_b25, zob_81 hM, zo_81 hM, zk_len hT hkp h, zk_len hT hkp h1, Option.bind_some, c1, if_false, f11, if_true, f10, p1, zo_81 hM1, g10, g7, c7, st, zo_81 (z_L1 hM1), z_I_sI, and_self]
/-- what read() tells -/
theorem zs_read (hT : z_tx0 ν Mb len c) : ∃ M', f_X8_read Mb 81 = some ((z_gP len c (len + 1) 0 [] none).1, M') ∧ z_res ν Mb M' (z_gP len c (len + 1) 0 [] none) := by
  have hL := hT.1
  have h60 := hT.2.1
  obtain ⟨M1, hM1⟩ : ∃ M1, M1 = q_sI (q_sI (q_sI (q_sI (q_sI (q_sI (q_sI Mb 81 4 0) 81 7 0) 81 8 0) 81 9 0) 81 10 1) 81 11 (-1)) 81 12 0 := ⟨_, rfl⟩
  have L1 : z_Lay M1 := by rw [hM1]; exact z_L1 (z_L1 (z_L1 (z_L1 (z_L1 (z_L1 (z_L1 hL))))))
  have rI : ∀ a, a ≠ 81 → q_I M1 a = q_I Mb a := fun a h => by rw [hM1, q_sI_ne h, q_sI_ne h, q_sI_ne h, q_sI_ne h, q_sI_ne h, q_sI_ne h, q_sI_ne h]
  have rf : ∀ f, q_I M1 81 f = if f = 12 then 0 else if f = 11 then -1 else if f = 10 then 1 else if f = 9 then 0 else if f = 8 then 0 else if f = 7 then 0 else if f = 4 then 0 else q_I Mb 81 f := fun f => by
    rw [hM1]
    simp only [z_I_sI, true_and]
  have rJ : q_J M1 = q_J Mb := by rw [hM1]; rfl
  have rF : z_FR Mb M1 := by rw [hM1]; exact ⟨rfl, rfl, rfl⟩
  have L2 : z_Lay (q_sJ M1 81 13 0) := z_L2 L1
  have rJ2 : ∀ a, a ≠ 81 → q_J (q_sJ M1 81 13 0) a = q_J Mb a := fun a ha => by
    funext j
    show (if a = 81 ∧ j = 13 then 0 else q_J M1 a j) = _
    rw [if_neg (fun z => ha z.1), rJ]
  have hT2 : z_tx0 ν (q_sJ M1 81 13 0) len c := by
    refine ⟨L2, h60, ?_, fun j hj => ?_, fun k hk => ?_⟩
    · rw [z_I_sJ, rf, if_neg (by decide), if_neg (by decide), if_neg (by decide), if_neg (by decide), if_neg (by decide), if_neg (by decide), if_neg (by decide)]; exact hT.2.2.1
    · rw [z_I_sJ, rI 82 (by decide)]; exact hT.2.2.2.1 j hj
    · rw [rJ2 83 (by decide)]; exact hT.2.2.2.2 k hk
  have e8 : q_I (q_sJ M1 81 13 0) 81 8 = 0 := by rw [z_I_sJ, rf]; rfl
  have e11 : q_I (q_sJ M1 81 13 0) 81 11 = -1 := by rw [z_I_sJ, rf]; rfl
  have e10 : q_I (q_sJ M1 81 13 0) 81 10 = 1 := by rw [z_I_sJ, rf]; rfl
  have e4 : q_I (q_sJ M1 81 13 0) 81 4 = 0 := by rw [z_I_sJ, rf]; rfl
  have e7 : q_I (q_sJ M1 81 13 0) 81 7 = 0 := by rw [z_I_sJ, rf]; rfl
  have e9 : q_I (q_sJ M1 81 13 0) 81 9 = 0 := by rw [z_I_sJ, rf]; rfl
  have e12 : q_I (q_sJ M1 81 13 0) 81 12 = 0 := by rw [z_I_sJ, rf]; rfl
  have cr : z_CR ν (q_sJ M1 81 13 0) (q_sJ M1 81 13 0) [] := ⟨z_FR.rf, fun _ _ _ _ => rfl, fun _ _ => rfl, fun _ _ => rfl, e4, Nat.zero_le _, trivial, e7, Nat.zero_le _, trivial, e9, e12⟩
  have kp : z_kp (q_sJ M1 81 13 0) (q_sJ M1 81 13 0) := ⟨z_FR.rf, fun _ _ => rfl, fun _ _ _ _ _ => rfl, rfl⟩
  obtain ⟨M', r1, r2⟩ := (zq_read hT2 (len + 1) 0 0 q_fuel [] _ _ kp (Nat.zero_le _) (by omega) (Nat.le_refl _) (by unfold q_fuel; omega) trivial e8 e11).1 e10 (Nat.le_refl _) cr
  have r1' : f_X8_read_b44 81 q_fuel (0 : Int32) (0 : Int32) (q_sJ M1 81 13 0) = some ((z_gP len c (len + 1) 0 [] none).1, M') := r1
  have k1 : z_Lay (q_sI Mb 81 4 0) := z_L1 hL
  have k2 : z_Lay (q_sI (q_sI Mb 81 4 0) 81 7 0) := z_L1 k1
  have k3 : z_Lay (q_sI (q_sI (q_sI Mb 81 4 0) 81 7 0) 81 8 0) := z_L1 k2
  have k4 : z_Lay (q_sI (q_sI (q_sI (q_sI Mb 81 4 0) 81 7 0) 81 8 0) 81 9 0) := z_L1 k3
  have k5 : z_Lay (q_sI (q_sI (q_sI (q_sI (q_sI Mb 81 4 0) 81 7 0) 81 8 0) 81 9 0) 81 10 1) := z_L1 k4
  have k6 : z_Lay (q_sI (q_sI (q_sI (q_sI (q_sI (q_sI Mb 81 4 0) 81 7 0) 81 8 0) 81 9 0) 81 10 1) 81 11 (-1)) := z_L1 k5
  refine ⟨M', ?_, ⟨?_, r2.2⟩⟩
  · simp only [f_X8_read, zob_81 hL, zo_81 hL, zo_81 k1, zo_81 k2, zo_81 k3, zo_81 k4, zo_81 k5, zo_81 k6, Option.bind_some, or_true, true_or, if_true, ← hM1, zo_81 L1, r1']
  · have ff := r2.1
    refine ⟨(rF.tr ⟨rfl, rfl, rfl⟩).tr ff.1, fun a h1 h2 h3 => ?_, ?_, fun a h1 h2 => ?_⟩
    · rw [ff.2.1 a h1 h2 h3]
      exact rI a h1
    · rw [ff.2.2.1, z_I_sJ, rf]
      rfl
    · rw [ff.2.2.2 a h1 h2]
      exact rJ2 a h1
end ZW
