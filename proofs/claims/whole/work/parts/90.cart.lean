/-! ===== the class' cart: the first stop, the order ===== -/
theorem r_A_take {l : List Nat} {c : Nat → Bool} : ∀ n, n ≤ l.length → (∀ k, k < n → c k = true) → r_A c (fun k => l.getD k 0) n = l.take n
  | 0, _, _ => by rw [List.take_zero]; rfl
  | n + 1, h, hc => by
    show r_A c (fun k => l.getD k 0) n ++ (if c n = true then [l.getD n 0] else []) = l.take (n + 1)
    rw [r_A_take n (by omega) (fun k hk => hc k (by omega)), if_pos (hc n (by omega)), List.take_succ_eq_append_getElem (by omega), r_getD (by omega)]
theorem r_L_full {l : List Nat} (h8 : l.length ≤ 8) : r_L l (2 ^ l.length - 1) = l := by
  unfold r_L
  rw [r_A_take l.length (Nat.le_refl _) (fun k hk => ((r_full l.length (by omega)).2 k hk).2), List.take_length]
theorem r_R_all {c : Nat → Bool} {g : Nat → Nat} {n : Nat} : r_R c g n (n - 0) = r_A c g n := by
  have e := r_A_R (c := c) (g := g) (n := n) (n - 0) (by omega)
  rw [show n - (n - 0) = 0 by omega] at e
  rw [e]
  rfl
theorem zc_all {Mx : q_Mem} (hX : z_Lay Mx) {l : List Nat} (h2 : q_I Mx 95 2 = nI l.length) (h8 : l.length ≤ 8) {k : Nat} (hk : k < l.length) : f_X3_allBut Mx 95 (nI k) = some (nI (2 ^ l.length - 1 - 2 ^ k)) := by
  have e := ((r_full l.length (by omega)).2 k hk).1
  simp only [f_X3_allBut, zob_95 hX, zo_95 hX, h2, Option.bind_some, e]
/-- the best first stop so far -/
def z_bst (st : Nat → Int32) (l : List Nat) (b : Option (Nat × List Nat)) (a1 : Int32) : Prop := match b with
  | none => a1 = -1
  | some w => ∃ f, f < l.length ∧ a1 = nI f ∧ w = ((r_W st l (2 ^ l.length - 1 - 2 ^ f) f).1 + r_h st (l.getD f 0), l.getD f 0 :: (r_W st l (2 ^ l.length - 1 - 2 ^ f) f).2)
theorem zc_first {M Mx : q_Mem} (hi : z_Inv M) {l : List Nat} (h8 : l.length ≤ 8) (hC : z_crt M Mx l) (hT : z_rtab M Mx l (2 ^ l.length) 0) {S n : Nat} (hS : q_I M 1 14 = nI S) (hS2 : S ≤ 2000) (hn : l.length = n + 1) : ∀ (d k fu : Nat) (a1 a2 : Int32) (b : Option (Nat × List Nat)), k + d = l.length → d < fu → z_bst (q_I M 109) l b a1 → (∀ w, b = some w → a2 = nI w.1) →
    ∃ r, f_X3_firstStop_b6 Mx 95 fu a1 a2 (nI k) = some r ∧ z_bst (q_I M 109) l (r_T (r_d (q_I M 109)) (r_h (q_I M 109)) (5 * n) S n (r_A (Nat.testBit (2 ^ l.length - 1)) (fun k => l.getD k 0) k) (r_R (Nat.testBit (2 ^ l.length - 1)) (fun k => l.getD k 0) l.length (l.length - k)) b) r := by
  have hX := (hi.sm hC.1.1).1
  have h14 : q_I Mx 1 14 = nI S := by rw [hC.1.1.2 1 (Or.inl (by decide))]; exact hS
  have h256 : 2 ^ l.length ≤ 256 := Nat.pow_le_pow_right (n := 2) (by decide) h8
  have hpos : 0 < 2 ^ l.length := Nat.pow_pos (by decide)
  intro d
  induction d with
  | zero =>
    intro k fu a1 a2 b hd hf hb ha
    obtain ⟨g, rfl⟩ : ∃ g, fu = g + 1 := ⟨fu - 1, by omega⟩
    have hnn : (nI k < nI l.length) = False := eq_false (nI_nlt (by omega) (by omega))
    refine ⟨a1, ?_, ?_⟩
    · simp only [f_X3_firstStop_b6.eq_2, zo_95 hX, hC.1.2.1, Option.bind_some, hnn, if_false]
    · rw [show l.length - k = 0 by omega]
      exact hb
  | succ d ih =>
    intro k fu a1 a2 b hd hf hb ha
    obtain ⟨g, rfl⟩ : ∃ g, fu = g + 1 := ⟨fu - 1, by omega⟩
    have hk : k < l.length := by omega
    have hnn : (nI k < nI l.length) = True := eq_true (nI_lt (by omega) (by omega))
    have tb := ((r_full l.length (by omega)).2 k hk).2
    have all := zc_all hX hC.1.2.1 h8 hk
    have hpk : 0 < 2 ^ k := Nat.pow_pos (by decide)
    obtain ⟨c1, c2⟩ := r_clr2 (2 ^ l.length - 1) (by omega) k (by omega) tb
    have bf : Nat.testBit (2 ^ l.length - 1 - 2 ^ k) k = false := by rw [c2 k (by omega)]; simp
    have rest : f_X3_restOf Mx 95 (nI (2 ^ l.length - 1 - 2 ^ k)) (nI k) = some (nI (r_W (q_I M 109) l (2 ^ l.length - 1 - 2 ^ k) k).1) := by
      rw [zc_rest hX (by omega) (by omega), hT _ k hk (Or.inl (by omega)) bf]
    have hw := r_W_le (q_I M 109) h8 (2 ^ l.length - 1 - 2 ^ k) k
    have hh := r_h_le (q_I M 109) (l.getD k 0)
    have hom : f_X3_homeOf Mx 95 (nI k) = some (nI (r_h (q_I M 109) (l.getD k 0))) := by rw [zc_home hX (by omega), (hC.1.2.2 k hk).2]
    have hLl : (r_L l (2 ^ l.length - 1 - 2 ^ k)).length = n := by
      have := r_L_len h8 (show 2 ^ l.length - 1 < 256 by omega) hk tb
      rw [r_L_full h8] at this
      omega
    have eW : r_B (r_d (q_I M 109)) (r_h (q_I M 109)) n (l.getD k 0) (r_A (Nat.testBit (2 ^ l.length - 1)) (fun k => l.getD k 0) k ++ r_R (Nat.testBit (2 ^ l.length - 1)) (fun k => l.getD k 0) l.length (l.length - (k + 1))) = r_W (q_I M 109) l (2 ^ l.length - 1 - 2 ^ k) k := by
      rw [← r_L_without h8 (show 2 ^ l.length - 1 < 256 by omega) hk tb]
      unfold r_W
      rw [hLl]
    have e2 : r_T (r_d (q_I M 109)) (r_h (q_I M 109)) (5 * n) S n (r_A (Nat.testBit (2 ^ l.length - 1)) (fun k => l.getD k 0) k) (r_R (Nat.testBit (2 ^ l.length - 1)) (fun k => l.getD k 0) l.length (l.length - k)) b = r_T (r_d (q_I M 109)) (r_h (q_I M 109)) (5 * n) S n (r_A (Nat.testBit (2 ^ l.length - 1)) (fun k => l.getD k 0) (k + 1)) (r_R (Nat.testBit (2 ^ l.length - 1)) (fun k => l.getD k 0) l.length (l.length - (k + 1))) (r_cb (5 * n) S (r_h (q_I M 109) (l.getD k 0)) b (r_W (q_I M 109) l (2 ^ l.length - 1 - 2 ^ k) k).1 (l.getD k 0 :: (r_W (q_I M 109) l (2 ^ l.length - 1 - 2 ^ k) k).2)) := by
      have eA : r_A (Nat.testBit (2 ^ l.length - 1)) (fun k => l.getD k 0) (k + 1) = r_A (Nat.testBit (2 ^ l.length - 1)) (fun k => l.getD k 0) k ++ [l.getD k 0] := by
        show _ ++ (if Nat.testBit (2 ^ l.length - 1) k = true then [l.getD k 0] else []) = _
        rw [if_pos tb]
      rw [r_R_step hk, if_pos tb, eA, ← eW]
      rfl
    rw [e2]
    have ew : nI l.length - (1 : Int32) = nI n := by rw [hn]; exact nI_pred n
    have m3 : (3 : Int32) = nI 3 := rfl
    have m5 : (5 : Int32) = nI 5 := rfl
    have e5 : (3 : Int32) * nI (r_W (q_I M 109) l (2 ^ l.length - 1 - 2 ^ k) k).1 + (5 : Int32) * nI n = nI (3 * (r_W (q_I M 109) l (2 ^ l.length - 1 - 2 ^ k) k).1 + 5 * n) := by rw [m3, m5, pk_mul, pk_mul, nI_add]
    have stp : f_X3_firstStop_b6 Mx 95 (g + 1) a1 a2 (nI k) = if nI S < nI (3 * (r_W (q_I M 109) l (2 ^ l.length - 1 - 2 ^ k) k).1 + 5 * n) then f_X3_firstStop_b6 Mx 95 g a1 a2 (nI (k + 1)) else if a1 = (-1 : Int32) then f_X3_firstStop_b6 Mx 95 g (nI k) (nI (r_h (q_I M 109) (l.getD k 0) + (r_W (q_I M 109) l (2 ^ l.length - 1 - 2 ^ k) k).1)) (nI (k + 1)) else if nI (r_h (q_I M 109) (l.getD k 0) + (r_W (q_I M 109) l (2 ^ l.length - 1 - 2 ^ k) k).1) < a2 then f_X3_firstStop_b6 Mx 95 g (nI k) (nI (r_h (q_I M 109) (l.getD k 0) + (r_W (q_I M 109) l (2 ^ l.length - 1 - 2 ^ k) k).1)) (nI (k + 1)) else f_X3_firstStop_b6 Mx 95 g a1 a2 (nI (k + 1)) := by
      simp only [f_X3_firstStop_b6.eq_2, zo_95 hX, zo_1 hX, hC.1.2.1, Option.bind_some, hnn, if_true, all, rest, h14, ew, e5, hom, f_X3_firstStop_b76, nI_add, nI_1]
    rw [stp]
    have newb : z_bst (q_I M 109) l (some ((r_W (q_I M 109) l (2 ^ l.length - 1 - 2 ^ k) k).1 + r_h (q_I M 109) (l.getD k 0), l.getD k 0 :: (r_W (q_I M 109) l (2 ^ l.length - 1 - 2 ^ k) k).2)) (nI k) := ⟨k, hk, rfl, rfl⟩
    have newa : ∀ w, some ((r_W (q_I M 109) l (2 ^ l.length - 1 - 2 ^ k) k).1 + r_h (q_I M 109) (l.getD k 0), l.getD k 0 :: (r_W (q_I M 109) l (2 ^ l.length - 1 - 2 ^ k) k).2) = some w → nI (r_h (q_I M 109) (l.getD k 0) + (r_W (q_I M 109) l (2 ^ l.length - 1 - 2 ^ k) k).1) = nI w.1 := fun w z => by
      rw [← Option.some.inj z, Nat.add_comm]
    clear stp e2 e5 eW rest all
    generalize r_W (q_I M 109) l (2 ^ l.length - 1 - 2 ^ k) k = W at hw newb newa ⊢
    generalize r_h (q_I M 109) (l.getD k 0) = H at hh newb newa ⊢
    by_cases c : 3 * W.1 + 5 * n ≤ S
    · rw [if_neg (nI_nlt c (by omega))]
      cases b with
      | none =>
        have ha1 : a1 = -1 := hb
        have eb : r_cb (5 * n) S H none W.1 (l.getD k 0 :: W.2) = some (W.1 + H, l.getD k 0 :: W.2) := if_pos c
        rw [if_pos ha1, eb]
        exact ih (k + 1) g _ _ _ (by omega) (by omega) newb newa
      | some w =>
        have hb0 := hb
        obtain ⟨f, f1, f2, f3⟩ := hb
        have n1 : ¬ a1 = -1 := by
          rw [f2, z_nI_ne1 (by omega)]
          exact fun z => z
        have ha2 : a2 = nI w.1 := ha w rfl
        have hw1 : w.1 < 10000 := by
          have q1 := r_W_le (q_I M 109) h8 (2 ^ l.length - 1 - 2 ^ f) f
          have q2 := r_h_le (q_I M 109) (l.getD f 0)
          rw [f3]
          show _ + _ < _
          omega
        rw [if_neg n1]
        by_cases c2 : W.1 + H < w.1
        · have eb : r_cb (5 * n) S H (some w) W.1 (l.getD k 0 :: W.2) = some (W.1 + H, l.getD k 0 :: W.2) := if_pos ⟨c, c2⟩
          rw [ha2, if_pos (nI_lt (by omega) (by omega)), eb]
          exact ih (k + 1) g _ _ _ (by omega) (by omega) newb newa
        · have eb : r_cb (5 * n) S H (some w) W.1 (l.getD k 0 :: W.2) = some w := if_neg (fun z => c2 z.2)
          rw [ha2, if_neg (nI_nlt (by omega) (by omega)), eb]
          exact ih (k + 1) g _ _ _ (by omega) (by omega) hb0 (fun w' z => by rw [← Option.some.inj z])
    · rw [if_pos (nI_lt (by omega) (by omega))]
      have eb : r_cb (5 * n) S H b W.1 (l.getD k 0 :: W.2) = b := by
        cases b with
        | none => exact if_neg c
        | some w => exact if_neg (fun z => c z.1)
      rw [eb]
      exact ih (k + 1) g _ _ _ (by omega) (by omega) hb ha
/-- the next stop -/
theorem zc_next {M Mx : q_Mem} (hi : z_Inv M) {l : List Nat} (h8 : l.length ≤ 8) (hC : z_crt M Mx l) (hT : z_rtab M Mx l (2 ^ l.length) 0) {left stop m : Nat} (hl : left < 2 ^ l.length) (hs : stop < l.length) (hb : Nat.testBit left stop = false) (hm : (r_L l left).length = m + 1) : ∀ (d k fu : Nat) (u : Nat × List Nat), k + d = l.length → d < fu → (r_W (q_I M 109) l left stop).1 < u.1 → r_W (q_I M 109) l left stop = r_G (r_F (q_I M 109) (l.getD stop 0) m) (r_A (Nat.testBit left) (fun k => l.getD k 0) k) (r_R (Nat.testBit left) (fun k => l.getD k 0) l.length (l.length - k)) u →
    ∃ f, f < l.length ∧ f_X3_nextStop_b2 Mx 95 (nI left) (nI stop) fu (nI k) = some (nI f) ∧ Nat.testBit left f = true ∧ r_W (q_I M 109) l left stop = (r_d (q_I M 109) (l.getD stop 0) (l.getD f 0) + (r_W (q_I M 109) l (left - 2 ^ f) f).1, l.getD f 0 :: (r_W (q_I M 109) l (left - 2 ^ f) f).2) := by
  have hX := (hi.sm hC.1.1).1
  have h256 : 2 ^ l.length ≤ 256 := Nat.pow_le_pow_right (n := 2) (by decide) h8
  have rest : f_X3_restOf Mx 95 (nI left) (nI stop) = some (nI (r_W (q_I M 109) l left stop).1) := by
    rw [zc_rest hX (by omega) (by omega), hT _ stop hs (Or.inl hl) hb]
  have hWl := r_W_le (q_I M 109) h8 left stop
  intro d
  induction d with
  | zero =>
    intro k fu u hd hf hu hR
    exfalso
    rw [show l.length - k = 0 by omega] at hR
    have hR : r_W (q_I M 109) l left stop = u := hR
    rw [hR] at hu
    omega
  | succ d ih =>
    intro k fu u hd hf hu hR
    obtain ⟨g, rfl⟩ : ∃ g, fu = g + 1 := ⟨fu - 1, by omega⟩
    have hn : (nI k < nI l.length) = True := eq_true (nI_lt (by omega) (by omega))
    have hh := z_holds (M := Mx) (s := left) (f := k) (by omega) (by omega)
    have hk : k < l.length := by omega
    rw [r_R_step hk] at hR
    by_cases z : Nat.testBit left k = true
    · rw [if_pos z] at hh hR
      have kb := zc_byN hi h8 hC hT (by omega) (by omega) hs hk z
      have hw := r_W_le (q_I M 109) h8 (left - 2 ^ k) k
      have hdd := r_d_le (q_I M 109) (l.getD stop 0) (l.getD k 0)
      have eF := r_F_at (q_I M 109) (stop := stop) h8 (show left < 256 by omega) hk z hm
      have eA : r_A (Nat.testBit left) (fun k => l.getD k 0) (k + 1) = r_A (Nat.testBit left) (fun k => l.getD k 0) k ++ [l.getD k 0] := by
        show _ ++ (if Nat.testBit left k = true then [l.getD k 0] else []) = _
        rw [if_pos z]
      have e2 : r_G (r_F (q_I M 109) (l.getD stop 0) m) (r_A (Nat.testBit left) (fun k => l.getD k 0) k) ([l.getD k 0] ++ r_R (Nat.testBit left) (fun k => l.getD k 0) l.length (l.length - (k + 1))) u = r_G (r_F (q_I M 109) (l.getD stop 0) m) (r_A (Nat.testBit left) (fun k => l.getD k 0) (k + 1)) (r_R (Nat.testBit left) (fun k => l.getD k 0) l.length (l.length - (k + 1))) (r_mn u (r_F (q_I M 109) (l.getD stop 0) m (l.getD k 0) (r_A (Nat.testBit left) (fun k => l.getD k 0) k ++ r_R (Nat.testBit left) (fun k => l.getD k 0) l.length (l.length - (k + 1))))) := by
        rw [eA]; rfl
      rw [e2, eF] at hR
      have stp : f_X3_nextStop_b2 Mx 95 (nI left) (nI stop) (g + 1) (nI k) = if nI (r_d (q_I M 109) (l.getD stop 0) (l.getD k 0) + (r_W (q_I M 109) l (left - 2 ^ k) k).1) = nI (r_W (q_I M 109) l left stop).1 then some (nI k) else f_X3_nextStop_b2 Mx 95 (nI left) (nI stop) g (nI (k + 1)) := by
        simp only [f_X3_nextStop_b2.eq_2, zo_95 hX, hC.1.2.1, Option.bind_some, hn, if_true, hh, show ((1 : Int32) = 0) = False by decide, if_false, kb, rest, nI_1]
      generalize hv : (r_d (q_I M 109) (l.getD stop 0) (l.getD k 0) + (r_W (q_I M 109) l (left - 2 ^ k) k).1, l.getD k 0 :: (r_W (q_I M 109) l (left - 2 ^ k) k).2) = v at hR
      have hv1 : r_d (q_I M 109) (l.getD stop 0) (l.getD k 0) + (r_W (q_I M 109) l (left - 2 ^ k) k).1 = v.1 := by rw [← hv]
      rw [hv1] at stp
      have hv2 : v.1 < 10000 := by rw [← hv1]; omega
      by_cases c : v.1 = (r_W (q_I M 109) l left stop).1
      · refine ⟨k, hk, ?_, z, ?_⟩
        · rw [stp, c, if_pos rfl]
        · have em : r_mn u v = v := if_pos (by omega)
          rw [em] at hR
          have k2 := (r_G_le (f := r_F (q_I M 109) (l.getD stop 0) m) (r_R (Nat.testBit left) (fun k => l.getD k 0) l.length (l.length - (k + 1))) (r_A (Nat.testBit left) (fun k => l.getD k 0) (k + 1)) v).2
          rw [← hR] at k2
          rw [k2 c.symm, hv]
      · rw [stp, if_neg (fun y => c ((nI_eq (by omega) (by omega)).mp y))]
        refine ih (k + 1) g (r_mn u v) (by omega) (by omega) ?_ hR
        have k1 := (r_G_le (f := r_F (q_I M 109) (l.getD stop 0) m) (r_R (Nat.testBit left) (fun k => l.getD k 0) l.length (l.length - (k + 1))) (r_A (Nat.testBit left) (fun k => l.getD k 0) (k + 1)) (r_mn u v)).1
        rw [← hR] at k1
        by_cases c2 : v.1 < u.1
        · have em : r_mn u v = v := if_pos c2
          rw [em] at k1 ⊢
          omega
        · have em : r_mn u v = u := if_neg c2
          rw [em]
          exact hu
    · rw [if_neg z] at hh hR
      have eA : r_A (Nat.testBit left) (fun k => l.getD k 0) (k + 1) = r_A (Nat.testBit left) (fun k => l.getD k 0) k := by
        show _ ++ (if Nat.testBit left k = true then [l.getD k 0] else []) = _
        rw [if_neg z, List.append_nil]
      rw [List.nil_append, ← eA] at hR
      obtain ⟨f, f1, f2, f3, f4⟩ := ih (k + 1) g u (by omega) (by omega) hu hR
      refine ⟨f, f1, ?_, f3, f4⟩
      simp only [f_X3_nextStop_b2.eq_2, zo_95 hX, hC.1.2.1, Option.bind_some, hn, if_true, hh, nI_1]
      exact f2
theorem zc_nextStop {M Mx : q_Mem} (hi : z_Inv M) {l : List Nat} (h8 : l.length ≤ 8) (hC : z_crt M Mx l) (hT : z_rtab M Mx l (2 ^ l.length) 0) {left stop m : Nat} (hl : left < 2 ^ l.length) (hs : stop < l.length) (hb : Nat.testBit left stop = false) (hm : (r_L l left).length = m + 1) :
    ∃ f, f < l.length ∧ f_X3_nextStop Mx 95 (nI left) (nI stop) = some (nI f) ∧ Nat.testBit left f = true ∧ r_W (q_I M 109) l left stop = (r_d (q_I M 109) (l.getD stop 0) (l.getD f 0) + (r_W (q_I M 109) l (left - 2 ^ f) f).1, l.getD f 0 :: (r_W (q_I M 109) l (left - 2 ^ f) f).2) := by
  have hX := (hi.sm hC.1.1).1
  have hWl := r_W_le (q_I M 109) h8 left stop
  obtain ⟨f, f1, f2, f3, f4⟩ := zc_next hi h8 hC hT hl hs hb hm l.length 0 q_fuel (1000000, []) (by omega) (z_fu (by omega)) (by show _ < 1000000; omega) (r_W_G (q_I M 109) hm)
  have f2 : f_X3_nextStop_b2 Mx 95 (nI left) (nI stop) q_fuel (0 : Int32) = some (nI f) := f2
  exact ⟨f, f1, by simp only [f_X3_nextStop, zob_95 hX, f2], f3, f4⟩
theorem zc_next0 {Mx : q_Mem} (hX : z_Lay Mx) {n : Nat} (h2 : q_I Mx 95 2 = nI n) (h8 : n ≤ 8) (a : Int32) : ∀ (d k fu : Nat), k + d = n → d < fu → f_X3_nextStop_b2 Mx 95 (nI 0) a fu (nI k) = some (-1 : Int32) := by
  intro d
  induction d with
  | zero =>
    intro k fu hd hf
    obtain ⟨g, rfl⟩ : ∃ g, fu = g + 1 := ⟨fu - 1, by omega⟩
    have hn : (nI k < nI n) = False := eq_false (nI_nlt (by omega) (by omega))
    simp only [f_X3_nextStop_b2.eq_2, zo_95 hX, h2, Option.bind_some, hn, if_false]
  | succ d ih =>
    intro k fu hd hf
    obtain ⟨g, rfl⟩ : ∃ g, fu = g + 1 := ⟨fu - 1, by omega⟩
    have hn : (nI k < nI n) = True := eq_true (nI_lt (by omega) (by omega))
    have hh := z_holds (M := Mx) (s := 0) (f := k) (by omega) (by omega)
    rw [Nat.zero_testBit, if_neg (by decide)] at hh
    simp only [f_X3_nextStop_b2.eq_2, zo_95 hX, h2, Option.bind_some, hn, if_true, hh, nI_1]
    exact ih (k + 1) g (by omega) (by omega)
theorem z_rtab.f1 {M Mx My : q_Mem} {l : List Nat} {a b x : Nat} (h : z_rtab M Mx l a b) (f : z_F1 x Mx My) (hx : x ≠ 99) : z_rtab M My l a b := fun left k h1 h2 h3 => by
  rw [f.2.1 99 (Ne.symm hx)]
  exact h left k h1 h2 h3
theorem z_mxN {f : Nat} (hf : f < 2147483648) : q_mx (0 : Int32) (nI f) = nI f := by
  unfold q_mx
  by_cases c : f = 0
  · subst c
    rfl
  · rw [if_pos (show (0 : Int32) < nI f from nI_lt (a := 0) (by omega) hf)]
/-- the order of the stops, one by one -/
theorem zc_ord {M : q_Mem} (hi : z_Inv M) {l : List Nat} (h8 : l.length ≤ 8) : ∀ (m left stop i fu : Nat) (Mx : q_Mem), (r_L l left).length = m → i + m + 1 = l.length → stop < l.length → Nat.testBit left stop = false → left < 2 ^ l.length → m + 1 < fu → z_crt M Mx l → z_rtab M Mx l (2 ^ l.length) 0 →
    ∃ My, f_X3_findOrder_b15 95 fu (nI stop) (nI left) (nI i) Mx = some My ∧ z_F1 100 Mx My ∧ (∀ j, j < i → q_I My 100 j = q_I Mx 100 j) ∧ ∀ j, j ≤ m → q_I My 100 (i + j) = nI ((l.getD stop 0 :: (r_W (q_I M 109) l left stop).2).getD j 0) := by
  have h256 : 2 ^ l.length ≤ 256 := Nat.pow_le_pow_right (n := 2) (by decide) h8
  intro m
  induction m with
  | zero =>
    intro left stop i fu Mx hm hil hs hb hl hf hC hT
    obtain ⟨g, rfl⟩ : ∃ g, fu = (g + 1) + 1 := ⟨fu - 2, by omega⟩
    have hX := (hi.sm hC.1.1).1
    have hl0 : left = 0 := by
      rcases Nat.eq_zero_or_pos left with z | z
      · exact z
      · obtain ⟨m', hm'⟩ := r_L_ne (l := l) (left := left) (by omega) hl
        omega
    subst hl0
    have hn : (nI i < nI l.length) = True := eq_true (nI_lt (by omega) (by omega))
    have hn1 : (nI (i + 1) < nI l.length) = False := eq_false (nI_nlt (by omega) (by omega))
    have n8 : (nI i < (8 : Int32)) = True := eq_true (nI_lt (b := 8) (by omega) (by decide))
    have s0 : (nI stop < 0) = False := eq_false (nI_pos (by omega))
    have s8 : (nI stop < (8 : Int32)) = True := eq_true (nI_lt (b := 8) (by omega) (by decide))
    have F : z_F1 100 Mx (q_sI Mx 100 i (nI (l.getD stop 0))) := z_F1.sI (by decide)
    have X1 : z_Lay (q_sI Mx 100 i (nI (l.getD stop 0))) := hX
    have h2 : q_I (q_sI Mx 100 i (nI (l.getD stop 0))) 95 2 = nI l.length := by rw [q_sI_ne (by decide)]; exact hC.1.2.1
    have nx := zc_next0 X1 h2 h8 (nI stop) l.length 0 q_fuel (by omega) (z_fu (by omega))
    have nx : f_X3_nextStop_b2 (q_sI Mx 100 i (nI (l.getD stop 0))) 95 (nI 0) (nI stop) q_fuel (0 : Int32) = some (-1 : Int32) := nx
    refine ⟨q_sI Mx 100 i (nI (l.getD stop 0)), ?_, F, fun j hj => ?_, fun j hj => ?_⟩
    · simp only [f_X3_findOrder_b15.eq_2, f_X3_findOrder_b57, zo_95 hX, hC.1.2.1, Option.bind_some, hn, n8, s0, s8, if_true, if_false, (za_96 hX).2.1 stop (by omega), (hC.1.2.2 stop hs).1, (za_100 hX).2.2 i _ (show i < 8 by omega), f_X3_nextStop, zob_95 X1, nx, nI_1, zo_95 X1, h2, hn1]
    · rw [z_I_sI, if_neg (by omega)]
    · obtain rfl : j = 0 := by omega
      rw [z_I_sI, if_pos ⟨rfl, rfl⟩]
      rfl
  | succ m ih =>
    intro left stop i fu Mx hm hil hs hb hl hf hC hT
    obtain ⟨g, rfl⟩ : ∃ g, fu = g + 1 := ⟨fu - 1, by omega⟩
    have hX := (hi.sm hC.1.1).1
    have hn : (nI i < nI l.length) = True := eq_true (nI_lt (by omega) (by omega))
    have n8 : (nI i < (8 : Int32)) = True := eq_true (nI_lt (b := 8) (by omega) (by decide))
    have s0 : (nI stop < 0) = False := eq_false (nI_pos (by omega))
    have s8 : (nI stop < (8 : Int32)) = True := eq_true (nI_lt (b := 8) (by omega) (by decide))
    have F : z_F1 100 Mx (q_sI Mx 100 i (nI (l.getD stop 0))) := z_F1.sI (by decide)
    have C1 := hC.f1 F (by unfold z_core; omega) (by decide) (by decide) (by decide) (by decide)
    have T1 := hT.f1 F (by decide)
    obtain ⟨f, f1, f2, f3, f4⟩ := zc_nextStop hi h8 C1 T1 hl hs hb hm
    have cl := r_clr left (by omega) f (by omega)
    rw [if_pos f3] at cl
    obtain ⟨d1, d2⟩ := r_clr2 left (by omega) f (by omega) f3
    have hp : 0 < 2 ^ f := Nat.pow_pos (by decide)
    have hm2 : (r_L l (left - 2 ^ f)).length = m := by
      have := r_L_len h8 (show left < 256 by omega) f1 f3
      omega
    obtain ⟨My, r1, r2, r3, r4⟩ := ih (left - 2 ^ f) f (i + 1) g _ hm2 (by omega) f1 (by rw [d2 f (by omega)]; simp) (by omega) (by omega) C1 T1
    refine ⟨My, ?_, F.tr r2, fun j hj => ?_, fun j hj => ?_⟩
    · simp only [f_X3_findOrder_b15.eq_2, f_X3_findOrder_b57, zo_95 hX, hC.1.2.1, Option.bind_some, hn, n8, s0, s8, if_true, if_false, (za_96 hX).2.1 stop (by omega), (hC.1.2.2 stop hs).1, (za_100 hX).2.2 i _ (show i < 8 by omega), f2, z_mxN (show f < 2147483648 by omega), cl, nI_1]
      exact r1
    · rw [r3 j (by omega), z_I_sI, if_neg (by omega)]
    · rw [f4]
      cases j with
      | zero =>
        rw [r3 (i + 0) (by omega), z_I_sI, if_pos ⟨rfl, rfl⟩]
        rfl
      | succ j =>
        have := r4 j (by omega)
        rw [show i + 1 + j = i + (j + 1) by omega] at this
        exact this
/-- the plan of the cart -/
def z_pl (My : q_Mem) (l : List Nat) (b : Option (Nat × List Nat)) : Prop := match b with
  | none => q_I My 95 7 = -1 ∧ q_I My 95 2 = 0
  | some w => q_I My 95 7 = nI w.1 ∧ q_I My 95 2 = nI l.length ∧ ∀ j, j < l.length → q_I My 100 j = nI (w.2.getD j 0)
theorem z_crt.s7 {M Mx : q_Mem} {l : List Nat} {v : Int32} (h : z_crt M Mx l) : z_crt M (q_sI Mx 95 7 v) l :=
  ⟨⟨h.1.1.tr (z_sm.sI (by unfold z_core; omega)), by rw [z_I_sI, if_neg (by omega)]; exact h.1.2.1, fun k hk => by rw [q_sI_ne (by decide), q_sI_ne (by decide)]; exact h.1.2.2 k hk⟩, fun a b ha hb => by rw [q_sI_ne (by decide)]; exact h.2 a b ha hb⟩
theorem z_rtab.s7 {M Mx : q_Mem} {l : List Nat} {a b : Nat} {v : Int32} (h : z_rtab M Mx l a b) : z_rtab M (q_sI Mx 95 7 v) l a b := fun left k h1 h2 h3 => by
  rw [q_sI_ne (by decide)]
  exact h left k h1 h2 h3
theorem zc_q00 : (nI 0 < nI 0) = False := eq_false (nI_nlt (Nat.le_refl _) (by decide))
theorem zc_p1 {M2 : q_Mem} (hX : z_Lay M2) {z k : Nat} (hz : (nI k < nI z) = False) (b20 : q_I M2 95 2 = nI z) (g : Nat) (a1 a2 : Int32) : f_X3_firstStop_b6 M2 95 (g + 1) a1 a2 (nI k) = some a1 := by
  simp only [f_X3_firstStop_b6.eq_2, zo_95 hX, b20, Option.bind_some, hz, if_false]
theorem zc_p2 {M3 : q_Mem} (hX : z_Lay M3) {z k : Nat} (hz : (nI k < nI z) = False) (b20 : q_I M3 95 2 = nI z) (g : Nat) (a v : Int32) : f_X3_findOrder_b15 95 (g + 1) a v (nI k) M3 = some M3 := by
  simp only [f_X3_findOrder_b15.eq_2, zo_95 hX, b20, Option.bind_some, hz, if_false]
theorem zc_p3 {M2 : q_Mem} (hX : z_Lay M2) (b20 : q_I M2 95 2 = nI 0) : f_X3_firstStop M2 95 = some (-1 : Int32) := by
  obtain ⟨g, hg⟩ : ∃ g, q_fuel = g + 1 := ⟨q_fuel - 1, by have := z_fu (n := 0) (by decide); omega⟩
  unfold f_X3_firstStop
  rw [zob_95 hX, hg]
  exact zc_p1 hX zc_q00 b20 g _ _
theorem zc_p4 {M3 : q_Mem} (hX : z_Lay M3) (b20 : q_I M3 95 2 = nI 0) : f_X3_findOrder M3 95 (-1 : Int32) = some M3 := by
  obtain ⟨g, hg⟩ : ∃ g, q_fuel = g + 1 := ⟨q_fuel - 1, by have := z_fu (n := 0) (by decide); omega⟩
  have k : ∀ v : Int32, f_X3_findOrder_b15 95 q_fuel (-1 : Int32) v (0 : Int32) M3 = some M3 := fun v => by
    rw [hg]
    exact zc_p2 hX zc_q00 b20 g _ v
  simp only [f_X3_findOrder, f_X3_allBut, zob_95 hX, zo_95 hX, Option.bind_some, k]
theorem zc_plan0 {M2 : q_Mem} (hX : z_Lay M2) (b20 : q_I M2 95 2 = nI 0) : f_X3_firstStop M2 95 = some (-1 : Int32) ∧ f_X3_plan_b37 M2 95 (-1 : Int32) = some (q_sI M2 95 7 0) := by
  have X3 : z_Lay (q_sI M2 95 7 0) := hX
  have g2 : q_I (q_sI M2 95 7 0) 95 2 = nI 0 := by rw [z_I_sI, if_neg (by omega)]; exact b20
  have z0 : (nI 0 = (0 : Int32)) = True := eq_true nI_0
  refine ⟨zc_p3 hX b20, ?_⟩
  simp only [f_X3_plan_b37, zo_95 hX, b20, z0, if_true, Option.bind_some, zc_p4 X3 g2]
theorem zc_plan {M : q_Mem} (hi : z_Inv M) {s : Nat} (hs : s < 1048576) {l : List Nat} (hl : l = r_A (Nat.testBit s) id (z_m (q_I M 109) 0)) (h8 : l.length ≤ 8) {S : Nat} (hS : q_I M 1 14 = nI S) (hS2 : S ≤ 2000) :
    ∃ My, f_X3_plan M 95 (nI s) = some My ∧ z_sm M My ∧ (l.length = 0 → q_I My 95 7 = 0 ∧ q_I My 95 2 = 0) ∧ ∀ n, l.length = n + 1 → z_pl My l (r_T (r_d (q_I M 109)) (r_h (q_I M 109)) (5 * n) S n [] l none) := by
  have hL := hi.1
  have h256 : 2 ^ l.length ≤ 256 := Nat.pow_le_pow_right (n := 2) (by decide) h8
  obtain ⟨M1, a1, a2⟩ := zc_take hi hs hl h8
  obtain ⟨M2, b1, b2, b3⟩ := zc_rests hi h8 a2
  have hX := (hi.sm b2.1.1).1
  have p0 : f_X3_plan M 95 (nI s) = (f_X3_firstStop M2 95).bind fun v8 => (if 0 < nI l.length then (if v8 = (-1 : Int32) then some (q_sI (q_sI M2 95 7 (-1)) 95 2 0) else f_X3_plan_b37 M2 95 v8) else f_X3_plan_b37 M2 95 v8) := by
    have X1 : z_Lay (q_sI M2 95 7 (-1)) := hX
    simp only [f_X3_plan, zob_95 hL, a1, b1, Option.bind_some, zo_95 hX, b2.1.2.1, zo_95 X1]
  rw [p0]
  cases e : l.length with
  | zero =>
    have b20 : q_I M2 95 2 = nI 0 := by rw [b2.1.2.1, e]
    have n0 : ((0 : Int32) < nI 0) = False := by decide
    obtain ⟨k1, k2⟩ := zc_plan0 hX b20
    refine ⟨q_sI M2 95 7 0, ?_, b2.1.1.tr (z_sm.sI (by unfold z_core; omega)), fun _ => ⟨by rw [z_I_sI, if_pos ⟨rfl, rfl⟩], by rw [z_I_sI, if_neg (by omega)]; exact b20⟩, fun n hn => absurd hn (by omega)⟩
    simp only [k1, Option.bind_some, n0, if_false, k2]
  | succ n =>
    have n0 : ((0 : Int32) < nI (n + 1)) = True := eq_true (nI_lt (a := 0) (by omega) (by omega))
    obtain ⟨r, f1, f2⟩ := zc_first hi h8 b2 b3 hS hS2 e l.length 0 q_fuel (-1 : Int32) (0 : Int32) none (by omega) (z_fu (by omega)) rfl (fun w z => absurd z (by simp))
    have eR : r_R (Nat.testBit (2 ^ l.length - 1)) (fun k => l.getD k 0) l.length (l.length - 0) = l := by
      rw [r_R_all]
      exact r_L_full h8
    rw [eR] at f2
    have f2 : z_bst (q_I M 109) l (r_T (r_d (q_I M 109)) (r_h (q_I M 109)) (5 * n) S n [] l none) r := f2
    have f1 : f_X3_firstStop_b6 M2 95 q_fuel (-1 : Int32) (0 : Int32) (0 : Int32) = some r := f1
    have fs : f_X3_firstStop M2 95 = some r := by simp only [f_X3_firstStop, zob_95 hX, f1]
    cases hb : r_T (r_d (q_I M 109)) (r_h (q_I M 109)) (5 * n) S n [] l none with
    | none =>
      rw [hb] at f2
      have f2 : r = -1 := f2
      refine ⟨q_sI (q_sI M2 95 7 (-1)) 95 2 0, ?_, (b2.1.1.tr (z_sm.sI (by unfold z_core; omega))).tr (z_sm.sI (by unfold z_core; omega)), fun h => absurd h (by omega), fun n' hn' => ?_⟩
      · simp only [fs, Option.bind_some, n0, if_true, f2]
      · obtain rfl : n = n' := by omega
        rw [hb]
        exact ⟨by rw [z_I_sI, if_neg (by omega), z_I_sI, if_pos ⟨rfl, rfl⟩], by rw [z_I_sI, if_pos ⟨rfl, rfl⟩]⟩
    | some w =>
      rw [hb] at f2
      obtain ⟨f, g1, g2, rfl⟩ := f2
      have nr : (nI f = (-1 : Int32)) = False := z_nI_ne1 (by omega)
      have tb := ((r_full l.length (by omega)).2 f g1).2
      have hpos : 0 < 2 ^ l.length := Nat.pow_pos (by decide)
      have hpf : 0 < 2 ^ f := Nat.pow_pos (by decide)
      obtain ⟨c1, c2⟩ := r_clr2 (2 ^ l.length - 1) (by omega) f (by omega) tb
      have bf : Nat.testBit (2 ^ l.length - 1 - 2 ^ f) f = false := by rw [c2 f (by omega)]; simp
      have rest : f_X3_restOf M2 95 (nI (2 ^ l.length - 1 - 2 ^ f)) (nI f) = some (nI (r_W (q_I M 109) l (2 ^ l.length - 1 - 2 ^ f) f).1) := by
        rw [zc_rest hX (by omega) (by omega), b3 _ f g1 (Or.inl (by omega)) bf]
      have hom : f_X3_homeOf M2 95 (nI f) = some (nI (r_h (q_I M 109) (l.getD f 0))) := by rw [zc_home hX (by omega), (b2.1.2.2 f g1).2]
      have all := zc_all hX b2.1.2.1 h8 g1
      have hLl : (r_L l (2 ^ l.length - 1 - 2 ^ f)).length = n := by
        have := r_L_len h8 (show 2 ^ l.length - 1 < 256 by omega) g1 tb
        rw [r_L_full h8] at this
        omega
      obtain ⟨M3, hM3⟩ : ∃ M3, M3 = q_sI M2 95 7 (nI (r_h (q_I M 109) (l.getD f 0) + (r_W (q_I M 109) l (2 ^ l.length - 1 - 2 ^ f) f).1)) := ⟨_, rfl⟩
      have C3 : z_crt M M3 l := by rw [hM3]; exact b2.s7
      have T3 : z_rtab M M3 l (2 ^ l.length) 0 := by rw [hM3]; exact b3.s7
      have e7 : q_I M3 95 7 = nI (r_h (q_I M 109) (l.getD f 0) + (r_W (q_I M 109) l (2 ^ l.length - 1 - 2 ^ f) f).1) := by rw [hM3, z_I_sI, if_pos ⟨rfl, rfl⟩]
      have X3 := (hi.sm C3.1.1).1
      obtain ⟨My, r1, r2, r3, r4⟩ := zc_ord hi h8 n (2 ^ l.length - 1 - 2 ^ f) f 0 q_fuel M3 hLl (by omega) g1 bf (by omega) (by unfold q_fuel; omega) C3 T3
      have all3 := zc_all X3 C3.1.2.1 h8 g1
      have r1 : f_X3_findOrder_b15 95 q_fuel (nI f) (nI (2 ^ l.length - 1 - 2 ^ f)) (0 : Int32) M3 = some My := r1
      have fo : f_X3_findOrder M3 95 (nI f) = some My := by simp only [f_X3_findOrder, zob_95 X3, z_mxN (show f < 2147483648 by omega), all3, Option.bind_some, r1]
      have hm2 : q_I M2 95 2 = nI (n + 1) := by rw [b2.1.2.1, e]
      have nz : (nI (n + 1) = 0) = False := eq_false (nI_ne0 (by omega) (by omega))
      refine ⟨My, ?_, z_F1.sm C3.1.1 r2 (by unfold z_core; omega), fun h => absurd h (by omega), fun n' hn' => ?_⟩
      · simp only [fs, Option.bind_some, n0, if_true, nr, if_false, f_X3_plan_b37, zo_95 hX, hm2, nz, g2, hom, all, rest, nI_add, ← hM3, fo]
      · obtain rfl : n = n' := by omega
        rw [hb]
        refine ⟨?_, ?_, fun j hj => ?_⟩
        · rw [r2.2.1 95 (by decide), e7]
          show _ = nI (_ + _)
          rw [Nat.add_comm]
        · rw [r2.2.1 95 (by decide)]
          exact C3.1.2.1
        · have := r4 j (by omega)
          rw [Nat.zero_add] at this
          exact this
/-! ===== route, routeAt ===== -/
theorem z_full20 : ∀ m, m < 21 → ((1 : Int32) <<< (nI m &&& 31)) - (1 : Int32) = nI (2 ^ m - 1) := by decide +kernel
theorem z_gset {M : q_Mem} (hi : z_Inv M) (p1 : Int32) : (f_X11_isSet M p1 2 = some 0 ∧ ∀ (M2 : q_Mem) (a2 : Int32), z_Lay M2 → q_I M2 109 = q_I M 109 → f_X12_whyRoute M2 108 p1 a2 = some (-2)) ∨
    ∃ s, s < 1048576 ∧ p1 = nI s ∧ f_X11_isSet M p1 2 = some 1 ∧ f_J6_bitCount_0f7a4 M p1 = some (nI (r_A (Nat.testBit s) id (z_m (q_I M 109) 0)).length) ∧ ∀ M2, z_Lay M2 → q_I M2 109 = q_I M 109 → f_X12_whyRoute M2 108 p1 (1 : Int32) = some (if 8 < (r_A (Nat.testBit s) id (z_m (q_I M 109) 0)).length then (-3 : Int32) else 1) := by
  have hL := hi.1
  obtain ⟨R, h3, hm, hcn⟩ := zt_0 hi
  have h0 : (0 : Int32).toInt = 0 := rfl
  generalize hmg : z_m (q_I M 109) 0 = m at *
  have e1 := z_full20 m (by omega)
  have hpow : 2 ^ m ≤ 1048576 := Nat.pow_le_pow_right (n := 2) (by decide) (show m ≤ 20 by omega)
  have hpos : 0 < 2 ^ m := Nat.pow_pos (by decide)
  have e2 : (nI (2 ^ m - 1)).toInt = (2 ^ m : Nat) - 1 := by rw [nI_toInt (by omega)]; omega
  have e3 := z_shr0 (x := p1) (m := m) (by omega)
  have e4 : ((2 : Int) ^ m) = ((2 ^ m : Nat) : Int) := by norm_cast
  rw [e4] at e3
  by_cases g : 0 ≤ p1.toInt ∧ p1.toInt < ((2 ^ m : Nat) : Int)
  · right
    have n3 := e3.mpr g
    obtain ⟨s, hs, rfl⟩ := z_of (n := 2 ^ m) g (by omega)
    have n2 : ¬ nI s < 0 := nI_pos (by omega)
    have len : (r_A (Nat.testBit s) id m).length = r_pc 20 s := by rw [r_A_pc, r_pc_more m 20 s hs (by omega)]
    have hp : r_pc 20 s ≤ 20 := by
      rw [← len]
      exact Nat.le_trans (r_A_le m) hm
    have sz : ∀ M2, f_X12_sizeOf M2 (nI s) = some (nI (r_pc 20 s)) := fun M2 => by
      have := z_sizeOf (M := M2) 20 q_fuel 0 s (by omega) (by omega) (by unfold q_fuel; omega)
      rw [Nat.zero_add] at this
      exact this
    refine ⟨s, by omega, rfl, ?_, ?_, fun M2 hL2 e9 => ?_⟩
    · simp only [f_X11_isSet, n2, if_false, zo_2 hL, h3, Option.bind_some, n3, if_true]
    · rw [len]
      exact z_bitCount (by omega)
    · have gm : (0 : Int32).toInt ≤ (nI s).toInt ∧ (nI s).toInt ≤ (nI (2 ^ m - 1)).toInt := ⟨by omega, by omega⟩
      have n10 : ((1 : Int32) = 0) = False := by decide
      rw [len]
      simp only [f_X12_whyRoute, zob_108 hL2, zo_108 hL2, zl_ hL2, e9, hcn, z_m_in, e1, Option.bind_some, z_b0, n10, if_false, gm, and_self, if_true, sz]
      by_cases c : 8 < r_pc 20 s
      · rw [if_pos c, if_pos (show (8 : Int32) < nI (r_pc 20 s) from nI_lt (a := 8) c (by omega))]
      · rw [if_neg c, if_neg (show ¬ (8 : Int32) < nI (r_pc 20 s) from nI_nlt (a := 8) (by omega) (by decide))]
  · left
    refine ⟨?_, fun M2 a2 hL2 e9 => ?_⟩
    · unfold f_X11_isSet
      by_cases c : p1 < 0
      · rw [if_pos c]
      · rw [if_neg c, (zo_2 hL).1 3, h3, Option.bind_some, if_neg (fun z => g (e3.mp z))]
    · have gm : ¬ ((0 : Int32).toInt ≤ p1.toInt ∧ p1.toInt ≤ (nI (2 ^ m - 1)).toInt) := fun z => g ⟨by omega, by omega⟩
      by_cases c : a2 = 0
      · simp only [f_X12_whyRoute, zob_108 hL2, c, if_true]
      · simp only [f_X12_whyRoute, zob_108 hL2, zo_108 hL2, zl_ hL2, e9, hcn, z_m_in, e1, Option.bind_some, z_b0, c, if_false, gm]
theorem Z_route_ok : Z_route := by
  intro M p1 hi
  have hL := hi.1
  rcases z_gset hi p1 with ⟨g1, g2⟩ | ⟨s, hs, rfl, g1, g3, g4⟩
  · refine ⟨-2, M, M, ?_, ?_, hi⟩
    · simp only [f_X11_route, zob_0 hL, zo_0 hL, zo_1 hL, g1, Option.bind_some, if_true]
    · have n : ((-2 : Int32) = 1) = False := by decide
      simp only [f_X12_route, zob_108 hL, g2 M 1 hL rfl, Option.bind_some, n, if_false]
  · obtain ⟨S, hS11, hS2, hS1⟩ := zs_sour hi
    have n10 : ((1 : Int32) = 0) = False := by decide
    have h20 : (r_A (Nat.testBit s) id (z_m (q_I M 109) 0)).length ≤ 20 := Nat.le_trans (r_A_le _) (zt_0 hi).2.2.1
    generalize hl : r_A (Nat.testBit s) id (z_m (q_I M 109) 0) = l at g3 g4 h20
    by_cases c : 8 < l.length
    · have c8 : ((8 : Int32) < nI l.length) = True := eq_true (nI_lt (a := 8) c (by omega))
      refine ⟨-3, M, M, ?_, ?_, hi⟩
      · simp only [f_X11_route, zob_0 hL, zo_0 hL, zo_1 hL, g1, g3, Option.bind_some, n10, if_false, c8, if_true]
      · have n : ((-3 : Int32) = 1) = False := by decide
        have w := g4 M hL rfl
        rw [if_pos c] at w
        simp only [f_X12_route, zob_108 hL, w, Option.bind_some, n, if_false]
    · have c8 : ((8 : Int32) < nI l.length) = False := eq_false (nI_nlt (a := 8) (by omega) (by decide))
      obtain ⟨My, r1, r2, r3, r4⟩ := zc_plan hi hs hl.symm (by omega) hS1 hS2
      obtain ⟨Mz, s1, s2, s3, s4, s5⟩ := zs_routeM hi r2 hs hl.symm (by omega) hS11 hS2
      have hY := (hi.sm r2).1
      have hZ := (hi.sm s2).1
      refine ⟨q_I My 95 7, My, Mz, ?_, ?_, hi.sm s2⟩
      · simp only [f_X11_route, zob_0 hL, zo_0 hL, zo_1 hL, g1, g3, Option.bind_some, n10, if_false, c8, r1, zo_0 hY, zo_95 hY]
      · have w := g4 My hY (z_inv9 r2)
        rw [if_neg c] at w
        have key : q_I Mz 108 23 = q_I My 95 7 := by
          cases e : l.length with
          | zero => rw [s4 e, (r3 e).1]
          | succ n =>
            have k1 := r4 n e
            have k2 := s5 n e
            cases hb : r_T (r_d (q_I M 109)) (r_h (q_I M 109)) (5 * n) S n [] l none with
            | none =>
              rw [hb] at k1 k2
              have k2 : q_I Mz 108 23 = -1 := k2
              rw [k2, k1.1]
            | some w =>
              rw [hb] at k1 k2
              rw [k2.1, k1.1]
        simp only [f_X12_route, zob_108 hY, w, Option.bind_some, if_true, s1, zo_108 hZ, key]
theorem Z_routeAt_ok : Z_routeAt := by
  intro M p1 p2 hi
  have hL := hi.1
  rcases z_gset hi p1 with ⟨g1, g2⟩ | ⟨s, hs, rfl, g1, g3, g4⟩
  · refine ⟨-2, M, M, ?_, ?_, hi⟩
    · simp only [f_X11_routeAt, zob_0 hL, zo_0 hL, zo_1 hL, g1, Option.bind_some, if_true]
    · have n : ((-2 : Int32) = 1) = False := by decide
      simp only [f_X12_routeAt, f_X12_routeAt_b11, zob_108 hL, g2 M 1 hL rfl, g2 M 0 hL rfl, Option.bind_some, n, if_false, ite_self]
  · obtain ⟨S, hS11, hS2, hS1⟩ := zs_sour hi
    have n10 : ((1 : Int32) = 0) = False := by decide
    have h20 : (r_A (Nat.testBit s) id (z_m (q_I M 109) 0)).length ≤ 20 := Nat.le_trans (r_A_le _) (zt_0 hi).2.2.1
    generalize hl : r_A (Nat.testBit s) id (z_m (q_I M 109) 0) = l at g3 g4 h20
    by_cases c0 : p2 < 0
    · refine ⟨-2, M, M, ?_, ?_, hi⟩
      · simp only [f_X11_routeAt, zob_0 hL, zo_0 hL, zo_1 hL, g1, Option.bind_some, n10, if_false, c0, if_true]
      · have n : ((-2 : Int32) = 1) = False := by decide
        simp only [f_X12_routeAt, f_X12_routeAt_b11, f_X12_whyRoute, zob_108 hL, c0, if_true, Option.bind_some, n, if_false]
    · obtain ⟨i, hi31, rfl⟩ := nI_of c0
      by_cases c : 8 < l.length
      · have c8 : ((8 : Int32) < nI l.length) = True := eq_true (nI_lt (a := 8) c (by omega))
        refine ⟨-3, M, M, ?_, ?_, hi⟩
        · simp only [f_X11_routeAt, zob_0 hL, zo_0 hL, zo_1 hL, g1, g3, Option.bind_some, n10, if_false, c0, c8, if_true]
        · have n : ((-3 : Int32) = 1) = False := by decide
          have w := g4 M hL rfl
          rw [if_pos c] at w
          simp only [f_X12_routeAt, f_X12_routeAt_b11, zob_108 hL, c0, w, Option.bind_some, n, if_false]
      · have c8 : ((8 : Int32) < nI l.length) = False := eq_false (nI_nlt (a := 8) (by omega) (by decide))
        obtain ⟨My, r1, r2, r3, r4⟩ := zc_plan hi hs hl.symm (by omega) hS1 hS2
        obtain ⟨Mz, s1, s2, s3, s4, s5⟩ := zs_routeM hi r2 hs hl.symm (by omega) hS11 hS2
        have hY := (hi.sm r2).1
        have hZ := (hi.sm s2).1
        have w := g4 My hY (z_inv9 r2)
        rw [if_neg c] at w
        have cls : f_X11_routeAt M 0 (nI s) (nI i) = (f_X3_stopAt My 95 (nI i)).bind fun v => some (v, My) := by
          simp only [f_X11_routeAt, zob_0 hL, zo_0 hL, zo_1 hL, g1, g3, Option.bind_some, n10, if_false, c0, c8, r1, zo_0 hY]
        have mdl : f_X12_routeAt My 108 (nI s) (nI i) = (if q_I Mz 108 23 = (-1 : Int32) then some ((-1 : Int32), Mz) else if nI i < nI l.length then (q_lI Mz 125 (nI i)).bind fun v13 => some (v13, Mz) else some ((-1 : Int32), Mz)) := by
          simp only [f_X12_routeAt, f_X12_routeAt_b11, zob_108 hY, c0, if_false, w, Option.bind_some, if_true, s1, zo_108 hZ, s3]
        have none_ : q_I My 95 2 = 0 → (q_I Mz 108 23 = -1 ∨ l.length = 0) → ∃ (r : Int32) (M1 M2 : q_Mem), f_X11_routeAt M 0 (nI s) (nI i) = some (r, M1) ∧ f_X12_routeAt M1 108 (nI s) (nI i) = some (r, M2) ∧ z_Inv M2 := fun h1 h2 => by
          have q : (nI i < (0 : Int32)) = False := eq_false (nI_pos hi31)
          refine ⟨-1, My, Mz, ?_, ?_, hi.sm s2⟩
          · rw [cls]
            simp only [f_X3_stopAt, zob_95 hY, zo_95 hY, q, h1, if_false, Option.bind_some]
          · rw [mdl]
            rcases h2 with h2 | h2
            · rw [if_pos h2]
            · rw [if_neg (show ¬ nI i < nI l.length by rw [h2]; exact nI_pos hi31), ite_self]
        cases e : l.length with
        | zero => exact none_ (r3 e).2 (Or.inr e)
        | succ n =>
          have k1 := r4 n e
          have k2 := s5 n e
          cases hb : r_T (r_d (q_I M 109)) (r_h (q_I M 109)) (5 * n) S n [] l none with
          | none =>
            rw [hb] at k1 k2
            exact none_ k1.2 (Or.inl k2)
          | some w =>
            rw [hb] at k1 k2
            obtain ⟨a1, a2, a3⟩ := k1
            obtain ⟨b1, b2, b3⟩ := k2
            have nb : ¬ q_I Mz 108 23 = (-1 : Int32) := by
              rw [b1, z_nI_ne1 (by omega)]
              exact fun z => z
            have q0 : (nI i < (0 : Int32)) = False := eq_false (nI_pos hi31)
            by_cases c3 : i < l.length
            · have q : (nI i < nI l.length) = True := eq_true (nI_lt c3 (by omega))
              have q8 : (nI i < (8 : Int32)) = True := eq_true (nI_lt (b := 8) (by omega) (by decide))
              refine ⟨nI (w.2.getD i 0), My, Mz, ?_, ?_, hi.sm s2⟩
              · rw [cls]
                simp only [f_X3_stopAt, zob_95 hY, zo_95 hY, q0, a2, q, q8, if_false, if_true, Option.bind_some, (za_100 hY).2.1 i (by omega), a3 i c3]
              · rw [mdl, if_neg nb, if_pos (nI_lt c3 (by omega)), (za_125 hZ).2.1 i (by omega), Option.bind_some, b3 i (by omega)]
            · have q : (nI i < nI l.length) = False := eq_false (nI_nlt (by omega) hi31)
              refine ⟨-1, My, Mz, ?_, ?_, hi.sm s2⟩
              · rw [cls]
                simp only [f_X3_stopAt, zob_95 hY, zo_95 hY, q0, a2, q, if_false, Option.bind_some]
              · rw [mdl, if_neg nb, if_neg (nI_nlt (by omega) hi31)]
