/-! ===== the class' cart: stops, miles ===== -/
/-- the cart's stops, their miles home and between them -/
def z_cart (M Mx : q_Mem) (p : List Nat) : Prop := z_sm M Mx ∧ q_I Mx 95 2 = nI p.length ∧ ∀ k, k < p.length → q_I Mx 96 k = nI (p.getD k 0) ∧ q_I Mx 98 k = nI (r_h (q_I M 109) (p.getD k 0))
theorem zc_stops {M : q_Mem} (hi : z_Inv M) {s : Nat} (hs : s < 1048576) {l : List Nat} (hl : l = r_A (Nat.testBit s) id (z_m (q_I M 109) 0)) (h8 : l.length ≤ 8) : ∀ (d i fu : Nat) (Mx : q_Mem), i + d = z_m (q_I M 109) 0 → d < fu → z_cart M Mx (r_A (Nat.testBit s) id i) →
    ∃ My, f_X3_takeStops_b7 95 (nI s) fu (nI i) Mx = f_X3_takeStops_b115 95 q_fuel (0 : Int32) My ∧ z_cart M My l := by
  obtain ⟨R, h3, hm, hcn⟩ := zt_0 hi
  intro d
  induction d with
  | zero =>
    intro i fu Mx hd hf hS
    obtain ⟨g, rfl⟩ : ∃ g, fu = g + 1 := ⟨fu - 1, by omega⟩
    have hiX := hi.sm hS.1
    have hX := hiX.1
    have e9 := z_inv9 hS.1
    obtain ⟨RX, k3, km, kcn⟩ := zt_0 hiX
    rw [e9] at k3
    obtain rfl : i = z_m (q_I M 109) 0 := by omega
    have hn : (nI (z_m (q_I M 109) 0) < nI (z_m (q_I M 109) 0)) = False := eq_false (nI_nlt (Nat.le_refl _) (by omega))
    refine ⟨Mx, ?_, by rw [hl]; exact hS⟩
    simp only [f_X3_takeStops_b7.eq_2, zo_95 hX, zo_1 hX, zo_2 hX, k3, Option.bind_some, hn, if_false]
  | succ d ih =>
    intro i fu Mx hd hf hS
    obtain ⟨g, rfl⟩ : ∃ g, fu = g + 1 := ⟨fu - 1, by omega⟩
    have hiX := hi.sm hS.1
    have hX := hiX.1
    have e9 := z_inv9 hS.1
    obtain ⟨RX, k3, km, kcn⟩ := zt_0 hiX
    rw [e9] at k3
    have hj : i < z_m (q_I M 109) 0 := by omega
    have hn : (nI i < nI (z_m (q_I M 109) 0)) = True := eq_true (nI_lt hj (by omega))
    have st : r_A (Nat.testBit s) id (i + 1) = r_A (Nat.testBit s) id i ++ (if Nat.testBit s i = true then [i] else []) := rfl
    have hmono := r_A_mono (c := Nat.testBit s) (g := id) (n := z_m (q_I M 109) 0) (k := i + 1) (by omega)
    have hmono0 := r_A_mono (c := Nat.testBit s) (g := id) (n := z_m (q_I M 109) 0) (k := i) (by omega)
    rw [← hl] at hmono hmono0
    obtain ⟨a0, a1, a2⟩ := hS
    by_cases c8 : (r_A (Nat.testBit s) id i).length < 8
    · have n8 : (nI (r_A (Nat.testBit s) id i).length < (8 : Int32)) = True := eq_true (nI_lt (b := 8) c8 (by decide))
      by_cases z : Nat.testBit s i = true
      · rw [if_pos z] at st
        have hlen : (r_A (Nat.testBit s) id (i + 1)).length = (r_A (Nat.testBit s) id i).length + 1 := by rw [st, List.length_append]; rfl
        have hh := z_holds (M := Mx) (s := s) (f := i) (by omega) (by omega)
        rw [if_pos z] at hh
        have hrh := z_rhN hi hj
        have X1 : z_Lay (q_sI Mx 96 (r_A (Nat.testBit s) id i).length (nI i)) := hX
        have s1 : z_sm M (q_sI Mx 96 (r_A (Nat.testBit s) id i).length (nI i)) := a0.tr (z_sm.sI (by unfold z_core; omega))
        have hi1 := hi.sm s1
        have rr := zr_0 hi1 (i := i) (by rw [z_inv9 s1]; exact hj)
        rw [z_inv9 s1] at rr
        have g2 : q_I (q_sI Mx 96 (r_A (Nat.testBit s) id i).length (nI i)) 95 2 = nI (r_A (Nat.testBit s) id i).length := by rw [q_sI_ne (by decide)]; exact a1
        have X2 : z_Lay (q_sI (q_sI Mx 96 (r_A (Nat.testBit s) id i).length (nI i)) 98 (r_A (Nat.testBit s) id i).length (nI (r_h (q_I M 109) i))) := hX
        have g3 : q_I (q_sI (q_sI Mx 96 (r_A (Nat.testBit s) id i).length (nI i)) 98 (r_A (Nat.testBit s) id i).length (nI (r_h (q_I M 109) i))) 95 2 = nI (r_A (Nat.testBit s) id i).length := by rw [q_sI_ne (by decide)]; exact g2
        obtain ⟨My, r1, r2⟩ := ih (i + 1) g (q_sI (q_sI (q_sI Mx 96 (r_A (Nat.testBit s) id i).length (nI i)) 98 (r_A (Nat.testBit s) id i).length (nI (r_h (q_I M 109) i))) 95 2 (nI ((r_A (Nat.testBit s) id i).length + 1))) (by omega) (by omega) ⟨(s1.tr (z_sm.sI (by unfold z_core; omega))).tr (z_sm.sI (by unfold z_core; omega)), by rw [z_I_sI, if_pos ⟨rfl, rfl⟩, hlen], fun k hk => by
          rw [q_sI_ne (by decide), q_sI_ne (show (96 : Nat) ≠ 98 by decide), q_sI_ne (show (98 : Nat) ≠ 95 by decide), z_I_sI, z_I_sI, q_sI_ne (show (98 : Nat) ≠ 96 by decide), st]
          by_cases e : k = (r_A (Nat.testBit s) id i).length
          · rw [if_pos ⟨rfl, e⟩, if_pos ⟨rfl, e⟩, r_app2 (by omega), e, Nat.sub_self]; exact ⟨rfl, rfl⟩
          · rw [if_neg (fun y => e y.2), if_neg (fun y => e y.2), r_app1 (by omega)]
            exact a2 k (by omega)⟩
        refine ⟨My, ?_, r2⟩
        simp only [f_X3_takeStops_b7.eq_2, zo_95 hX, zo_1 hX, zo_2 hX, k3, Option.bind_some, hn, if_true, a1, n8, hh, show ((1 : Int32) = 0) = False by decide, if_false, (za_96 hX).2.2 _ _ c8, zo_95 X1, zo_1 X1, zo_2 X1, g2, rr, hrh, (za_98 X1).2.2 _ _ c8, zo_95 X2, g3, nI_1]
        exact r1
      · rw [if_neg z, List.append_nil] at st
        have hh := z_holds (M := Mx) (s := s) (f := i) (by omega) (by omega)
        rw [if_neg z] at hh
        obtain ⟨My, r1, r2⟩ := ih (i + 1) g Mx (by omega) (by omega) (by rw [st]; exact ⟨a0, a1, a2⟩)
        refine ⟨My, ?_, r2⟩
        simp only [f_X3_takeStops_b7.eq_2, zo_95 hX, zo_1 hX, zo_2 hX, k3, Option.bind_some, hn, if_true, a1, n8, hh, nI_1]
        exact r1
    · have n8 : (nI (r_A (Nat.testBit s) id i).length < (8 : Int32)) = False := eq_false (nI_nlt (b := 8) (by omega) (by omega))
      have e := r_A_R (c := Nat.testBit s) (g := id) (n := z_m (q_I M 109) 0) (z_m (q_I M 109) 0 - i) (by omega)
      rw [← hl, show z_m (q_I M 109) 0 - (z_m (q_I M 109) 0 - i) = i by omega] at e
      have e2 := congrArg List.length e
      rw [List.length_append] at e2
      have e3 : r_R (Nat.testBit s) id (z_m (q_I M 109) 0) (z_m (q_I M 109) 0 - i) = [] := List.length_eq_zero_iff.mp (by omega)
      rw [e3, List.append_nil] at e
      refine ⟨Mx, ?_, by rw [e]; exact ⟨a0, a1, a2⟩⟩
      simp only [f_X3_takeStops_b7.eq_2, zo_95 hX, zo_1 hX, zo_2 hX, k3, Option.bind_some, hn, if_true, a1, n8, if_false]
theorem z_F1.sm {M Mx My : q_Mem} {x : Nat} (h : z_sm M Mx) (f : z_F1 x Mx My) (hx : ¬ z_core x) : z_sm M My := h.tr ⟨f.1, fun a ha => f.2.1 a (fun z => hx (z ▸ ha))⟩
theorem z_cart.f1 {M Mx My : q_Mem} {p : List Nat} {x : Nat} (h : z_cart M Mx p) (f : z_F1 x Mx My) (hx : ¬ z_core x) (h5 : x ≠ 95) (h6 : x ≠ 96) (h8 : x ≠ 98) : z_cart M My p :=
  ⟨f.sm h.1 hx, by rw [f.2.1 95 (Ne.symm h5)]; exact h.2.1, fun k hk => by rw [f.2.1 96 (Ne.symm h6), f.2.1 98 (Ne.symm h8)]; exact h.2.2 k hk⟩
theorem z_8ix (i j : Nat) : (8 : Int32) * nI i + nI j = nI (8 * i + j) := by
  have m8 : (8 : Int32) = nI 8 := rfl
  rw [m8, pk_mul, nI_add]
/-- one row of the miles -/
theorem zc_row {M : q_Mem} (hi : z_Inv M) {l : List Nat} (h8 : l.length ≤ 8) (hl : ∀ x ∈ l, x < z_m (q_I M 109) 0) {i : Nat} (hi8 : i < l.length) (kk : Int32 → q_Mem → Option q_Mem) : ∀ (d j fu : Nat) (Mx : q_Mem), j + d = l.length → d < fu → z_cart M Mx l →
    ∃ My, f_X3_takeStops_b131 kk 95 (nI i) fu (nI j) Mx = kk (nI (i + 1)) My ∧ z_F1 97 Mx My ∧ ∀ q, q_I My 97 q = if 8 * i + j ≤ q ∧ q < 8 * i + l.length then nI (r_d (q_I M 109) (l.getD i 0) (l.getD (q - 8 * i) 0)) else q_I Mx 97 q := by
  intro d
  induction d with
  | zero =>
    intro j fu Mx hd hf hC
    obtain ⟨g, rfl⟩ : ∃ g, fu = g + 1 := ⟨fu - 1, by omega⟩
    have hX := (hi.sm hC.1).1
    have hn : (nI j < nI l.length) = False := eq_false (nI_nlt (by omega) (by omega))
    refine ⟨Mx, ?_, z_F1.rf, fun q => by rw [if_neg (by omega)]⟩
    simp only [f_X3_takeStops_b131.eq_2, zo_95 hX, hC.2.1, Option.bind_some, hn, if_false, nI_1]
  | succ d ih =>
    intro j fu Mx hd hf hC
    obtain ⟨g, rfl⟩ : ∃ g, fu = g + 1 := ⟨fu - 1, by omega⟩
    have hiX := hi.sm hC.1
    have hX := hiX.1
    have e9 := z_inv9 hC.1
    have hn : (nI j < nI l.length) = True := eq_true (nI_lt (by omega) (by omega))
    have n8 : (nI j < (8 : Int32)) = True := eq_true (nI_lt (b := 8) (by omega) (by decide))
    have ka : l.getD i 0 < z_m (q_I M 109) 0 := hl _ (r_mem hi8)
    have kb : l.getD j 0 < z_m (q_I M 109) 0 := hl _ (r_mem (by omega))
    have ra := zr_0 hiX (i := l.getD i 0) (by rw [e9]; exact ka)
    have rb := zr_0 hiX (i := l.getD j 0) (by rw [e9]; exact kb)
    have key := z_rdN hi ka kb
    rw [e9] at ra rb
    have mb : f_X11_milesBetween Mx 2 (nI (l.getD i 0)) 2 (nI (l.getD j 0)) = some (nI (r_d (q_I M 109) (l.getD i 0) (l.getD j 0))) := by
      simp only [f_X11_milesBetween, ra, rb, Option.bind_some, key]
    have wr := (za_97 hX).2.2 (8 * i + j) (nI (r_d (q_I M 109) (l.getD i 0) (l.getD j 0))) (by omega)
    obtain ⟨My, r1, r2, r3⟩ := ih (j + 1) g (q_sI Mx 97 (8 * i + j) (nI (r_d (q_I M 109) (l.getD i 0) (l.getD j 0)))) (by omega) (by omega) (hC.f1 (z_F1.sI (by decide)) (by unfold z_core; omega) (by decide) (by decide) (by decide))
    refine ⟨My, ?_, (z_F1.sI (by decide)).tr r2, fun q => ?_⟩
    · simp only [f_X3_takeStops_b131.eq_2, zo_95 hX, zo_1 hX, hC.2.1, Option.bind_some, hn, n8, if_true, (za_96 hX).2.1 i (by omega), (za_96 hX).2.1 j (by omega), (hC.2.2 i hi8).1, (hC.2.2 j (by omega)).1, mb, z_8ix, wr, nI_1]
      exact r1
    · rw [r3 q, z_I_sI]
      by_cases e : q = 8 * i + j
      · rw [if_neg (by omega), if_pos ⟨rfl, e⟩, if_pos (by omega), e, show 8 * i + j - 8 * i = j by omega]
      · by_cases e2 : 8 * i + (j + 1) ≤ q ∧ q < 8 * i + l.length
        · rw [if_pos e2, if_pos (by omega)]
        · rw [if_neg e2, if_neg (fun z => e z.2), if_neg (by omega)]
theorem zc_miles {M : q_Mem} (hi : z_Inv M) {l : List Nat} (h8 : l.length ≤ 8) (hl : ∀ x ∈ l, x < z_m (q_I M 109) 0) : ∀ (d i fu : Nat) (Mx : q_Mem), i + d = l.length → d < fu → z_cart M Mx l → (∀ a b, a < i → b < l.length → q_I Mx 97 (8 * a + b) = nI (r_d (q_I M 109) (l.getD a 0) (l.getD b 0))) →
    ∃ My, f_X3_takeStops_b115 95 fu (nI i) Mx = some My ∧ z_cart M My l ∧ ∀ a b, a < l.length → b < l.length → q_I My 97 (8 * a + b) = nI (r_d (q_I M 109) (l.getD a 0) (l.getD b 0)) := by
  intro d
  induction d with
  | zero =>
    intro i fu Mx hd hf hC hT
    obtain ⟨g, rfl⟩ : ∃ g, fu = g + 1 := ⟨fu - 1, by omega⟩
    have hX := (hi.sm hC.1).1
    have hn : (nI i < nI l.length) = False := eq_false (nI_nlt (by omega) (by omega))
    refine ⟨Mx, ?_, hC, fun a b ha hb => hT a b (by omega) hb⟩
    simp only [f_X3_takeStops_b115.eq_2, zo_95 hX, hC.2.1, Option.bind_some, hn, if_false]
  | succ d ih =>
    intro i fu Mx hd hf hC hT
    obtain ⟨g, rfl⟩ : ∃ g, fu = g + 1 := ⟨fu - 1, by omega⟩
    have hX := (hi.sm hC.1).1
    have hn : (nI i < nI l.length) = True := eq_true (nI_lt (by omega) (by omega))
    have n8 : (nI i < (8 : Int32)) = True := eq_true (nI_lt (b := 8) (by omega) (by decide))
    obtain ⟨My, r1, r2, r3⟩ := zc_row hi h8 hl (i := i) (by omega) (f_X3_takeStops_b115 95 g) l.length 0 q_fuel Mx (by omega) (z_fu (by omega)) hC
    have r1 : f_X3_takeStops_b131 (f_X3_takeStops_b115 95 g) 95 (nI i) q_fuel (0 : Int32) Mx = _ := r1
    obtain ⟨Mz, s1, s2, s3⟩ := ih (i + 1) g My (by omega) (by omega) (hC.f1 r2 (by unfold z_core; omega) (by decide) (by decide) (by decide)) (fun a b ha hb => by
      rw [r3 (8 * a + b)]
      by_cases e : a = i
      · rw [if_pos (by omega), e, show 8 * i + b - 8 * i = b by omega]
      · rw [if_neg (by omega)]
        exact hT a b (by omega) hb)
    refine ⟨Mz, ?_, s2, s3⟩
    simp only [f_X3_takeStops_b115.eq_2, zo_95 hX, hC.2.1, Option.bind_some, hn, n8, if_true, r1]
    exact s1
/-- the cart after its stops are taken -/
def z_crt (M Mx : q_Mem) (l : List Nat) : Prop := z_cart M Mx l ∧ ∀ a b, a < l.length → b < l.length → q_I Mx 97 (8 * a + b) = nI (r_d (q_I M 109) (l.getD a 0) (l.getD b 0))
theorem zc_take {M : q_Mem} (hi : z_Inv M) {s : Nat} (hs : s < 1048576) {l : List Nat} (hl : l = r_A (Nat.testBit s) id (z_m (q_I M 109) 0)) (h8 : l.length ≤ 8) : ∃ My, f_X3_takeStops M 95 (nI s) = some My ∧ z_crt M My l := by
  have hL := hi.1
  obtain ⟨R, h3, hm, hcn⟩ := zt_0 hi
  have hmem : ∀ x ∈ l, x < z_m (q_I M 109) 0 := fun x hx => by
    rw [hl] at hx
    obtain ⟨k, k1, _, rfl⟩ := r_A_mem _ hx
    exact k1
  obtain ⟨My, r1, r2⟩ := zc_stops hi hs hl h8 (z_m (q_I M 109) 0) 0 q_fuel (q_sI M 95 2 0) (by omega) (z_fu (by omega)) ⟨z_sm.sI (by unfold z_core; omega), by rw [z_I_sI, if_pos ⟨rfl, rfl⟩]; rfl, fun k hk => absurd hk (Nat.not_lt_zero _)⟩
  have r1 : f_X3_takeStops_b7 95 (nI s) q_fuel (0 : Int32) (q_sI M 95 2 0) = _ := r1
  obtain ⟨Mz, s1, s2, s3⟩ := zc_miles hi h8 hmem l.length 0 q_fuel My (by omega) (z_fu (by omega)) r2 (fun a b ha => absurd ha (Nat.not_lt_zero _))
  have s1 : f_X3_takeStops_b115 95 q_fuel (0 : Int32) My = _ := s1
  refine ⟨Mz, ?_, s2, s3⟩
  simp only [f_X3_takeStops, zob_95 hL, zo_95 hL, Option.bind_some, r1, s1]
