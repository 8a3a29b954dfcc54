/-! ===== the class' cart: the fewest miles home ===== -/
/-- the stops of a set of them -/
def r_L (l : List Nat) (left : Nat) : List Nat := r_A (Nat.testBit left) (fun k => l.getD k 0) l.length
/-- from stop k by all of the set home -/
def r_W (st : Nat → Int32) (l : List Nat) (left k : Nat) : Nat × List Nat := r_B (r_d st) (r_h st) (r_L l left).length (l.getD k 0) (r_L l left)
theorem r_clr : ∀ left, left < 256 → ∀ k, k < 8 → (nI left &&& (((1 : Int32) <<< (nI k &&& 31)) ^^^ (-1 : Int32))) = nI (if Nat.testBit left k = true then left - 2 ^ k else left) := by decide +kernel
theorem r_clr2 : ∀ left, left < 256 → ∀ k, k < 8 → Nat.testBit left k = true → 2 ^ k ≤ left ∧ ∀ j, j < 8 → Nat.testBit (left - 2 ^ k) j = (Nat.testBit left j && decide (j ≠ k)) := by decide +kernel
theorem r_full : ∀ n, n < 9 → (1 : Int32) <<< (nI n &&& 31) = nI (2 ^ n) ∧ ∀ k, k < n → (((1 : Int32) <<< (nI n &&& 31)) - (1 : Int32)) &&& (((1 : Int32) <<< (nI k &&& 31)) ^^^ (-1 : Int32)) = nI (2 ^ n - 1 - 2 ^ k) ∧ Nat.testBit (2 ^ n - 1) k = true := by decide +kernel
theorem r_L_le (l : List Nat) (left : Nat) : (r_L l left).length ≤ l.length := r_A_le _
theorem r_W_le (st : Nat → Int32) {l : List Nat} (h8 : l.length ≤ 8) (left k : Nat) : (r_W st l left k).1 ≤ 4000 := by
  have h1 := r_B_le (r_d_le st) (r_h_le st) (r_L l left).length (l.getD k 0) (r_L l left) rfl
  have h2 := r_L_le l left
  unfold r_W
  omega
theorem r_L_without {l : List Nat} {left k : Nat} (h8 : l.length ≤ 8) (hleft : left < 256) (hk : k < l.length) (hb : Nat.testBit left k = true) : r_L l (left - 2 ^ k) = r_A (Nat.testBit left) (fun k => l.getD k 0) k ++ r_R (Nat.testBit left) (fun k => l.getD k 0) l.length (l.length - (k + 1)) := by
  have c := (r_clr2 left hleft k (by omega) hb).2
  refine r_A_without hk ?_ (fun j hj e => ?_)
  · rw [c k (by omega)]; simp
  · rw [c j (by omega)]; simp [e]
theorem r_L_len {l : List Nat} {left k : Nat} (h8 : l.length ≤ 8) (hleft : left < 256) (hk : k < l.length) (hb : Nat.testBit left k = true) : (r_L l left).length = (r_L l (left - 2 ^ k)).length + 1 := by
  have e := r_A_R (c := Nat.testBit left) (g := fun k => l.getD k 0) (n := l.length) (l.length - k) (by omega)
  rw [r_R_step hk, if_pos hb, show l.length - (l.length - k) = k by omega] at e
  rw [r_L_without h8 hleft hk hb]
  unfold r_L
  rw [e]
  simp only [List.length_append, List.length_cons, List.length_nil]
  omega
/-- the table of the fewest miles, for the sets before left0, and there for the stops before k0 -/
def z_rtab (M Mx : q_Mem) (l : List Nat) (left0 k0 : Nat) : Prop := ∀ left k, k < l.length → (left < left0 ∨ (left = left0 ∧ k < k0)) → Nat.testBit left k = false → q_I Mx 99 (8 * left + k) = nI (r_W (q_I M 109) l left k).1
theorem zc_rest {Mx : q_Mem} (hX : z_Lay Mx) {left k : Nat} (hl : left < 256) (hk : k < 8) : f_X3_restOf Mx 95 (nI left) (nI k) = some (q_I Mx 99 (8 * left + k)) := by
  have c0 : (nI (8 * left + k) < 0) = False := eq_false (nI_pos (by omega))
  have c1 : (nI (8 * left + k) < nI 2048) = True := eq_true (nI_lt (by omega) (by decide))
  simp only [f_X3_restOf, zob_95 hX, zo_95 hX, z_8ix, c0, c1, if_true, if_false, (za_99 hX).1, (za_99 hX).2.1 (8 * left + k) (by omega), Option.bind_some]
theorem zc_home {Mx : q_Mem} (hX : z_Lay Mx) {k : Nat} (hk : k < 8) : f_X3_homeOf Mx 95 (nI k) = some (q_I Mx 98 k) := by
  have c0 : (nI k < 0) = False := eq_false (nI_pos (by omega))
  have c1 : (nI k < (8 : Int32)) = True := eq_true (nI_lt (b := 8) hk (by decide))
  simp only [f_X3_homeOf, zob_95 hX, zo_95 hX, c0, c1, if_true, if_false, (za_98 hX).2.1 k hk, Option.bind_some]
theorem zc_by {Mx : q_Mem} (hX : z_Lay Mx) {left stop next : Nat} (hl : left < 256) (hs : stop < 8) (hk : next < 8) : f_X3_milesBy Mx 95 (nI left) (nI stop) (nI next) = some (q_I Mx 97 (8 * stop + next) + q_I Mx 99 (8 * (if Nat.testBit left next = true then left - 2 ^ next else left) + next)) := by
  have c0 : (nI (8 * stop + next) < 0) = False := eq_false (nI_pos (by omega))
  have c1 : (nI (8 * stop + next) < nI 64) = True := eq_true (nI_lt (by omega) (by decide))
  have hx : (if Nat.testBit left next = true then left - 2 ^ next else left) < 256 := by
    split
    · exact Nat.lt_of_le_of_lt (Nat.sub_le _ _) hl
    · exact hl
  simp only [f_X3_milesBy, f_X3_milesBy_b34, zob_95 hX, zo_95 hX, z_8ix, c0, c1, if_true, if_false, (za_97 hX).1, (za_97 hX).2.1 (8 * stop + next) (by omega), Option.bind_some, r_clr left hl next hk, zc_rest hX hx hk]
theorem r_mi_N {a b : Nat} (ha : a < 2147483648) (hb : b < 2147483648) : q_mi (nI a) (nI b) = nI (if b < a then b else a) := by
  unfold q_mi
  by_cases c : b < a
  · rw [if_pos c, if_pos (nI_lt c ha)]
  · rw [if_neg c, if_neg (nI_nlt (by omega) hb)]
/-- what one more stop next would cost -/
def r_F (st : Nat → Int32) (s m x : Nat) (r : List Nat) : Nat × List Nat := (r_d st s x + (r_B (r_d st) (r_h st) m x r).1, x :: (r_B (r_d st) (r_h st) m x r).2)
theorem r_F_at (st : Nat → Int32) {l : List Nat} {left k stop : Nat} (h8 : l.length ≤ 8) (hleft : left < 256) (hk : k < l.length) (hb : Nat.testBit left k = true) {m : Nat} (hm : (r_L l left).length = m + 1) : r_F st (l.getD stop 0) m (l.getD k 0) (r_A (Nat.testBit left) (fun k => l.getD k 0) k ++ r_R (Nat.testBit left) (fun k => l.getD k 0) l.length (l.length - (k + 1))) = (r_d st (l.getD stop 0) (l.getD k 0) + (r_W st l (left - 2 ^ k) k).1, l.getD k 0 :: (r_W st l (left - 2 ^ k) k).2) := by
  have e := r_L_len h8 hleft hk hb
  rw [← r_L_without h8 hleft hk hb]
  have : m = (r_L l (left - 2 ^ k)).length := by omega
  subst this
  rfl
theorem zc_byN {M Mx : q_Mem} (hi : z_Inv M) {l : List Nat} (h8 : l.length ≤ 8) (hC : z_crt M Mx l) {left0 k0 left stop next : Nat} (hT : z_rtab M Mx l left0 k0) (hle : left ≤ left0) (hl : left < 256) (hs : stop < l.length) (hk : next < l.length) (hb : Nat.testBit left next = true) : f_X3_milesBy Mx 95 (nI left) (nI stop) (nI next) = some (nI (r_d (q_I M 109) (l.getD stop 0) (l.getD next 0) + (r_W (q_I M 109) l (left - 2 ^ next) next).1)) := by
  have hX := (hi.sm hC.1.1).1
  obtain ⟨c1, c2⟩ := r_clr2 left hl next (by omega) hb
  have hp : 0 < 2 ^ next := Nat.pow_pos (by decide)
  rw [zc_by hX hl (by omega) (by omega), if_pos hb, hC.2 stop next hs hk, hT (left - 2 ^ next) next hk (Or.inl (by omega)) (by rw [c2 next (by omega)]; simp), nI_add]
theorem zc_few {M Mx : q_Mem} (hi : z_Inv M) {l : List Nat} (h8 : l.length ≤ 8) (hC : z_crt M Mx l) {left0 k0 left stop : Nat} (hT : z_rtab M Mx l left0 k0) (hle : left ≤ left0) (hl : left < 256) (hs : stop < l.length) {m : Nat} (hm : (r_L l left).length = m + 1) : ∀ (d k fu : Nat) (u : Nat × List Nat), k + d = l.length → d < fu → u.1 < 2000000 →
    f_X3_fewestFrom_b16 Mx 95 (nI left) (nI stop) fu (nI u.1) (nI k) = some (nI (r_G (r_F (q_I M 109) (l.getD stop 0) m) (r_A (Nat.testBit left) (fun k => l.getD k 0) k) (r_R (Nat.testBit left) (fun k => l.getD k 0) l.length (l.length - k)) u).1) := by
  have hX := (hi.sm hC.1.1).1
  intro d
  induction d with
  | zero =>
    intro k fu u hd hf hu
    obtain ⟨g, rfl⟩ : ∃ g, fu = g + 1 := ⟨fu - 1, by omega⟩
    have hn : (nI k < nI l.length) = False := eq_false (nI_nlt (by omega) (by omega))
    rw [show l.length - k = 0 by omega]
    simp only [f_X3_fewestFrom_b16.eq_2, zo_95 hX, hC.1.2.1, Option.bind_some, hn, if_false]
    rfl
  | succ d ih =>
    intro k fu u hd hf hu
    obtain ⟨g, rfl⟩ : ∃ g, fu = g + 1 := ⟨fu - 1, by omega⟩
    have hn : (nI k < nI l.length) = True := eq_true (nI_lt (by omega) (by omega))
    have hh := z_holds (M := Mx) (s := left) (f := k) (by omega) (by omega)
    have hk : k < l.length := by omega
    rw [r_R_step hk]
    by_cases z : Nat.testBit left k = true
    · rw [if_pos z] at hh ⊢
      have kb := zc_byN hi h8 hC hT hle hl hs hk z
      have hw := r_W_le (q_I M 109) h8 (left - 2 ^ k) k
      have hdd := r_d_le (q_I M 109) (l.getD stop 0) (l.getD k 0)
      have eF := r_F_at (q_I M 109) (stop := stop) h8 hl hk z hm
      have eA : r_A (Nat.testBit left) (fun k => l.getD k 0) (k + 1) = r_A (Nat.testBit left) (fun k => l.getD k 0) k ++ [l.getD k 0] := by
        show _ ++ (if Nat.testBit left k = true then [l.getD k 0] else []) = _
        rw [if_pos z]
      have e2 : r_G (r_F (q_I M 109) (l.getD stop 0) m) (r_A (Nat.testBit left) (fun k => l.getD k 0) k) ([l.getD k 0] ++ r_R (Nat.testBit left) (fun k => l.getD k 0) l.length (l.length - (k + 1))) u = r_G (r_F (q_I M 109) (l.getD stop 0) m) (r_A (Nat.testBit left) (fun k => l.getD k 0) (k + 1)) (r_R (Nat.testBit left) (fun k => l.getD k 0) l.length (l.length - (k + 1))) (r_mn u (r_F (q_I M 109) (l.getD stop 0) m (l.getD k 0) (r_A (Nat.testBit left) (fun k => l.getD k 0) k ++ r_R (Nat.testBit left) (fun k => l.getD k 0) l.length (l.length - (k + 1))))) := by
        rw [eA]; rfl
      rw [e2, eF]
      have e3 : q_mi (nI u.1) (nI (r_d (q_I M 109) (l.getD stop 0) (l.getD k 0) + (r_W (q_I M 109) l (left - 2 ^ k) k).1)) = nI (r_mn u (r_d (q_I M 109) (l.getD stop 0) (l.getD k 0) + (r_W (q_I M 109) l (left - 2 ^ k) k).1, l.getD k 0 :: (r_W (q_I M 109) l (left - 2 ^ k) k).2)).1 := by
        rw [r_mi_N (by omega) (by omega)]
        unfold r_mn
        split <;> rfl
      have ih1 := ih (k + 1) g (r_mn u (r_d (q_I M 109) (l.getD stop 0) (l.getD k 0) + (r_W (q_I M 109) l (left - 2 ^ k) k).1, l.getD k 0 :: (r_W (q_I M 109) l (left - 2 ^ k) k).2)) (by omega) (by omega) (by
        unfold r_mn
        split
        · show _ + _ < _; omega
        · exact hu)
      simp only [f_X3_fewestFrom_b16.eq_2, zo_95 hX, hC.1.2.1, Option.bind_some, hn, if_true, hh, show ((1 : Int32) = 0) = False by decide, if_false, kb, e3, nI_1]
      exact ih1
    · rw [if_neg z] at hh ⊢
      have eA : r_A (Nat.testBit left) (fun k => l.getD k 0) (k + 1) = r_A (Nat.testBit left) (fun k => l.getD k 0) k := by
        show _ ++ (if Nat.testBit left k = true then [l.getD k 0] else []) = _
        rw [if_neg z, List.append_nil]
      have ih1 := ih (k + 1) g u (by omega) (by omega) hu
      rw [eA] at ih1
      simp only [f_X3_fewestFrom_b16.eq_2, zo_95 hX, hC.1.2.1, Option.bind_some, hn, if_true, hh, nI_1]
      exact ih1
/-- a set of stops that has one -/
theorem r_L_ne {l : List Nat} {left : Nat} (h0 : left ≠ 0) (hl : left < 2 ^ l.length) : ∃ m, (r_L l left).length = m + 1 := by
  obtain ⟨k, hk⟩ := Nat.exists_testBit_of_ne_zero h0
  have hkl : k < l.length := by
    rcases Nat.lt_or_ge k l.length with c | c
    · exact c
    · exfalso
      have : Nat.testBit left k = false := Nat.testBit_lt_two_pow (Nat.lt_of_lt_of_le hl (Nat.pow_le_pow_right (by decide) c))
      rw [this] at hk
      cases hk
  have e := r_A_R (c := Nat.testBit left) (g := fun k => l.getD k 0) (n := l.length) (l.length - k) (by omega)
  rw [r_R_step hkl, if_pos hk] at e
  refine ⟨(r_L l left).length - 1, ?_⟩
  have : 0 < (r_L l left).length := by
    unfold r_L
    rw [e]
    simp only [List.length_append, List.length_cons]
    omega
  omega
theorem r_L_0 (l : List Nat) : r_L l 0 = [] := by
  unfold r_L
  have : ∀ n, r_A (Nat.testBit 0) (fun k => l.getD k 0) n = [] := by
    intro n
    induction n with
    | zero => rfl
    | succ n ih =>
      show r_A _ _ n ++ (if Nat.testBit 0 n = true then _ else []) = []
      rw [ih, Nat.zero_testBit, if_neg (by decide)]
      rfl
  exact this _
theorem r_W_G (st : Nat → Int32) {l : List Nat} {left stop m : Nat} (hm : (r_L l left).length = m + 1) : r_W st l left stop = r_G (r_F st (l.getD stop 0) m) (r_A (Nat.testBit left) (fun k => l.getD k 0) 0) (r_R (Nat.testBit left) (fun k => l.getD k 0) l.length (l.length - 0)) (1000000, []) := by
  have e := r_A_R (c := Nat.testBit left) (g := fun k => l.getD k 0) (n := l.length) (l.length - 0) (by omega)
  rw [show l.length - (l.length - 0) = 0 by omega] at e
  unfold r_W
  rw [hm]
  show r_G (r_F st (l.getD stop 0) m) [] (r_L l left) (1000000, []) = _
  have e : r_L l left = [] ++ r_R (Nat.testBit left) (fun k => l.getD k 0) l.length (l.length - 0) := e
  rw [e, List.nil_append]
  rfl
theorem zc_fewest {M Mx : q_Mem} (hi : z_Inv M) {l : List Nat} (h8 : l.length ≤ 8) (hC : z_crt M Mx l) {left0 k0 left stop : Nat} (hT : z_rtab M Mx l left0 k0) (hle : left ≤ left0) (hl : left < 2 ^ l.length) (hs : stop < l.length) : f_X3_fewestFrom Mx 95 (nI left) (nI stop) = some (nI (r_W (q_I M 109) l left stop).1) := by
  have hX := (hi.sm hC.1.1).1
  have h256 : 2 ^ l.length ≤ 256 := Nat.pow_le_pow_right (n := 2) (by decide) h8
  by_cases c : left = 0
  · subst c
    have e0 : (nI 0 = 0) = True := by decide
    simp only [f_X3_fewestFrom, zob_95 hX, e0, if_true, zc_home hX (show stop < 8 by omega), Option.bind_some, (hC.1.2.2 stop hs).2]
    unfold r_W
    rw [r_L_0]
    rfl
  · have e0 : (nI left = 0) = False := eq_false (fun z => c ((nI_eq (b := 0) (by omega) (by decide)).mp z))
    obtain ⟨m, hm⟩ := r_L_ne c hl
    have k := zc_few hi h8 hC hT hle (by omega) hs hm l.length 0 q_fuel (1000000, []) (by omega) (z_fu (by omega)) (by decide)
    rw [← r_W_G (q_I M 109) hm] at k
    have k : f_X3_fewestFrom_b16 Mx 95 (nI left) (nI stop) q_fuel (1000000 : Int32) (0 : Int32) = _ := k
    simp only [f_X3_fewestFrom, zob_95 hX, e0, if_false, k]
theorem z_crt.f1 {M Mx My : q_Mem} {p : List Nat} {x : Nat} (h : z_crt M Mx p) (f : z_F1 x Mx My) (hx : ¬ z_core x) (h5 : x ≠ 95) (h6 : x ≠ 96) (h7 : x ≠ 97) (h8 : x ≠ 98) : z_crt M My p :=
  ⟨h.1.f1 f hx h5 h6 h8, fun a b ha hb => by rw [f.2.1 97 (Ne.symm h7)]; exact h.2 a b ha hb⟩
/-- one set of stops -/
theorem zc_set {M : q_Mem} (hi : z_Inv M) {l : List Nat} (h8 : l.length ≤ 8) {left : Nat} (hl : left < 2 ^ l.length) (kk : Int32 → q_Mem → Option q_Mem) : ∀ (d k fu : Nat) (Mx : q_Mem), k + d = l.length → d < fu → z_crt M Mx l → z_rtab M Mx l left k →
    ∃ My, f_X3_findRests_b14 kk 95 (nI left) fu (nI k) Mx = kk (nI (left + 1)) My ∧ z_crt M My l ∧ z_rtab M My l (left + 1) 0 := by
  have h256 : 2 ^ l.length ≤ 256 := Nat.pow_le_pow_right (n := 2) (by decide) h8
  intro d
  induction d with
  | zero =>
    intro k fu Mx hd hf hC hT
    obtain ⟨g, rfl⟩ : ∃ g, fu = g + 1 := ⟨fu - 1, by omega⟩
    have hX := (hi.sm hC.1.1).1
    have hn : (nI k < nI l.length) = False := eq_false (nI_nlt (by omega) (by omega))
    refine ⟨Mx, ?_, hC, fun a b hb hab hz => hT a b hb (by omega) hz⟩
    simp only [f_X3_findRests_b14.eq_2, zo_95 hX, hC.1.2.1, Option.bind_some, hn, if_false, nI_1]
  | succ d ih =>
    intro k fu Mx hd hf hC hT
    obtain ⟨g, rfl⟩ : ∃ g, fu = g + 1 := ⟨fu - 1, by omega⟩
    have hX := (hi.sm hC.1.1).1
    have hn : (nI k < nI l.length) = True := eq_true (nI_lt (by omega) (by omega))
    have hh := z_holds (M := Mx) (s := left) (f := k) (by omega) (by omega)
    have n20 : (nI (8 * left + k) < nI 2048) = True := eq_true (nI_lt (by omega) (by decide))
    by_cases z : Nat.testBit left k = true
    · rw [if_pos z] at hh
      obtain ⟨My, r1, r2, r3⟩ := ih (k + 1) g Mx (by omega) (by omega) hC (fun a b hb hab hz => by
        by_cases e : a = left ∧ b = k
        · rw [e.1, e.2, z] at hz; cases hz
        · exact hT a b hb (by omega) hz)
      refine ⟨My, ?_, r2, r3⟩
      simp only [f_X3_findRests_b14.eq_2, zo_95 hX, hC.1.2.1, Option.bind_some, hn, if_true, (za_99 hX).1, z_8ix, n20, hh, show ((1 : Int32) = 0) = False by decide, if_false, nI_1]
      exact r1
    · rw [if_neg z] at hh
      have fw := zc_fewest hi h8 hC hT (Nat.le_refl _) hl (stop := k) (by omega)
      have F : z_F1 99 Mx (q_sI Mx 99 (8 * left + k) (nI (r_W (q_I M 109) l left k).1)) := z_F1.sI (by decide)
      obtain ⟨My, r1, r2, r3⟩ := ih (k + 1) g (q_sI Mx 99 (8 * left + k) (nI (r_W (q_I M 109) l left k).1)) (by omega) (by omega) (hC.f1 F (by unfold z_core; omega) (by decide) (by decide) (by decide) (by decide)) (fun a b hb hab hz => by
        rw [z_I_sI]
        by_cases e : 8 * a + b = 8 * left + k
        · have ea : a = left := by omega
          have eb : b = k := by omega
          rw [if_pos ⟨rfl, e⟩, ea, eb]
        · rw [if_neg (fun y => e y.2)]
          refine hT a b hb ?_ hz
          rcases hab with h | ⟨h, h'⟩
          · exact Or.inl h
          · refine Or.inr ⟨h, ?_⟩
            rcases Nat.lt_or_ge b k with y | y
            · exact y
            · exfalso
              have : b = k := by omega
              exact e (by rw [h, this]))
      refine ⟨My, ?_, r2, r3⟩
      simp only [f_X3_findRests_b14.eq_2, zo_95 hX, hC.1.2.1, Option.bind_some, hn, if_true, (za_99 hX).1, z_8ix, n20, hh, fw, (za_99 hX).2.2 (8 * left + k) _ (show 8 * left + k < 2048 by omega), nI_1]
      exact r1
theorem zc_sets {M : q_Mem} (hi : z_Inv M) {l : List Nat} (h8 : l.length ≤ 8) : ∀ (d left fu : Nat) (Mx : q_Mem), left + d = 2 ^ l.length → d < fu → z_crt M Mx l → z_rtab M Mx l left 0 →
    ∃ My, f_X3_findRests_b2 95 fu (nI left) Mx = some My ∧ z_crt M My l ∧ z_rtab M My l (2 ^ l.length) 0 := by
  have h256 : 2 ^ l.length ≤ 256 := Nat.pow_le_pow_right (n := 2) (by decide) h8
  have ef := (r_full l.length (by omega)).1
  intro d
  induction d with
  | zero =>
    intro left fu Mx hd hf hC hT
    obtain ⟨g, rfl⟩ : ∃ g, fu = g + 1 := ⟨fu - 1, by omega⟩
    have hX := (hi.sm hC.1.1).1
    obtain rfl : left = 2 ^ l.length := by omega
    have hn : (nI (2 ^ l.length) < nI (2 ^ l.length)) = False := eq_false (nI_nlt (Nat.le_refl _) (by omega))
    refine ⟨Mx, ?_, hC, hT⟩
    simp only [f_X3_findRests_b2.eq_2, zo_95 hX, hC.1.2.1, Option.bind_some, ef, hn, if_false]
  | succ d ih =>
    intro left fu Mx hd hf hC hT
    obtain ⟨g, rfl⟩ : ∃ g, fu = g + 1 := ⟨fu - 1, by omega⟩
    have hX := (hi.sm hC.1.1).1
    have hn : (nI left < nI (2 ^ l.length)) = True := eq_true (nI_lt (by omega) (by omega))
    obtain ⟨My, r1, r2, r3⟩ := zc_set hi h8 (left := left) (by omega) (f_X3_findRests_b2 95 g) l.length 0 q_fuel Mx (by omega) (z_fu (by omega)) hC hT
    have r1 : f_X3_findRests_b14 (f_X3_findRests_b2 95 g) 95 (nI left) q_fuel (0 : Int32) Mx = _ := r1
    obtain ⟨Mz, s1, s2, s3⟩ := ih (left + 1) g My (by omega) (by omega) r2 r3
    refine ⟨Mz, ?_, s2, s3⟩
    simp only [f_X3_findRests_b2.eq_2, zo_95 hX, hC.1.2.1, Option.bind_some, ef, hn, if_true, r1]
    exact s1
theorem zc_rests {M Mx : q_Mem} (hi : z_Inv M) {l : List Nat} (h8 : l.length ≤ 8) (hC : z_crt M Mx l) : ∃ My, f_X3_findRests Mx 95 = some My ∧ z_crt M My l ∧ z_rtab M My l (2 ^ l.length) 0 := by
  have hX := (hi.sm hC.1.1).1
  have h256 : 2 ^ l.length ≤ 256 := Nat.pow_le_pow_right (n := 2) (by decide) h8
  obtain ⟨My, r1, r2, r3⟩ := zc_sets hi h8 (2 ^ l.length) 0 q_fuel Mx (by omega) (z_fu (by omega)) hC (fun a b hb hab => absurd hab (by omega))
  have r1 : f_X3_findRests_b2 95 q_fuel (0 : Int32) Mx = _ := r1
  exact ⟨My, by simp only [f_X3_findRests, zob_95 hX, r1], r2, r3⟩
