/-! ===== heaps: the least row of them all ===== -/
theorem h_rg_dn {p : List Nat} (h : h_rg p) {x : Nat} : ∀ e c, c < p.length → p.getD c 0 = x + e → ∃ c', c' ≤ c ∧ p.getD c' 0 = x := by
  intro e
  induction e with
  | zero => intro c h1 h2; exact ⟨c, Nat.le_refl _, h2⟩
  | succ e ih =>
    intro c h1 h2
    obtain ⟨c', h3, h4⟩ := h c h1 (by omega)
    obtain ⟨c'', h5, h6⟩ := ih c' (by omega) (by omega)
    exact ⟨c'', by omega, h6⟩
theorem h_su_one {f : Nat → Nat} {j : Nat} : ∀ n, j < n → h_su f (fun h => decide (h = j)) n = f j
  | 0, h => absurd h (Nat.not_lt_zero _)
  | n + 1, h => by
    show h_su f (fun h => decide (h = j)) n + (if decide (n = j) = true then f n else 0) = f j
    rcases Nat.lt_or_ge j n with z | z
    · rw [h_su_one n z, if_neg (by rw [decide_eq_true_eq]; omega)]
      rfl
    · obtain rfl : j = n := by omega
      rw [h_su_0 j (fun k hk => decide_eq_false (by omega)), if_pos (decide_eq_true rfl), Nat.zero_add]
/-- heap j, and the CREAMS of heap j and behind -/
def h_M (p : List Nat) (j : Nat) : Nat := h_mk (fun c => decide (p.getD c 0 = j)) p.length
def h_S (p : List Nat) (j : Nat) : Nat := h_mk (fun c => decide (j ≤ p.getD c 0)) p.length
def h_val (F : Nat → Nat) (p : List Nat) : Nat × Nat × Nat := (h_su (fun h => F (h_M p h)) (fun _ => true) (h_mx p), h_mx p, h_row p)
def h_vj (F : Nat → Nat) (p : List Nat) (j : Nat) : Nat × Nat × Nat := (h_su (fun h => F (h_M p h)) (fun h => decide (j ≤ h)) (h_mx p), h_mx p - j, h_su (fun c => h_di p c * h_w c) (fun c => decide (j ≤ p.getD c 0)) p.length)
theorem h_dec {F : Nat → Nat} {p : List Nat} (hr : h_rg p) (h10 : p.length ≤ 10) {j : Nat} (hj : j < h_mx p) :
    0 < h_S p j ∧ h_S p j < 2 ^ p.length ∧ (∀ c, Nat.testBit (h_M p j) c = true → Nat.testBit (h_S p j) c = true) ∧ Nat.testBit (h_M p j) (h_lo 10 (h_S p j)) = true ∧ h_S p j ^^^ h_M p j = h_S p (j + 1) ∧ h_vj F p j = h_ad (h_hp F (h_M p j)) (h_vj F p (j + 1)) := by
  have h1024 : 2 ^ p.length ≤ 1024 := Nat.pow_le_pow_right (n := 2) (by decide) h10
  obtain ⟨cx, cx1, cx2⟩ := h_rg_mem hr hj
  obtain ⟨i1, i2⟩ := h_ix_at p cx cx1 cx2
  have bS : ∀ j c, Nat.testBit (h_S p j) c = (decide (c < p.length) && decide (j ≤ p.getD c 0)) := fun j c => h_mk_bit _ _ _
  have bM : ∀ c, Nat.testBit (h_M p j) c = (decide (c < p.length) && decide (p.getD c 0 = j)) := fun c => h_mk_bit _ _ _
  have lS : h_S p j < 2 ^ p.length := h_mk_lt _ _
  have lM : h_M p j < 2 ^ p.length := h_mk_lt _ _
  have tM : Nat.testBit (h_M p j) (h_ix j p) = true := by rw [bM, decide_eq_true i1, decide_eq_true i2]; rfl
  have tS : Nat.testBit (h_S p j) (h_ix j p) = true := by rw [bS, decide_eq_true i1, decide_eq_true (show j ≤ p.getD (h_ix j p) 0 by omega)]; rfl
  have mn : ∀ c', c' < h_ix j p → p.getD c' 0 < j := fun c' hc' => by
    rcases Nat.lt_or_ge (p.getD c' 0) j with z | z
    · exact z
    · exfalso
      obtain ⟨c'', h1, h2⟩ := h_rg_dn hr (x := j) (p.getD c' 0 - j) c' (by omega) (by omega)
      have := h_ix_le p c'' (by omega) h2
      omega
  have loS : h_lo 10 (h_S p j) = h_ix j p := h_lo_is (by omega) tS (fun c' hc' => by
    have := mn c' hc'
    rw [bS, decide_eq_false (show ¬ j ≤ p.getD c' 0 by omega), Bool.and_false])
  have loM : h_lo 10 (h_M p j) = h_ix j p := h_lo_is (by omega) tM (fun c' hc' => by
    have := mn c' hc'
    rw [bM, decide_eq_false (show ¬ p.getD c' 0 = j by omega), Bool.and_false])
  have pos : 0 < h_S p j := by
    rcases Nat.eq_zero_or_pos (h_S p j) with z | z
    · rw [z, Nat.zero_testBit] at tS
      cases tS
    · exact z
  refine ⟨pos, lS, fun c hc => ?_, by rw [loS]; exact tM, Nat.eq_of_testBit_eq (fun c => ?_), Prod.ext ?_ (Prod.ext ?_ ?_)⟩
  · rw [bM] at hc
    obtain ⟨h1, h2⟩ := Bool.and_eq_true_iff.mp hc
    rw [decide_eq_true_eq] at h2
    rw [bS, h1, decide_eq_true (show j ≤ p.getD c 0 by omega)]
    rfl
  · rw [Nat.testBit_xor, bS, bM, bS]
    by_cases h1 : c < p.length
    · rw [decide_eq_true h1, Bool.true_and, Bool.true_and, Bool.true_and]
      rcases Nat.lt_trichotomy (p.getD c 0) j with z | z | z
      · rw [decide_eq_false (show ¬ j ≤ p.getD c 0 by omega), decide_eq_false (show ¬ p.getD c 0 = j by omega), decide_eq_false (show ¬ j + 1 ≤ p.getD c 0 by omega)]
        rfl
      · rw [decide_eq_true (show j ≤ p.getD c 0 by omega), decide_eq_true z, decide_eq_false (show ¬ j + 1 ≤ p.getD c 0 by omega)]
        rfl
      · rw [decide_eq_true (show j ≤ p.getD c 0 by omega), decide_eq_false (show ¬ p.getD c 0 = j by omega), decide_eq_true (show j + 1 ≤ p.getD c 0 by omega)]
        rfl
    · rw [decide_eq_false h1]
      rfl
  · show h_su (fun h => F (h_M p h)) (fun h => decide (j ≤ h)) (h_mx p) = F (h_M p j) + h_su (fun h => F (h_M p h)) (fun h => decide (j + 1 ≤ h)) (h_mx p)
    rw [h_su_add (d := fun h => decide (h = j)) (e := fun h => decide (j + 1 ≤ h)) (h_mx p) (fun h hh => by
      show decide (j ≤ h) = (decide (h = j) || decide (j + 1 ≤ h)) ∧ (decide (h = j) && decide (j + 1 ≤ h)) = false
      rcases Nat.lt_trichotomy h j with z | z | z
      · rw [decide_eq_false (show ¬ j ≤ h by omega), decide_eq_false (show ¬ h = j by omega), decide_eq_false (show ¬ j + 1 ≤ h by omega)]
        exact ⟨rfl, rfl⟩
      · rw [decide_eq_true (show j ≤ h by omega), decide_eq_true z, decide_eq_false (show ¬ j + 1 ≤ h by omega)]
        exact ⟨rfl, rfl⟩
      · rw [decide_eq_true (show j ≤ h by omega), decide_eq_false (show ¬ h = j by omega), decide_eq_true (show j + 1 ≤ h by omega)]
        exact ⟨rfl, rfl⟩), h_su_one (h_mx p) hj]
  · show h_mx p - j = 1 + (h_mx p - (j + 1))
    omega
  · show h_su (fun c => h_di p c * h_w c) (fun c => decide (j ≤ p.getD c 0)) p.length = h_lo 10 (h_M p j) * h_on (h_M p j) + h_su (fun c => h_di p c * h_w c) (fun c => decide (j + 1 ≤ p.getD c 0)) p.length
    have eo : h_on (h_M p j) = h_su h_w (Nat.testBit (h_M p j)) p.length := by
      unfold h_on
      have := h_su_more (f := h_w) (c := Nat.testBit (h_M p j)) (m := p.length) (10 - p.length) (fun k h1 h2 => h_bit_big lM h1)
      rw [show p.length + (10 - p.length) = 10 by omega] at this
      exact this
    rw [eo, ← h_su_mul, h_su_add (d := fun c => decide (p.getD c 0 = j)) (e := fun c => decide (j + 1 ≤ p.getD c 0)) p.length (fun c hc => by
      show decide (j ≤ p.getD c 0) = (decide (p.getD c 0 = j) || decide (j + 1 ≤ p.getD c 0)) ∧ (decide (p.getD c 0 = j) && decide (j + 1 ≤ p.getD c 0)) = false
      rcases Nat.lt_trichotomy (p.getD c 0) j with z | z | z
      · rw [decide_eq_false (show ¬ j ≤ p.getD c 0 by omega), decide_eq_false (show ¬ p.getD c 0 = j by omega), decide_eq_false (show ¬ j + 1 ≤ p.getD c 0 by omega)]
        exact ⟨rfl, rfl⟩
      · rw [decide_eq_true (show j ≤ p.getD c 0 by omega), decide_eq_true z, decide_eq_false (show ¬ j + 1 ≤ p.getD c 0 by omega)]
        exact ⟨rfl, rfl⟩
      · rw [decide_eq_true (show j ≤ p.getD c 0 by omega), decide_eq_false (show ¬ p.getD c 0 = j by omega), decide_eq_true (show j + 1 ≤ p.getD c 0 by omega)]
        exact ⟨rfl, rfl⟩)]
    congr 1
    refine h_su_cong p.length (fun c hc => ⟨?_, fun z => ?_⟩)
    · rw [bM, decide_eq_true hc, Bool.true_and]
    · have z : p.getD c 0 = j := of_decide_eq_true z
      show h_di p c * h_w c = h_lo 10 (h_M p j) * h_w c
      unfold h_di
      rw [z, loM]
theorem h_vj_end {F : Nat → Nat} {p : List Nat} {j : Nat} (h : h_mx p ≤ j) : h_vj F p j = (0, 0, 0) := by
  unfold h_vj
  rw [h_su_0 (h_mx p) (fun k hk => decide_eq_false (by omega)), h_su_0 p.length (fun c hc => decide_eq_false (by have := h_mx_le hc; omega)), show h_mx p - j = 0 by omega]
theorem h_vj_0 {F : Nat → Nat} {p : List Nat} : h_vj F p 0 = h_val F p := by
  unfold h_vj h_val h_row
  rw [h_su_cong (f := fun h => F (h_M p h)) (g := fun h => F (h_M p h)) (c := fun h => decide (0 ≤ h)) (d := fun _ => true) (h_mx p) (fun k _ => ⟨decide_eq_true (Nat.zero_le k), fun _ => rfl⟩), h_su_cong (f := fun c => h_di p c * h_w c) (g := fun c => h_di p c * h_w c) (c := fun c => decide (0 ≤ p.getD c 0)) (d := fun _ => true) p.length (fun k _ => ⟨decide_eq_true (Nat.zero_le _), fun _ => rfl⟩), Nat.sub_zero]
theorem h_S_end {p : List Nat} {j : Nat} (h : h_mx p ≤ j) : h_S p j = 0 := h_su_0 p.length (fun c hc => decide_eq_false (by have := h_mx_le hc; omega))
theorem h_S_0 (p : List Nat) : h_S p 0 = 2 ^ p.length - 1 := Nat.eq_of_testBit_eq (fun c => by
  rw [Nat.testBit_two_pow_sub_one]
  show Nat.testBit (h_mk (fun c => decide (0 ≤ p.getD c 0)) p.length) c = _
  rw [h_mk_bit]
  show (decide (c < p.length) && decide (0 ≤ p.getD c 0)) = _
  rw [decide_eq_true (Nat.zero_le _), Bool.and_true])
theorem h_low {F : Nat → Nat} {k n : Nat} {V : Nat → Nat × Nat × Nat} (hB : h_Bl F k n V) (h10 : n ≤ 10) {p : List Nat} (hn : p.length = n) (hr : h_rg p) (hf : ∀ h, h < h_mx p → r_pc 20 (h_M p h) ≤ k) : ∀ d j, j + d = h_mx p → h_le (V (h_S p j)) (h_vj F p j) := by
  intro d
  induction d with
  | zero =>
    intro j hj
    rw [h_S_end (by omega), h_vj_end (by omega), hB.1]
    exact h_le_rf _
  | succ d ih =>
    intro j hj
    obtain ⟨a1, a2, a3, a4, a5, a6⟩ := h_dec (F := F) hr (by omega) (show j < h_mx p by omega)
    have k1 := (hB.2 (h_S p j) a1 (by rw [← hn]; exact a2)).2 (h_M p j) ⟨a3, a4, hf j (by omega)⟩
    rw [a5] at k1
    rw [a6]
    exact h_le_tr k1 (h_le_ad (ih (j + 1) (by omega)))
/-- heaps one behind another that lose just what V says -/
def h_ch (F : Nat → Nat) (k : Nat) (V : Nat → Nat × Nat × Nat) : List Nat → Nat → Prop
  | [], s => s = 0
  | h :: q, s => 0 < s ∧ h_okh k s h ∧ V s = h_ad (h_hp F h) (V (s ^^^ h)) ∧ h_ch F k V q (s ^^^ h)
theorem h_ch_ex {F : Nat → Nat} {k n : Nat} {V : Nat → Nat × Nat × Nat} (hB : h_Bl F k n V) (h10 : n ≤ 10) : ∀ m s, s ≤ m → s < 2 ^ n → ∃ Hs, h_ch F k V Hs s := by
  have h1024 : 2 ^ n ≤ 1024 := Nat.pow_le_pow_right (n := 2) (by decide) h10
  intro m
  induction m with
  | zero => intro s hs _; exact ⟨[], by show s = 0; omega⟩
  | succ m ih =>
    intro s hs hl
    rcases Nat.eq_zero_or_pos s with z | z
    · exact ⟨[], z⟩
    · obtain ⟨h, ok, e⟩ := (hB.2 s z hl).1
      have lt := (h_ok_lt (by omega) ok).2.1
      obtain ⟨Hs, hc⟩ := ih (s ^^^ h) (by omega) (by omega)
      exact ⟨h :: Hs, z, ok, e, hc⟩
/-- in which heap c is -/
def h_in : List Nat → Nat → Nat
  | [], _ => 0
  | h :: q, c => if Nat.testBit h c = true then 0 else h_in q c + 1
theorem h_xb {s h c : Nat} (hs : ∀ c, Nat.testBit h c = true → Nat.testBit s c = true) : Nat.testBit (s ^^^ h) c = (Nat.testBit s c && !Nat.testBit h c) := by
  rw [Nat.testBit_xor]
  cases e : Nat.testBit h c with
  | false => cases Nat.testBit s c <;> rfl
  | true => rw [hs c e]; rfl
theorem h_ch_in {F : Nat → Nat} {k : Nat} {V : Nat → Nat × Nat × Nat} : ∀ (Hs : List Nat) (s : Nat), s < 1024 → h_ch F k V Hs s → ∀ c, Nat.testBit s c = true → h_in Hs c < Hs.length ∧ (0 < h_in Hs c → ∃ c', c' < c ∧ Nat.testBit s c' = true ∧ h_in Hs c' + 1 = h_in Hs c)
  | [], s, _, h, c, hc => by
    have h : s = 0 := h
    rw [h, Nat.zero_testBit] at hc
    cases hc
  | H :: q, s, hs, h, c, hc => by
    obtain ⟨h0, ok, e, hq⟩ := h
    have lt := (h_ok_lt hs ok).2.1
    by_cases z : Nat.testBit H c = true
    · have ei : h_in (H :: q) c = 0 := if_pos z
      rw [ei]
      exact ⟨by simp, fun y => absurd y (Nat.lt_irrefl 0)⟩
    · have ei : h_in (H :: q) c = h_in q c + 1 := if_neg z
      have zf : Nat.testBit H c = false := by simpa using z
      have hc' : Nat.testBit (s ^^^ H) c = true := by rw [h_xb ok.1, hc, zf]; rfl
      obtain ⟨k1, k2⟩ := h_ch_in q (s ^^^ H) (by omega) hq c hc'
      rw [ei]
      refine ⟨by rw [List.length_cons]; omega, fun _ => ?_⟩
      rcases Nat.eq_zero_or_pos (h_in q c) with y | y
      · obtain ⟨l1, l2, l3⟩ := h_lo_all s hs h0
        have c10 : c < 10 := by
          rcases Nat.lt_or_ge c 10 with x | x
          · exact x
          · rw [h_bit_big (n := 10) hs x] at hc
            cases hc
        have l4 := l2 c c10 hc
        have l5 : h_lo 10 s ≠ c := fun x => z (by rw [← x]; exact ok.2.1)
        have e0 : h_in (H :: q) (h_lo 10 s) = 0 := if_pos ok.2.1
        exact ⟨h_lo 10 s, by omega, l1, by omega⟩
      · obtain ⟨c', m1, m2, m3⟩ := k2 y
        rw [h_xb ok.1] at m2
        obtain ⟨m4, m5⟩ := Bool.and_eq_true_iff.mp m2
        have m6 : Nat.testBit H c' = false := by simpa using m5
        have e0 : h_in (H :: q) c' = h_in q c' + 1 := if_neg (by rw [m6]; decide)
        exact ⟨c', m1, m4, by omega⟩
theorem h_ch_at {F : Nat → Nat} {k : Nat} {V : Nat → Nat × Nat × Nat} : ∀ (Hs : List Nat) (s : Nat), s < 1024 → h_ch F k V Hs s → ∀ i, i < Hs.length → (∃ s', 0 < s' ∧ s' < 1024 ∧ h_okh k s' (Hs.getD i 0)) ∧ ∀ c, Nat.testBit (Hs.getD i 0) c = (Nat.testBit s c && decide (h_in Hs c = i))
  | [], s, _, _, i, hi => absurd hi (Nat.not_lt_zero _)
  | H :: q, s, hs, h, i, hi => by
    obtain ⟨h0, ok, e, hq⟩ := h
    have lt := (h_ok_lt hs ok).2.1
    cases i with
    | zero =>
      refine ⟨⟨s, h0, hs, ok⟩, fun c => ?_⟩
      show Nat.testBit H c = _
      cases z : Nat.testBit H c with
      | true =>
        have ei : h_in (H :: q) c = 0 := if_pos z
        rw [ok.1 c z, ei]
        rfl
      | false =>
        have ei : h_in (H :: q) c = h_in q c + 1 := if_neg (by rw [z]; decide)
        rw [ei, decide_eq_false (show ¬ h_in q c + 1 = 0 by omega), Bool.and_false]
    | succ i =>
      obtain ⟨k1, k2⟩ := h_ch_at q (s ^^^ H) (by omega) hq i (by simpa using hi)
      refine ⟨k1, fun c => ?_⟩
      show Nat.testBit (q.getD i 0) c = _
      rw [k2 c, h_xb ok.1]
      cases z : Nat.testBit H c with
      | true =>
        have ei : h_in (H :: q) c = 0 := if_pos z
        rw [ei, decide_eq_false (show ¬ 0 = i + 1 by omega), Bool.and_false]
        show (Nat.testBit s c && false && decide (h_in q c = i)) = false
        rw [Bool.and_false]
        rfl
      | false =>
        have ei : h_in (H :: q) c = h_in q c + 1 := if_neg (by rw [z]; decide)
        rw [ei]
        show (Nat.testBit s c && true && decide (h_in q c = i)) = _
        rw [Bool.and_true]
        by_cases y : h_in q c = i
        · rw [decide_eq_true y, decide_eq_true (show h_in q c + 1 = i + 1 by omega)]
        · rw [decide_eq_false y, decide_eq_false (show ¬ h_in q c + 1 = i + 1 by omega)]
/-- all heaps of a row are small enough -/
def h_fb (k : Nat) (p : List Nat) : Nat → Bool
  | 0 => true
  | h + 1 => h_fb k p h && decide (r_pc 20 (h_M p h) ≤ k)
theorem h_fb_iff {k : Nat} {p : List Nat} : ∀ m, h_fb k p m = true ↔ ∀ h, h < m → r_pc 20 (h_M p h) ≤ k
  | 0 => ⟨fun _ h hh => absurd hh (Nat.not_lt_zero _), fun _ => rfl⟩
  | m + 1 => by
    show (h_fb k p m && decide (r_pc 20 (h_M p m) ≤ k)) = true ↔ _
    rw [Bool.and_eq_true_iff, h_fb_iff m, decide_eq_true_eq]
    constructor
    · intro h x hx
      rcases Nat.lt_or_ge x m with z | z
      · exact h.1 x z
      · obtain rfl : x = m := by omega
        exact h.2
    · intro h
      exact ⟨fun x hx => h x (by omega), h m (by omega)⟩
def h_stp (F : Nat → Nat) (k : Nat) (b : Option (List Nat)) (p : List Nat) : Option (List Nat) :=
  if h_fb k p (h_mx p) = true then (match b with
    | none => some p
    | some w => if (h_val F p).1 < (h_val F w).1 ∨ ((h_val F p).1 = (h_val F w).1 ∧ (h_val F p).2.1 < (h_val F w).2.1) then some p else some w) else b
theorem h_fold {F : Nat → Nat} {k : Nat} : ∀ (P : List (List Nat)) (b : Option (List Nat)), P.Pairwise (fun p q => h_row p < h_row q) → (∀ w, b = some w → ∀ q ∈ P, h_row w < h_row q) →
    (∀ w, b = some w → ∃ w', P.foldl (h_stp F k) b = some w' ∧ h_le (h_val F w') (h_val F w)) ∧ (∀ q ∈ P, h_fb k q (h_mx q) = true → ∃ w', P.foldl (h_stp F k) b = some w' ∧ h_le (h_val F w') (h_val F q)) ∧ ∀ w', P.foldl (h_stp F k) b = some w' → b = some w' ∨ (w' ∈ P ∧ h_fb k w' (h_mx w') = true)
  | [], b, _, _ => ⟨fun w hw => ⟨w, hw, h_le_rf _⟩, fun q hq => absurd hq (by simp), fun w' h => Or.inl h⟩
  | p :: P, b, hp, hb => by
    obtain ⟨p1, p2⟩ := List.pairwise_cons.mp hp
    rw [List.foldl_cons]
    by_cases f : h_fb k p (h_mx p) = true
    · have stepk : (h_stp F k b p = some p ∧ (∀ w, b = some w → h_le (h_val F p) (h_val F w))) ∨ (∃ w, b = some w ∧ h_stp F k b p = some w ∧ h_le (h_val F w) (h_val F p)) := by
        unfold h_stp
        rw [if_pos f]
        cases b with
        | none => exact Or.inl ⟨rfl, fun w hw => absurd hw (by simp)⟩
        | some w =>
          have hr := hb w rfl p List.mem_cons_self
          by_cases c : (h_val F p).1 < (h_val F w).1 ∨ ((h_val F p).1 = (h_val F w).1 ∧ (h_val F p).2.1 < (h_val F w).2.1)
          · refine Or.inl ⟨if_pos c, fun w' hw' => ?_⟩
            obtain rfl : w = w' := Option.some.inj hw'
            unfold h_le
            omega
          · refine Or.inr ⟨w, rfl, if_neg c, ?_⟩
            have e1 : (h_val F p).2.2 = h_row p := rfl
            have e2 : (h_val F w).2.2 = h_row w := rfl
            unfold h_le
            omega
      rcases stepk with ⟨s1, s2⟩ | ⟨w, s0, s1, s2⟩
      · rw [s1]
        obtain ⟨k1, k2, k3⟩ := h_fold P (some p) p2 (fun w hw q hq => by
          obtain rfl : p = w := Option.some.inj hw
          exact p1 q hq)
        obtain ⟨w', m1, m2⟩ := k1 p rfl
        refine ⟨fun w hw => ⟨w', m1, h_le_tr m2 (s2 w hw)⟩, fun q hq hf => ?_, fun w'' hw'' => ?_⟩
        · rcases List.mem_cons.mp hq with rfl | hq
          · exact ⟨w', m1, m2⟩
          · exact k2 q hq hf
        · rcases k3 w'' hw'' with h | h
          · obtain rfl : p = w'' := Option.some.inj h
            exact Or.inr ⟨List.mem_cons_self, f⟩
          · exact Or.inr ⟨List.mem_cons_of_mem _ h.1, h.2⟩
      · rw [s1]
        obtain ⟨k1, k2, k3⟩ := h_fold P (some w) p2 (fun w0 hw q hq => hb w0 (by rw [s0]; exact hw) q (List.mem_cons_of_mem _ hq))
        obtain ⟨w', m1, m2⟩ := k1 w rfl
        refine ⟨fun w0 hw => ?_, fun q hq hf => ?_, fun w'' hw'' => ?_⟩
        · rw [s0] at hw
          obtain rfl : w = w0 := Option.some.inj hw
          exact ⟨w', m1, m2⟩
        · rcases List.mem_cons.mp hq with rfl | hq
          · exact ⟨w', m1, h_le_tr m2 s2⟩
          · exact k2 q hq hf
        · rcases k3 w'' hw'' with h | h
          · exact Or.inl (by rw [s0]; exact h)
          · exact Or.inr ⟨List.mem_cons_of_mem _ h.1, h.2⟩
    · have s1 : h_stp F k b p = b := if_neg f
      rw [s1]
      obtain ⟨k1, k2, k3⟩ := h_fold P b p2 (fun w hw q hq => hb w hw q (List.mem_cons_of_mem _ hq))
      refine ⟨k1, fun q hq hf => ?_, fun w'' hw'' => ?_⟩
      · rcases List.mem_cons.mp hq with rfl | hq
        · exact absurd hf f
        · exact k2 q hq hf
      · rcases k3 w'' hw'' with h | h
        · exact Or.inl h
        · exact Or.inr ⟨List.mem_cons_of_mem _ h.1, h.2⟩
theorem h_all (n : Nat) : h_ok (h_P n 0) (List.replicate n 0) (h_up n 0) := by
  have ch := h_chain n [] h_rg_nil
  have mp : (h_P n (h_mx [])).map (([] : List Nat) ++ ·) = h_P n (h_mx []) := by
    have : (fun x : List Nat => [] ++ x) = id := by funext x; rfl
    rw [this, List.map_id]
  rw [mp, List.nil_append, List.nil_append] at ch
  exact ch
/-- what the class' sets say is what the model's rows say -/
theorem h_main {F : Nat → Nat} {k n : Nat} {V : Nat → Nat × Nat × Nat} (hB : h_Bl F k n V) (h10 : n ≤ 10) : ∃ p, (h_P n 0).foldl (h_stp F k) none = some p ∧ V (2 ^ n - 1) = h_val F p ∧ p.length = n ∧ h_rg p := by
  have h1024 : 2 ^ n ≤ 1024 := Nat.pow_le_pow_right (n := 2) (by decide) h10
  have hpos : 0 < 2 ^ n := Nat.pow_pos (by decide)
  obtain ⟨Hs, hHs⟩ := h_ch_ex hB h10 (2 ^ n - 1) (2 ^ n - 1) (Nat.le_refl _) (by omega)
  have ba : ∀ c, Nat.testBit (2 ^ n - 1) c = decide (c < n) := fun c => Nat.testBit_two_pow_sub_one n c
  obtain ⟨p0, hp0⟩ : ∃ p0, p0 = (List.range n).map (h_in Hs) := ⟨_, rfl⟩
  have pl : p0.length = n := by rw [hp0, List.length_map, List.length_range]
  have pg : ∀ c, c < n → p0.getD c 0 = h_in Hs c := fun c hc => by
    rw [hp0, List.getD_eq_getElem?_getD, List.getElem?_map, List.getElem?_range hc]
    rfl
  have hin : ∀ c, c < n → h_in Hs c < Hs.length ∧ (0 < h_in Hs c → ∃ c', c' < c ∧ Nat.testBit (2 ^ n - 1) c' = true ∧ h_in Hs c' + 1 = h_in Hs c) := fun c hc => h_ch_in Hs (2 ^ n - 1) (by omega) hHs c (by rw [ba, decide_eq_true hc])
  have hat := h_ch_at Hs (2 ^ n - 1) (by omega) hHs
  have hr : h_rg p0 := fun c hc h0 => by
    rw [pg c (by omega)] at h0 ⊢
    obtain ⟨c', h1, h2, h3⟩ := (hin c (by omega)).2 h0
    exact ⟨c', h1, by rw [pg c' (by omega)]; exact h3⟩
  have hM : ∀ j, j < Hs.length → h_M p0 j = Hs.getD j 0 := fun j hj => Nat.eq_of_testBit_eq (fun c => by
    rw [(hat j hj).2 c, ba]
    show Nat.testBit (h_mk (fun c => decide (p0.getD c 0 = j)) p0.length) c = _
    rw [h_mk_bit, pl]
    by_cases z : c < n
    · show (decide (c < n) && decide (p0.getD c 0 = j)) = _
      rw [pg c z]
    · rw [decide_eq_false z]
      rfl)
  have hmx : h_mx p0 = Hs.length := by
    rcases Nat.lt_trichotomy (h_mx p0) Hs.length with z | z | z
    · exfalso
      obtain ⟨⟨s', q1, q2, q3⟩, q4⟩ := hat (h_mx p0) z
      have q5 := q3.2.1
      rw [q4] at q5
      obtain ⟨q6, q7⟩ := Bool.and_eq_true_iff.mp q5
      rw [ba, decide_eq_true_eq] at q6
      rw [decide_eq_true_eq] at q7
      have := h_mx_le (p := p0) (c := h_lo 10 s') (by omega)
      rw [pg _ q6, q7] at this
      omega
    · exact z
    · exfalso
      obtain ⟨c, c1, c2⟩ := h_mx_ex z
      rw [pg c (by omega)] at c2
      have := (hin c (by omega)).1
      omega
  have fit : ∀ h, h < h_mx p0 → r_pc 20 (h_M p0 h) ≤ k := fun h hh => by
    rw [hM h (by omega)]
    obtain ⟨⟨s', q1, q2, q3⟩, q4⟩ := hat h (by omega)
    exact q3.2.2
  have val : ∀ (q : List Nat) (j : Nat), Hs.drop j = q → h_ch F k V q (h_S p0 j) → V (h_S p0 j) = h_vj F p0 j := by
    intro q
    induction q with
    | nil =>
      intro j hd hc
      have hc : h_S p0 j = 0 := hc
      have hj := List.drop_eq_nil_iff.mp hd
      rw [hc, hB.1, h_vj_end (by omega)]
    | cons h q ih =>
      intro j hd hc
      obtain ⟨h0, ok, e, hq⟩ := hc
      have hj : j < Hs.length := by
        rcases Nat.lt_or_ge j Hs.length with z | z
        · exact z
        · rw [List.drop_eq_nil_iff.mpr z] at hd
          cases hd
      rw [List.drop_eq_getElem_cons hj] at hd
      obtain ⟨d1, d2⟩ := List.cons.inj hd
      have eh : h = h_M p0 j := by rw [hM j hj, r_getD hj]; exact d1.symm
      subst eh
      obtain ⟨a1, a2, a3, a4, a5, a6⟩ := h_dec (F := F) hr (by omega) (show j < h_mx p0 by omega)
      rw [a5] at hq e
      rw [e, a6, ih (j + 1) d2 hq]
  have v0 := val Hs 0 rfl (by rw [h_S_0, pl]; exact hHs)
  rw [h_S_0, pl, h_vj_0] at v0
  have mem : p0 ∈ h_P n 0 := h_P_in n [] p0 pl hr
  have pm : ∀ q ∈ h_P n 0, q.length = n ∧ h_rg q := fun q hq => h_P_mem n [] h_rg_nil q hq
  have pw := (h_ok_pw _ _ _ (h_all n) (fun q hq => by have := (pm q hq).1; omega)).1
  obtain ⟨k1, k2, k3⟩ := h_fold (F := F) (k := k) (h_P n 0) none pw (fun w hw => absurd hw (by simp))
  obtain ⟨w, w1, w2⟩ := k2 p0 mem ((h_fb_iff _).mpr fit)
  rcases k3 w w1 with h | ⟨h1, h2⟩
  · cases h
  · obtain ⟨m1, m2⟩ := pm w h1
    have lw := h_low hB h10 m1 m2 ((h_fb_iff _).mp h2) (h_mx w) 0 (by omega)
    rw [h_S_0, m1, h_vj_0] at lw
    rw [← v0] at w2
    exact ⟨w, w1, h_le_as lw w2, m1, m2⟩
