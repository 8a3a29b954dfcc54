/-! ===== heaps: sums over sets, masks ===== -/
/-- a sum over those of the first n that c has -/
def h_su (f : Nat → Nat) (c : Nat → Bool) : Nat → Nat
  | 0 => 0
  | n + 1 => h_su f c n + (if c n = true then f n else 0)
theorem h_su_cong {f g : Nat → Nat} {c d : Nat → Bool} : ∀ n, (∀ k, k < n → c k = d k ∧ (c k = true → f k = g k)) → h_su f c n = h_su g d n
  | 0, _ => rfl
  | n + 1, h => by
    show h_su f c n + (if c n = true then f n else 0) = h_su g d n + (if d n = true then g n else 0)
    rw [h_su_cong n (fun k hk => h k (by omega))]
    obtain ⟨h1, h2⟩ := h n (by omega)
    rw [← h1]
    by_cases z : c n = true
    · rw [if_pos z, if_pos z, h2 z]
    · rw [if_neg z, if_neg z]
theorem h_su_add {f : Nat → Nat} {c d e : Nat → Bool} : ∀ n, (∀ k, k < n → c k = (d k || e k) ∧ (d k && e k) = false) → h_su f c n = h_su f d n + h_su f e n
  | 0, _ => rfl
  | n + 1, h => by
    show h_su f c n + (if c n = true then f n else 0) = (h_su f d n + (if d n = true then f n else 0)) + (h_su f e n + (if e n = true then f n else 0))
    rw [h_su_add n (fun k hk => h k (by omega))]
    obtain ⟨h1, h2⟩ := h n (by omega)
    rw [h1]
    by_cases z : d n = true
    · by_cases y : e n = true
      · rw [z, y] at h2
        exact absurd h2 (by decide)
      · rw [z, if_pos rfl, if_neg y, if_pos (Bool.true_or _)]
        omega
    · have z : d n = false := by simpa using z
      rw [z, Bool.false_or, if_neg (show ¬ false = true by decide)]
      omega
theorem h_su_0 {f : Nat → Nat} {c : Nat → Bool} : ∀ n, (∀ k, k < n → c k = false) → h_su f c n = 0
  | 0, _ => rfl
  | n + 1, h => by
    show h_su f c n + (if c n = true then f n else 0) = 0
    rw [h_su_0 n (fun k hk => h k (by omega)), h n (by omega), if_neg (by decide)]
theorem h_su_mul {f : Nat → Nat} {c : Nat → Bool} (x : Nat) : ∀ n, h_su (fun k => x * f k) c n = x * h_su f c n
  | 0 => (Nat.mul_zero x).symm
  | n + 1 => by
    show h_su (fun k => x * f k) c n + (if c n = true then x * f n else 0) = x * (h_su f c n + (if c n = true then f n else 0))
    rw [h_su_mul x n, Nat.mul_add]
    by_cases z : c n = true
    · rw [if_pos z, if_pos z]
    · rw [if_neg z, if_neg z, Nat.mul_zero]
theorem h_su_more {f : Nat → Nat} {c : Nat → Bool} {m : Nat} : ∀ d, (∀ k, m ≤ k → k < m + d → c k = false) → h_su f c (m + d) = h_su f c m
  | 0, _ => rfl
  | d + 1, h => by
    show h_su f c (m + d) + (if c (m + d) = true then f (m + d) else 0) = h_su f c m
    rw [h_su_more d (fun k h1 h2 => h k h1 (by omega)), h (m + d) (by omega) (by omega), if_neg (by decide)]
    omega
def h_mk (c : Nat → Bool) (n : Nat) : Nat := h_su (fun k => 2 ^ k) c n
theorem h_mk_lt (c : Nat → Bool) : ∀ n, h_mk c n < 2 ^ n
  | 0 => by show 0 < 1; decide
  | n + 1 => by
    have h := h_mk_lt c n
    show h_mk c n + (if c n = true then 2 ^ n else 0) < 2 ^ (n + 1)
    rw [Nat.pow_succ]
    split <;> omega
theorem h_mk_bit (c : Nat → Bool) : ∀ n k, Nat.testBit (h_mk c n) k = (decide (k < n) && c k)
  | 0, k => by
    show Nat.testBit 0 k = _
    rw [Nat.zero_testBit]
    rfl
  | n + 1, k => by
    have ih := h_mk_bit c n k
    have hlt := h_mk_lt c n
    by_cases z : c n = true
    · have e : h_mk c (n + 1) = 2 ^ n + h_mk c n := by
        show h_mk c n + (if c n = true then 2 ^ n else 0) = _
        rw [if_pos z, Nat.add_comm]
      rw [e]
      rcases Nat.lt_trichotomy k n with h | h | h
      · rw [Nat.testBit_two_pow_add_gt h, ih, decide_eq_true h, decide_eq_true (show k < n + 1 by omega)]
      · subst h
        rw [Nat.testBit_two_pow_add_eq, ih, decide_eq_false (Nat.lt_irrefl k), decide_eq_true (show k < k + 1 by omega), z]
        rfl
      · have : h_mk c n + 2 ^ n < 2 ^ k := by
          have := Nat.pow_le_pow_right (n := 2) (by decide) (show n + 1 ≤ k by omega)
          rw [Nat.pow_succ] at this
          omega
        rw [Nat.testBit_lt_two_pow (by rw [Nat.add_comm]; exact this), decide_eq_false (show ¬ k < n + 1 by omega)]
        rfl
    · have e : h_mk c (n + 1) = h_mk c n := by
        show h_mk c n + (if c n = true then 2 ^ n else 0) = _
        rw [if_neg z]
        rfl
      rw [e, ih]
      rcases Nat.lt_trichotomy k n with h | h | h
      · rw [decide_eq_true h, decide_eq_true (show k < n + 1 by omega)]
      · subst h
        have z : c k = false := by simpa using z
        rw [z, Bool.and_false, Bool.and_false]
      · rw [decide_eq_false (show ¬ k < n by omega), decide_eq_false (show ¬ k < n + 1 by omega)]
theorem h_bit_big {s n k : Nat} (h : s < 2 ^ n) (hk : n ≤ k) : Nat.testBit s k = false := Nat.testBit_lt_two_pow (Nat.lt_of_lt_of_le h (Nat.pow_le_pow_right (by decide) hk))
/-- the least of a set -/
def h_lo : Nat → Nat → Nat
  | 0, _ => 0
  | m + 1, s => if s % 2 = 1 then 0 else h_lo m (s / 2) + 1
theorem h_lo_all : ∀ s, s < 1024 → 0 < s → Nat.testBit s (h_lo 10 s) = true ∧ (∀ c, c < 10 → Nat.testBit s c = true → h_lo 10 s ≤ c) ∧ h_lo 10 s < 10 := by decide +kernel
theorem h_lo_is {s c : Nat} (hs : s < 1024) (hc : Nat.testBit s c = true) (hl : ∀ c', c' < c → Nat.testBit s c' = false) : h_lo 10 s = c := by
  have h0 : 0 < s := by
    rcases Nat.eq_zero_or_pos s with z | z
    · rw [z, Nat.zero_testBit] at hc
      cases hc
    · exact z
  obtain ⟨h1, h2, h3⟩ := h_lo_all s hs h0
  have h10 : c < 10 := by
    rcases Nat.lt_or_ge c 10 with z | z
    · exact z
    · rw [h_bit_big (n := 10) hs z] at hc
      cases hc
  have h4 := h2 c h10 hc
  rcases Nat.lt_or_ge (h_lo 10 s) c with z | z
  · rw [hl _ z] at h1
    cases h1
  · omega
theorem h_xor_add : ∀ (m a b : Nat), a < 2 ^ m → (∀ c, Nat.testBit b c = true → Nat.testBit a c = true) → (a ^^^ b) + b = a
  | 0, a, b, ha, h => by
    obtain rfl : a = 0 := by simpa using ha
    have hb : b = 0 := Nat.eq_of_testBit_eq (fun i => by
      rw [Nat.zero_testBit]
      cases e : Nat.testBit b i with
      | false => rfl
      | true => have := h i e; rw [Nat.zero_testBit] at this; cases this)
    subst hb
    rfl
  | m + 1, a, b, ha, h => by
    have ih := h_xor_add m (a / 2) (b / 2) (by rw [Nat.pow_succ] at ha; omega) (fun c hc => by
      rw [Nat.testBit_div_two] at hc ⊢
      exact h _ hc)
    have e1 : (a ^^^ b) % 2 ^ 1 = (a % 2 ^ 1) ^^^ (b % 2 ^ 1) := Nat.xor_mod_two_pow
    have e2 : (a ^^^ b) / 2 ^ 1 = (a / 2 ^ 1) ^^^ (b / 2 ^ 1) := Nat.xor_div_two_pow
    rw [Nat.pow_one] at e1 e2
    have h0 := h 0
    rw [Nat.testBit_zero, Nat.testBit_zero, decide_eq_true_eq, decide_eq_true_eq] at h0
    rw [← e2] at ih
    rcases Nat.mod_two_eq_zero_or_one a with xa | xa
    · rcases Nat.mod_two_eq_zero_or_one b with xb | xb
      · rw [xa, xb] at e1
        have e1 : (a ^^^ b) % 2 = 0 := e1
        omega
      · exact absurd (h0 xb) (by omega)
    · rcases Nat.mod_two_eq_zero_or_one b with xb | xb
      · rw [xa, xb] at e1
        have e1 : (a ^^^ b) % 2 = 1 := e1
        omega
      · rw [xa, xb] at e1
        have e1 : (a ^^^ b) % 2 = 0 := e1
        omega
/-! ===== heaps: losses, numbers, rows, one behind another ===== -/
def h_le (a b : Nat × Nat × Nat) : Prop := a.1 < b.1 ∨ (a.1 = b.1 ∧ (a.2.1 < b.2.1 ∨ (a.2.1 = b.2.1 ∧ a.2.2 ≤ b.2.2)))
def h_ad (a b : Nat × Nat × Nat) : Nat × Nat × Nat := (a.1 + b.1, a.2.1 + b.2.1, a.2.2 + b.2.2)
theorem h_le_rf (a : Nat × Nat × Nat) : h_le a a := Or.inr ⟨rfl, Or.inr ⟨rfl, Nat.le_refl _⟩⟩
theorem h_le_tr {a b c : Nat × Nat × Nat} (h1 : h_le a b) (h2 : h_le b c) : h_le a c := by
  unfold h_le at *
  omega
theorem h_le_as {a b : Nat × Nat × Nat} (h1 : h_le a b) (h2 : h_le b a) : a = b := by
  unfold h_le at h1 h2
  exact Prod.ext (by omega) (Prod.ext (by omega) (by omega))
theorem h_le_ad {a b c : Nat × Nat × Nat} (h : h_le b c) : h_le (h_ad a b) (h_ad a c) := by
  unfold h_le at h
  show a.1 + b.1 < a.1 + c.1 ∨ (a.1 + b.1 = a.1 + c.1 ∧ (a.2.1 + b.2.1 < a.2.1 + c.2.1 ∨ (a.2.1 + b.2.1 = a.2.1 + c.2.1 ∧ a.2.2 + b.2.2 ≤ a.2.2 + c.2.2)))
  omega
/-- the weight of a CREAM's place in a row -/
def h_w (c : Nat) : Nat := 2 ^ (4 * (9 - c))
def h_on (s : Nat) : Nat := h_su h_w (Nat.testBit s) 10
/-- what a heap adds -/
def h_hp (F : Nat → Nat) (h : Nat) : Nat × Nat × Nat := (F h, 1, h_lo 10 h * h_on h)
/-- a heap that may stand first of the set s -/
def h_okh (k s h : Nat) : Prop := (∀ c, Nat.testBit h c = true → Nat.testBit s c = true) ∧ Nat.testBit h (h_lo 10 s) = true ∧ r_pc 20 h ≤ k
def h_B1 (F : Nat → Nat) (k : Nat) (V : Nat → Nat × Nat × Nat) (s : Nat) : Prop := (∃ h, h_okh k s h ∧ V s = h_ad (h_hp F h) (V (s ^^^ h))) ∧ ∀ h, h_okh k s h → h_le (V s) (h_ad (h_hp F h) (V (s ^^^ h)))
def h_Bl (F : Nat → Nat) (k n : Nat) (V : Nat → Nat × Nat × Nat) : Prop := V 0 = (0, 0, 0) ∧ ∀ s, 0 < s → s < 2 ^ n → h_B1 F k V s
theorem h_ok_ne {k s h : Nat} (o : h_okh k s h) : 0 < h := by
  rcases Nat.eq_zero_or_pos h with z | z
  · have := o.2.1
    rw [z, Nat.zero_testBit] at this
    cases this
  · exact z
theorem h_ok_lt {k s h : Nat} (hs : s < 1024) (o : h_okh k s h) : h ≤ s ∧ s ^^^ h < s ∧ (s ^^^ h) + h = s := by
  have e := h_xor_add 10 s h hs o.1
  have := h_ok_ne o
  omega
theorem h_ok_lo {k s h : Nat} (h0 : 0 < s) (hs : s < 1024) (o : h_okh k s h) : h_lo 10 h = h_lo 10 s := by
  refine h_lo_is (by have := (h_ok_lt hs o).1; omega) o.2.1 (fun c hc => ?_)
  cases e : Nat.testBit h c with
  | false => rfl
  | true =>
    have h1 := h_lo_all s hs h0
    have h2 := h1.2.1 c (by have := h1.2.2; omega) (o.1 c e)
    omega
/-! ===== rows of heaps, as the model counts them ===== -/
def h_up1 (m v : Nat) : Nat := if m < v + 1 then v + 1 else m
def h_mx (p : List Nat) : Nat := p.foldl h_up1 0
theorem h_mx_snoc (p : List Nat) (v : Nat) : h_mx (p ++ [v]) = h_up1 (h_mx p) v := by
  unfold h_mx
  rw [List.foldl_append]
  rfl
theorem h_up1_le {m v b : Nat} (h1 : m ≤ b) (h2 : v < b) : h_up1 m v ≤ b := by
  unfold h_up1
  split <;> omega
theorem h_up1_ge (m v : Nat) : m ≤ h_up1 m v ∧ v < h_up1 m v := by
  unfold h_up1
  split <;> omega
theorem h_mx_gen : ∀ (p : List Nat) (m : Nat), m ≤ p.foldl h_up1 m ∧ (∀ c, c < p.length → p.getD c 0 < p.foldl h_up1 m) ∧ ∀ x, x < p.foldl h_up1 m → x < m ∨ ∃ c, c < p.length ∧ x ≤ p.getD c 0
  | [], m => ⟨Nat.le_refl _, fun c hc => absurd hc (Nat.not_lt_zero _), fun x hx => Or.inl hx⟩
  | v :: q, m => by
    obtain ⟨h1, h2, h3⟩ := h_mx_gen q (h_up1 m v)
    obtain ⟨g1, g2⟩ := h_up1_ge m v
    refine ⟨Nat.le_trans g1 h1, fun c hc => ?_, fun x hx => ?_⟩
    · cases c with
      | zero => exact Nat.lt_of_lt_of_le g2 h1
      | succ c => exact h2 c (by simpa using hc)
    · rcases h3 x hx with h | ⟨c, c1, c2⟩
      · unfold h_up1 at h
        split at h
        · rcases Nat.lt_or_ge x m with z | z
          · exact Or.inl z
          · exact Or.inr ⟨0, by simp, by show x ≤ v; omega⟩
        · exact Or.inl h
      · exact Or.inr ⟨c + 1, by simpa using c1, c2⟩
theorem h_mx_le {p : List Nat} {c : Nat} (h : c < p.length) : p.getD c 0 < h_mx p := (h_mx_gen p 0).2.1 c h
theorem h_mx_ex {p : List Nat} {x : Nat} (h : x < h_mx p) : ∃ c, c < p.length ∧ x ≤ p.getD c 0 := ((h_mx_gen p 0).2.2 x h).resolve_left (Nat.not_lt_zero _)
/-- heaps are numbered by their least CREAMS -/
def h_rg (p : List Nat) : Prop := ∀ c, c < p.length → 0 < p.getD c 0 → ∃ c', c' < c ∧ p.getD c' 0 + 1 = p.getD c 0
theorem h_rg_nil : h_rg [] := fun c hc => absurd hc (Nat.not_lt_zero _)
theorem h_rg_mem {p : List Nat} (h : h_rg p) {x : Nat} (hx : x < h_mx p) : ∃ c, c < p.length ∧ p.getD c 0 = x := by
  obtain ⟨c, c1, c2⟩ := h_mx_ex hx
  have aux : ∀ e c, c < p.length → p.getD c 0 = x + e → ∃ c, c < p.length ∧ p.getD c 0 = x := by
    intro e
    induction e with
    | zero => intro c h1 h2; exact ⟨c, h1, h2⟩
    | succ e ih =>
      intro c h1 h2
      obtain ⟨c', h3, h4⟩ := h c h1 (by omega)
      exact ih c' (by omega) (by omega)
  exact aux (p.getD c 0 - x) c c1 (by omega)
theorem h_rg_snoc {p : List Nat} (h : h_rg p) {v : Nat} (hv : v ≤ h_mx p) : h_rg (p ++ [v]) := by
  intro c hc h0
  rw [List.length_append] at hc
  have hc : c < p.length + 1 := hc
  rcases Nat.lt_or_ge c p.length with z | z
  · rw [r_app1 z] at h0 ⊢
    obtain ⟨c', h1, h2⟩ := h c z h0
    exact ⟨c', h1, by rw [r_app1 (by omega)]; exact h2⟩
  · obtain rfl : c = p.length := by omega
    rw [r_app2 (Nat.le_refl _), Nat.sub_self] at h0 ⊢
    have h0 : 0 < v := h0
    obtain ⟨c', h1, h2⟩ := h_rg_mem h (x := v - 1) (by omega)
    refine ⟨c', h1, ?_⟩
    rw [r_app1 h1, h2]
    show v - 1 + 1 = v
    omega
def h_up : Nat → Nat → List Nat
  | 0, _ => []
  | d + 1, m => m :: h_up d (m + 1)
def h_Q (f : Nat → List (List Nat)) : Nat → List (List Nat)
  | 0 => f 0
  | m + 1 => h_Q f m ++ f (m + 1)
/-- all rows behind one whose heaps are m, by their order -/
def h_P : Nat → Nat → List (List Nat)
  | 0, _ => [[]]
  | d + 1, m => h_Q (fun v => (h_P d (h_up1 m v)).map (v :: ·)) m
theorem h_Q_in {f : Nat → List (List Nat)} {q : List Nat} {v : Nat} : ∀ m, v ≤ m → q ∈ f v → q ∈ h_Q f m
  | 0, h, hq => by
    obtain rfl : v = 0 := by omega
    exact hq
  | m + 1, h, hq => by
    rcases Nat.lt_or_ge v (m + 1) with z | z
    · exact List.mem_append_left _ (h_Q_in m (by omega) hq)
    · obtain rfl : v = m + 1 := by omega
      exact List.mem_append_right _ hq
theorem h_Q_out {f : Nat → List (List Nat)} {q : List Nat} : ∀ m, q ∈ h_Q f m → ∃ v, v ≤ m ∧ q ∈ f v
  | 0, h => ⟨0, Nat.le_refl _, h⟩
  | m + 1, h => by
    rcases List.mem_append.mp h with h | h
    · obtain ⟨v, h1, h2⟩ := h_Q_out m h
      exact ⟨v, by omega, h2⟩
    · exact ⟨m + 1, Nat.le_refl _, h⟩
theorem h_P_mem : ∀ (d : Nat) (pre : List Nat), h_rg pre → ∀ q ∈ h_P d (h_mx pre), q.length = d ∧ h_rg (pre ++ q)
  | 0, pre, hr, q, hq => by
    obtain rfl : q = [] := List.mem_singleton.mp hq
    exact ⟨rfl, by rw [List.append_nil]; exact hr⟩
  | d + 1, pre, hr, q, hq => by
    obtain ⟨v, hv, h2⟩ := h_Q_out _ hq
    obtain ⟨q', h3, rfl⟩ := List.mem_map.mp h2
    rw [← h_mx_snoc] at h3
    obtain ⟨k1, k2⟩ := h_P_mem d (pre ++ [v]) (h_rg_snoc hr hv) q' h3
    rw [List.append_assoc, List.singleton_append] at k2
    exact ⟨by rw [List.length_cons, k1], k2⟩
theorem h_P_in : ∀ (d : Nat) (pre q : List Nat), q.length = d → h_rg (pre ++ q) → q ∈ h_P d (h_mx pre)
  | 0, pre, q, hq, hr => by
    obtain rfl : q = [] := List.length_eq_zero_iff.mp hq
    exact List.mem_singleton.mpr rfl
  | d + 1, pre, [], hq, hr => absurd hq (by simp)
  | d + 1, pre, v :: q, hq, hr => by
    have hv : v ≤ h_mx pre := by
      rcases Nat.eq_zero_or_pos v with z | z
      · omega
      · obtain ⟨c', h1, h2⟩ := hr pre.length (by simp) (by rw [r_app2 (Nat.le_refl _), Nat.sub_self]; exact z)
        rw [r_app1 h1, r_app2 (Nat.le_refl _), Nat.sub_self] at h2
        have h2 : pre.getD c' 0 + 1 = v := h2
        have := h_mx_le h1
        omega
    refine h_Q_in _ hv (List.mem_map.mpr ⟨q, ?_, rfl⟩)
    rw [← h_mx_snoc]
    exact h_P_in d (pre ++ [v]) q (by simpa using hq) (by rw [List.append_assoc, List.singleton_append]; exact hr)
def h_n : Nat → Nat → Nat
  | 0, _ => 1
  | d + 1, m => m * h_n d m + h_n d (m + 1)
theorem h_Q_len {f : Nat → List (List Nat)} {A : Nat} : ∀ m, (∀ v, v < m → (f v).length = A) → (h_Q f m).length = m * A + (f m).length
  | 0, _ => by rw [Nat.zero_mul, Nat.zero_add]; rfl
  | m + 1, h => by
    show (h_Q f m ++ f (m + 1)).length = _
    rw [List.length_append, h_Q_len m (fun v hv => h v (by omega)), h m (by omega), Nat.succ_mul]
theorem h_P_len : ∀ (d m : Nat), (h_P d m).length = h_n d m
  | 0, _ => rfl
  | d + 1, m => by
    have e := h_Q_len (f := fun v => (h_P d (h_up1 m v)).map (v :: ·)) (A := h_n d m) m (fun v hv => by
      rw [List.length_map, h_P_len d]
      unfold h_up1
      rw [if_neg (by omega)])
    have e2 : ((h_P d (h_up1 m m)).map (m :: ·)).length = h_n d (m + 1) := by
      rw [List.length_map, h_P_len d]
      unfold h_up1
      rw [if_pos (by omega)]
    show (h_Q (fun v => (h_P d (h_up1 m v)).map (v :: ·)) m).length = m * h_n d m + h_n d (m + 1)
    rw [e, e2]
theorem h_n_le : ∀ n, n < 11 → h_n n 0 < 1000000 := by decide +kernel
/-- one row and the next -/
def h_Nx (p p' : List Nat) : Prop := ∃ pre x d, p = pre ++ x :: h_up d (h_mx pre) ∧ p' = pre ++ (x + 1) :: List.replicate d 0 ∧ x < h_mx pre ∧ h_rg pre
def h_ok : List (List Nat) → List Nat → List Nat → Prop
  | [], _, _ => False
  | p :: r, a, z => p = a ∧ ((r = [] ∧ p = z) ∨ ∃ b, h_Nx p b ∧ h_ok r b z)
theorem h_ok_app : ∀ (P Q : List (List Nat)) (a z b w : List Nat), h_ok P a z → h_Nx z b → h_ok Q b w → h_ok (P ++ Q) a w
  | [], Q, a, z, b, w, h, _, _ => absurd h (fun x => x)
  | p :: P, Q, a, z, b, w, h, hn, hq => by
    obtain ⟨h1, h2⟩ := h
    refine ⟨h1, Or.inr ?_⟩
    rcases h2 with ⟨h3, h4⟩ | ⟨b', h3, h4⟩
    · subst h3; subst h4
      exact ⟨b, hn, hq⟩
    · exact ⟨b', h3, h_ok_app P Q b' z b w h4 hn hq⟩
theorem h_chain : ∀ (d : Nat) (pre : List Nat), h_rg pre → h_ok ((h_P d (h_mx pre)).map (pre ++ ·)) (pre ++ List.replicate d 0) (pre ++ h_up d (h_mx pre))
  | 0, pre, _ => ⟨rfl, Or.inl ⟨rfl, rfl⟩⟩
  | d + 1, pre, hr => by
    have blk : ∀ v, v ≤ h_mx pre → h_ok (((h_P d (h_up1 (h_mx pre) v)).map (v :: ·)).map (pre ++ ·)) (pre ++ v :: List.replicate d 0) (pre ++ v :: h_up d (h_up1 (h_mx pre) v)) := fun v hv => by
      have k := h_chain d (pre ++ [v]) (h_rg_snoc hr hv)
      have e : ∀ q, (pre ++ [v]) ++ q = pre ++ (v :: q) := fun q => by rw [List.append_assoc, List.singleton_append]
      simp only [e, h_mx_snoc] at k
      rw [List.map_map]
      exact k
    have inner : ∀ m, m ≤ h_mx pre → h_ok ((h_Q (fun v => (h_P d (h_up1 (h_mx pre) v)).map (v :: ·)) m).map (pre ++ ·)) (pre ++ 0 :: List.replicate d 0) (pre ++ m :: h_up d (h_up1 (h_mx pre) m)) := by
      intro m
      induction m with
      | zero => intro h; exact blk 0 h
      | succ m ih =>
        intro h
        have e : h_Q (fun v => (h_P d (h_up1 (h_mx pre) v)).map (v :: ·)) (m + 1) = h_Q (fun v => (h_P d (h_up1 (h_mx pre) v)).map (v :: ·)) m ++ (h_P d (h_up1 (h_mx pre) (m + 1))).map ((m + 1) :: ·) := rfl
        rw [e, List.map_append]
        refine h_ok_app _ _ _ _ _ _ (ih (by omega)) ⟨pre, m, d, ?_, rfl, by omega, hr⟩ (blk (m + 1) h)
        have : h_up1 (h_mx pre) m = h_mx pre := if_neg (by omega)
        rw [this]
    have k := inner (h_mx pre) (Nat.le_refl _)
    have : h_up1 (h_mx pre) (h_mx pre) = h_mx pre + 1 := if_pos (by omega)
    rw [this] at k
    exact k
/-! ===== the row of heaps as a number ===== -/
/-- where v stands first -/
def h_ix (v : Nat) : List Nat → Nat
  | [] => 0
  | a :: q => if a = v then 0 else h_ix v q + 1
theorem h_ix_le {v : Nat} : ∀ (p : List Nat) (c : Nat), c < p.length → p.getD c 0 = v → h_ix v p ≤ c
  | [], c, h, _ => absurd h (Nat.not_lt_zero _)
  | a :: q, c, h, hv => by
    unfold h_ix
    by_cases z : a = v
    · rw [if_pos z]; omega
    · rw [if_neg z]
      cases c with
      | zero => exact absurd hv z
      | succ c =>
        have := h_ix_le q c (by simpa using h) hv
        omega
theorem h_ix_at {v : Nat} : ∀ (p : List Nat) (c : Nat), c < p.length → p.getD c 0 = v → h_ix v p < p.length ∧ p.getD (h_ix v p) 0 = v
  | [], c, h, _ => absurd h (Nat.not_lt_zero _)
  | a :: q, c, h, hv => by
    unfold h_ix
    by_cases z : a = v
    · rw [if_pos z]
      exact ⟨by simp, z⟩
    · rw [if_neg z]
      cases c with
      | zero => exact absurd hv z
      | succ c =>
        obtain ⟨h1, h2⟩ := h_ix_at q c (by simpa using h) hv
        exact ⟨by simpa using h1, h2⟩
theorem h_ix_is {v c : Nat} {p : List Nat} (h : c < p.length) (hv : p.getD c 0 = v) (hl : ∀ c', c' < c → p.getD c' 0 ≠ v) : h_ix v p = c := by
  have h1 := h_ix_le p c h hv
  have h2 := (h_ix_at p c h hv).2
  rcases Nat.lt_or_ge (h_ix v p) c with z | z
  · exact absurd h2 (hl _ z)
  · omega
/-- the least CREAM of the heap of c -/
def h_di (p : List Nat) (c : Nat) : Nat := h_ix (p.getD c 0) p
theorem h_di_le {p : List Nat} {c : Nat} (h : c < p.length) : h_di p c ≤ c := h_ix_le p c h rfl
theorem h_di_pre {p q : List Nat} {c : Nat} (h : c < p.length) : h_di (p ++ q) c = h_di p c := by
  unfold h_di
  rw [r_app1 h]
  obtain ⟨h1, h2⟩ := h_ix_at p c h rfl
  refine h_ix_is (by rw [List.length_append]; omega) (by rw [r_app1 h1]; exact h2) (fun c' hc' z => ?_)
  rw [r_app1 (by omega)] at z
  have := h_ix_le p c' (by omega) z
  omega
def h_ho (f : Nat → Nat) : Nat → Nat
  | 0 => 0
  | c + 1 => 16 * h_ho f c + f c
theorem h_ho_cong {f g : Nat → Nat} : ∀ n, (∀ c, c < n → f c = g c) → h_ho f n = h_ho g n
  | 0, _ => rfl
  | n + 1, h => by
    show 16 * h_ho f n + f n = 16 * h_ho g n + g n
    rw [h_ho_cong n (fun c hc => h c (by omega)), h n (by omega)]
theorem h_ho_lt {f g : Nat → Nat} {c0 : Nat} (h0 : ∀ c, c < c0 → f c = g c) (h1 : f c0 < g c0) : ∀ n, c0 < n → (∀ c, c < n → f c < 16) → h_ho f n < h_ho g n
  | 0, h, _ => absurd h (Nat.not_lt_zero _)
  | n + 1, h, hf => by
    show 16 * h_ho f n + f n < 16 * h_ho g n + g n
    rcases Nat.lt_or_ge c0 n with z | z
    · have ih := h_ho_lt h0 h1 n z (fun c hc => hf c (by omega))
      have := hf n (by omega)
      omega
    · obtain rfl : c0 = n := by omega
      rw [h_ho_cong c0 h0]
      omega
theorem h_ho_dig {f : Nat → Nat} {c : Nat} : ∀ n, c < n → (∀ c, c < n → f c < 16) → h_ho f n / 16 ^ (n - 1 - c) % 16 = f c
  | 0, h, _ => absurd h (Nat.not_lt_zero _)
  | n + 1, h, hf => by
    have e : h_ho f (n + 1) = 16 * h_ho f n + f n := rfl
    have hn := hf n (by omega)
    rcases Nat.lt_or_ge c n with z | z
    · have ih := h_ho_dig n z (fun c hc => hf c (by omega))
      rw [show n + 1 - 1 - c = (n - 1 - c) + 1 by omega, Nat.pow_succ, Nat.mul_comm, ← Nat.div_div_eq_div_mul, e, show (16 * h_ho f n + f n) / 16 = h_ho f n by omega]
      exact ih
    · obtain rfl : c = n := by omega
      rw [show c + 1 - 1 - c = 0 by omega, Nat.pow_zero, Nat.div_one, e]
      omega
theorem h_w_step {n : Nat} (h : n < 10) : 2 ^ (4 * (10 - n)) = 16 * h_w n := by
  unfold h_w
  rw [show 4 * (10 - n) = 4 * (9 - n) + 4 by omega, Nat.pow_add, Nat.mul_comm]
theorem h_ho_row {f : Nat → Nat} : ∀ n, n ≤ 10 → h_su (fun c => f c * h_w c) (fun _ => true) n = h_ho f n * 2 ^ (4 * (10 - n))
  | 0, _ => by rw [show h_ho f 0 = 0 from rfl, Nat.zero_mul]; rfl
  | n + 1, h => by
    show h_su (fun c => f c * h_w c) (fun _ => true) n + f n * h_w n = (16 * h_ho f n + f n) * 2 ^ (4 * (10 - (n + 1)))
    rw [h_ho_row n (by omega), h_w_step (by omega), show 2 ^ (4 * (10 - (n + 1))) = h_w n by unfold h_w; rw [show 10 - (n + 1) = 9 - n by omega], Nat.add_mul, Nat.mul_comm 16 (h_ho f n), Nat.mul_assoc]
def h_row (p : List Nat) : Nat := h_su (fun c => h_di p c * h_w c) (fun _ => true) p.length
theorem h_row_ho {p : List Nat} (h : p.length ≤ 10) : h_row p = h_ho (h_di p) p.length * 2 ^ (4 * (10 - p.length)) := h_ho_row (f := h_di p) p.length h
theorem h_row_dig {p : List Nat} (h : p.length ≤ 10) {c : Nat} (hc : c < p.length) : h_row p / 2 ^ (4 * (9 - c)) % 16 = h_di p c := by
  have e := h_ho_dig (f := h_di p) p.length hc (fun c hc => by have := h_di_le hc; omega)
  rw [h_row_ho h, ← e]
  have e2 : (16 : Nat) ^ (p.length - 1 - c) = 2 ^ (4 * (p.length - 1 - c)) := by rw [Nat.pow_mul]
  rw [e2, show 4 * (9 - c) = 4 * (p.length - 1 - c) + 4 * (10 - p.length) by omega, Nat.pow_add, Nat.mul_div_mul_right _ _ (Nat.pow_pos (by decide))]
theorem h_row_lt {p p' : List Nat} (h : h_Nx p p') (h10 : p.length ≤ 10) : h_row p < h_row p' := by
  obtain ⟨pre, x, d, rfl, rfl, hx, hr⟩ := h
  have lu : ∀ d m, (h_up d m).length = d := by
    intro d
    induction d with
    | zero => intro m; rfl
    | succ d ih => intro m; show (h_up d (m + 1)).length + 1 = d + 1; rw [ih]
  have l1 : (pre ++ x :: h_up d (h_mx pre)).length = pre.length + (d + 1) := by rw [List.length_append, List.length_cons, lu]
  have l2 : (pre ++ (x + 1) :: List.replicate d 0).length = pre.length + (d + 1) := by rw [List.length_append, List.length_cons, List.length_replicate]
  rw [l1] at h10
  rw [h_row_ho (by omega), h_row_ho (by omega), l1, l2]
  refine Nat.mul_lt_mul_of_pos_right ?_ (Nat.pow_pos (by decide))
  obtain ⟨cx, cx1, cx2⟩ := h_rg_mem hr hx
  refine h_ho_lt (c0 := pre.length) (fun c hc => by rw [h_di_pre hc, h_di_pre hc]) ?_ _ (by omega) (fun c hc => by
    have := h_di_le (p := pre ++ x :: h_up d (h_mx pre)) (c := c) (by omega)
    omega)
  have g1 : (pre ++ x :: h_up d (h_mx pre)).getD pre.length 0 = x := by rw [r_app2 (Nat.le_refl _), Nat.sub_self]; rfl
  have g2 : (pre ++ (x + 1) :: List.replicate d 0).getD pre.length 0 = x + 1 := by rw [r_app2 (Nat.le_refl _), Nat.sub_self]; rfl
  have k1 : h_di (pre ++ x :: h_up d (h_mx pre)) pre.length ≤ cx := h_ix_le _ cx (by omega) (by rw [g1, r_app1 cx1]; exact cx2)
  obtain ⟨k2, k3⟩ := h_ix_at (v := x + 1) (pre ++ (x + 1) :: List.replicate d 0) pre.length (by omega) g2
  have k4 : h_di (pre ++ (x + 1) :: List.replicate d 0) pre.length = h_ix (x + 1) (pre ++ (x + 1) :: List.replicate d 0) := by unfold h_di; rw [g2]
  have k5 := h_ix_le (v := x + 1) (pre ++ (x + 1) :: List.replicate d 0) pre.length (by omega) g2
  rw [k4]
  generalize h_ix (x + 1) (pre ++ (x + 1) :: List.replicate d 0) = i at k2 k3 k5
  rcases Nat.lt_or_ge i pre.length with z | z
  · rw [r_app1 z] at k3
    obtain ⟨c', h1, h2⟩ := hr i z (by omega)
    have k6 : h_di (pre ++ x :: h_up d (h_mx pre)) pre.length ≤ c' := h_ix_le _ c' (by omega) (by rw [g1, r_app1 (by omega)]; omega)
    omega
  · omega
theorem h_ok_pw : ∀ (P : List (List Nat)) (a z : List Nat), h_ok P a z → (∀ p ∈ P, p.length ≤ 10) → P.Pairwise (fun p q => h_row p < h_row q) ∧ ∀ q ∈ P, h_row a ≤ h_row q
  | [], _, _, h, _ => absurd h (fun x => x)
  | p :: r, a, z, h, hl => by
    obtain ⟨rfl, h2⟩ := h
    rcases h2 with ⟨rfl, -⟩ | ⟨b, h3, h4⟩
    · exact ⟨List.pairwise_singleton _ _, fun q hq => by rw [List.mem_singleton.mp hq]; exact Nat.le_refl _⟩
    · obtain ⟨k1, k2⟩ := h_ok_pw r b z h4 (fun q hq => hl q (List.mem_cons_of_mem _ hq))
      have k3 := h_row_lt h3 (hl p List.mem_cons_self)
      refine ⟨List.pairwise_cons.mpr ⟨fun q hq => Nat.lt_of_lt_of_le k3 (k2 q hq), k1⟩, fun q hq => ?_⟩
      rcases List.mem_cons.mp hq with rfl | hq
      · exact Nat.le_refl _
      · exact Nat.le_trans (Nat.le_of_lt k3) (k2 q hq)
