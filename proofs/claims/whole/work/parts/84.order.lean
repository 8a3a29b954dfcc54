/-! ===== orders of stops: pure ===== -/
/-- the first least of two -/
def r_mn (u v : Nat × List Nat) : Nat × List Nat := if v.1 < u.1 then v else u
/-- by each of B in turn, the others left: the first least -/
def r_G (f : Nat → List Nat → Nat × List Nat) : List Nat → List Nat → Nat × List Nat → Nat × List Nat
  | _, [], u => u
  | A, x :: B, u => r_G f (A ++ [x]) B (r_mn u (f x (A ++ B)))
/-- from s by all of l home: fewest miles, and the first order that has them -/
def r_B (d : Nat → Nat → Nat) (h : Nat → Nat) : Nat → Nat → List Nat → Nat × List Nat
  | 0, s, _ => (h s, [])
  | n + 1, s, l => r_G (fun x r => (d s x + (r_B d h n x r).1, x :: (r_B d h n x r).2)) [] l (1000000, [])
def r_Q (f : Nat → List Nat → List (List Nat)) : List Nat → List Nat → List (List Nat)
  | _, [] => []
  | A, x :: B => f x (A ++ B) ++ r_Q f (A ++ [x]) B
/-- all orders, by their order -/
def r_P : Nat → List Nat → List (List Nat)
  | 0, _ => [[]]
  | n + 1, l => r_Q (fun x r => (r_P n r).map (x :: ·)) [] l
/-- from s by q home -/
def r_bk (d : Nat → Nat → Nat) (h : Nat → Nat) : Nat → List Nat → Nat
  | s, [] => h s
  | s, x :: q => d s x + r_bk d h x q
/-- the best so far, and one more -/
def r_cb (K T H : Nat) (b : Option (Nat × List Nat)) (v : Nat) (p : List Nat) : Option (Nat × List Nat) :=
  match b with
  | none => if 3 * v + K ≤ T then some (v + H, p) else none
  | some w => if 3 * v + K ≤ T ∧ v + H < w.1 then some (v + H, p) else some w
theorem r_cb_cb {K T H : Nat} {b : Option (Nat × List Nat)} {v w : Nat} {p q : List Nat} : r_cb K T H (r_cb K T H b v p) w q = r_cb K T H b (r_mn (v, p) (w, q)).1 (r_mn (v, p) (w, q)).2 := by
  unfold r_mn
  cases b with
  | none =>
    by_cases c1 : 3 * v + K ≤ T
    · by_cases c2 : w < v
      · simp only [r_cb, c1, c2, if_true]
        rw [if_pos (show 3 * w + K ≤ T ∧ w + H < v + H by omega), if_pos (show 3 * w + K ≤ T by omega)]
      · simp only [r_cb, c1, c2, if_true, if_false]
        rw [if_neg (show ¬ (3 * w + K ≤ T ∧ w + H < v + H) by omega)]
    · by_cases c2 : w < v
      · simp only [r_cb, c1, c2, if_true, if_false]
      · simp only [r_cb, c1, c2, if_false]
        rw [if_neg (show ¬ 3 * w + K ≤ T by omega)]
  | some u =>
    by_cases c1 : 3 * v + K ≤ T ∧ v + H < u.1
    · by_cases c2 : w < v
      · simp only [r_cb, c2, if_true]
        rw [if_pos c1]
        show (if 3 * w + K ≤ T ∧ w + H < v + H then _ else _) = _
        rw [if_pos (show 3 * w + K ≤ T ∧ w + H < v + H by omega), if_pos (show 3 * w + K ≤ T ∧ w + H < u.1 by omega)]
      · simp only [r_cb, c2, if_false]
        rw [if_pos c1]
        show (if 3 * w + K ≤ T ∧ w + H < v + H then _ else _) = _
        rw [if_neg (show ¬ (3 * w + K ≤ T ∧ w + H < v + H) by omega)]
    · by_cases c2 : w < v
      · simp only [r_cb, c2, if_true]
        rw [if_neg c1]
      · simp only [r_cb, c2, if_false]
        rw [if_neg c1]
        show (if 3 * w + K ≤ T ∧ w + H < u.1 then _ else _) = _
        rw [if_neg (show ¬ (3 * w + K ≤ T ∧ w + H < u.1) by omega)]
theorem r_cb_big {K T H : Nat} {b : Option (Nat × List Nat)} {v : Nat} {p : List Nat} (h : T < v) : r_cb K T H b v p = b := by
  cases b with
  | none =>
    show (if 3 * v + K ≤ T then _ else _) = _
    rw [if_neg (by omega)]
  | some w =>
    show (if 3 * v + K ≤ T ∧ v + H < w.1 then _ else _) = _
    rw [if_neg (by omega)]
/-- of one block of orders only the first least counts -/
theorem r_block {d : Nat → Nat → Nat} {h : Nat → Nat} {E : List Nat → Nat} {K T H : Nat} (hT : T < 1000000) : ∀ (n : Nat) (l pre : List Nat) (c s : Nat) (b : Option (Nat × List Nat)), l.length = n → (∀ q, E (pre ++ q) = c + r_bk d h s q) →
    (r_P n l).foldl (fun b q => r_cb K T H b (E (pre ++ q)) (pre ++ q)) b = r_cb K T H b (c + (r_B d h n s l).1) (pre ++ (r_B d h n s l).2)
  | 0, l, pre, c, s, b, hl, hE => by
    show r_cb K T H b (E (pre ++ [])) (pre ++ []) = r_cb K T H b (c + h s) (pre ++ [])
    rw [hE []]
    rfl
  | n + 1, l, pre, c, s, b, hl, hE => by
    have inner : ∀ (B A : List Nat) (u : Nat × List Nat), A.length + B.length = n + 1 →
        (r_Q (fun x r => (r_P n r).map (x :: ·)) A B).foldl (fun b q => r_cb K T H b (E (pre ++ q)) (pre ++ q)) (r_cb K T H b (c + u.1) (pre ++ u.2)) =
          r_cb K T H b (c + (r_G (fun x r => (d s x + (r_B d h n x r).1, x :: (r_B d h n x r).2)) A B u).1) (pre ++ (r_G (fun x r => (d s x + (r_B d h n x r).1, x :: (r_B d h n x r).2)) A B u).2) := by
      intro B
      induction B with
      | nil => intro A u _; rfl
      | cons x B ih =>
        intro A u hA
        simp only [r_Q, r_G, List.foldl_append, List.foldl_map]
        have k := r_block (d := d) (h := h) (E := E) (K := K) (H := H) hT n (A ++ B) (pre ++ [x]) (c + d s x) x (r_cb K T H b (c + u.1) (pre ++ u.2)) (by simp only [List.length_append, List.length_cons] at hA ⊢; omega) (fun q => by
          have := hE (x :: q)
          rw [show r_bk d h s (x :: q) = d s x + r_bk d h x q from rfl] at this
          rw [List.append_assoc, List.singleton_append, this]
          omega)
        have e : ∀ q, (pre ++ [x]) ++ q = pre ++ (x :: q) := fun q => by rw [List.append_assoc, List.singleton_append]
        simp only [e] at k
        rw [k, r_cb_cb]
        have e2 : r_mn (c + u.1, pre ++ u.2) (c + d s x + (r_B d h n x (A ++ B)).1, pre ++ x :: (r_B d h n x (A ++ B)).2) = (c + (r_mn u (d s x + (r_B d h n x (A ++ B)).1, x :: (r_B d h n x (A ++ B)).2)).1, pre ++ (r_mn u (d s x + (r_B d h n x (A ++ B)).1, x :: (r_B d h n x (A ++ B)).2)).2) := by
          unfold r_mn
          by_cases c1 : d s x + (r_B d h n x (A ++ B)).1 < u.1
          · rw [if_pos (show (c + d s x + (r_B d h n x (A ++ B)).1, pre ++ x :: (r_B d h n x (A ++ B)).2).1 < (c + u.1, pre ++ u.2).1 by show c + d s x + _ < c + u.1; omega), if_pos c1]
            rw [Nat.add_assoc]
          · rw [if_neg (show ¬ (c + d s x + (r_B d h n x (A ++ B)).1, pre ++ x :: (r_B d h n x (A ++ B)).2).1 < (c + u.1, pre ++ u.2).1 by show ¬ c + d s x + _ < c + u.1; omega), if_neg c1]
        rw [e2]
        exact ih (A ++ [x]) _ (by simp only [List.length_append, List.length_cons, List.length_nil] at hA ⊢; omega)
    have k := inner l [] (1000000, []) (by simpa using hl)
    have e0 : r_cb K T H b (c + (1000000, ([] : List Nat)).1) (pre ++ (1000000, ([] : List Nat)).2) = b := r_cb_big (by show T < c + 1000000; omega)
    rw [e0] at k
    exact k
/-- the first stop by each of B in turn -/
def r_T (d : Nat → Nat → Nat) (h : Nat → Nat) (K T n : Nat) : List Nat → List Nat → Option (Nat × List Nat) → Option (Nat × List Nat)
  | _, [], b => b
  | A, x :: B, b => r_T d h K T n (A ++ [x]) B (r_cb K T (h x) b (r_B d h n x (A ++ B)).1 (x :: (r_B d h n x (A ++ B)).2))
def r_E (d : Nat → Nat → Nat) (h : Nat → Nat) (p : List Nat) : Nat := match p with
  | [] => 0
  | x :: q => r_bk d h x q
def r_st (d : Nat → Nat → Nat) (h : Nat → Nat) (K T : Nat) (b : Option (Nat × List Nat)) (p : List Nat) : Option (Nat × List Nat) := r_cb K T (h (p.headD 0)) b (r_E d h p) p
theorem r_whole {d : Nat → Nat → Nat} {h : Nat → Nat} {K T n : Nat} (hT : T < 1000000) (l : List Nat) (hl : l.length = n + 1) : (r_P (n + 1) l).foldl (r_st d h K T) none = r_T d h K T n [] l none := by
  have inner : ∀ (B A : List Nat) (b : Option (Nat × List Nat)), A.length + B.length = n + 1 →
      (r_Q (fun x r => (r_P n r).map (x :: ·)) A B).foldl (r_st d h K T) b = r_T d h K T n A B b := by
    intro B
    induction B with
    | nil => intro A b _; rfl
    | cons x B ih =>
      intro A b hA
      simp only [r_Q, r_T, List.foldl_append, List.foldl_map]
      have k := r_block (E := r_E d h) (K := K) (T := T) (H := h x) hT n (A ++ B) [x] 0 x b (by simp only [List.length_append, List.length_cons] at hA ⊢; omega) (fun q => by
        show r_bk d h x q = 0 + r_bk d h x q
        omega)
      have k2 : (r_P n (A ++ B)).foldl (fun b q => r_st d h K T b (x :: q)) b = r_cb K T (h x) b (0 + (r_B d h n x (A ++ B)).1) ([x] ++ (r_B d h n x (A ++ B)).2) := k
      rw [k2, Nat.zero_add, List.singleton_append]
      exact ih (A ++ [x]) _ (by simp only [List.length_append, List.length_cons, List.length_nil] at hA ⊢; omega)
  exact inner l [] none (by simpa using hl)
/-- one order and the next -/
def r_Nx (p p' : List Nat) : Prop := ∃ pre x Br y Ar, p = pre ++ x :: (Br ++ y :: Ar) ∧ p' = pre ++ y :: (Ar.reverse ++ x :: Br.reverse) ∧ (Br ++ y :: Ar).Pairwise (· > ·) ∧ x < y ∧ ∀ a ∈ Ar, a < x
def r_ok : List (List Nat) → List Nat → List Nat → Prop
  | [], _, _ => False
  | p :: r, a, z => p = a ∧ ((r = [] ∧ p = z) ∨ ∃ b, r_Nx p b ∧ r_ok r b z)
theorem r_ok_app : ∀ (P Q : List (List Nat)) (a z b w : List Nat), r_ok P a z → r_Nx z b → r_ok Q b w → r_ok (P ++ Q) a w
  | [], Q, a, z, b, w, h, _, _ => absurd h (fun x => x)
  | p :: P, Q, a, z, b, w, h, hn, hq => by
    obtain ⟨h1, h2⟩ := h
    refine ⟨h1, Or.inr ?_⟩
    rcases h2 with ⟨h3, h4⟩ | ⟨b', h3, h4⟩
    · subst h3; subst h4
      exact ⟨b, hn, hq⟩
    · exact ⟨b', h3, r_ok_app P Q b' z b w h4 hn hq⟩
theorem r_chain : ∀ (n : Nat) (l pre : List Nat), l.length = n → l.Pairwise (· < ·) → r_ok ((r_P n l).map (pre ++ ·)) (pre ++ l) (pre ++ l.reverse)
  | 0, l, pre, hl, _ => by
    obtain rfl : l = [] := List.length_eq_zero_iff.mp hl
    exact ⟨rfl, Or.inl ⟨rfl, rfl⟩⟩
  | n + 1, l, pre, hl, hs => by
    have inner : ∀ (B A : List Nat) (x : Nat), (A ++ x :: B).length = n + 1 → (A ++ x :: B).Pairwise (· < ·) →
        r_ok ((r_Q (fun x r => (r_P n r).map (x :: ·)) A (x :: B)).map (pre ++ ·)) (pre ++ x :: (A ++ B)) (pre ++ (A ++ x :: B).reverse) := by
      intro B
      induction B with
      | nil =>
        intro A x hA hp
        simp only [List.length_append, List.length_cons, List.length_nil] at hA
        have k := r_chain n (A ++ []) (pre ++ [x]) (by simp only [List.append_nil]; omega) (by
          rw [List.append_nil]
          exact (List.pairwise_append.mp hp).1)
        have e : ∀ q, (pre ++ [x]) ++ q = pre ++ (x :: q) := fun q => by rw [List.append_assoc, List.singleton_append]
        simp only [e] at k
        simp only [r_Q, List.append_nil, List.map_map, List.reverse_append, List.reverse_cons, List.reverse_nil, List.nil_append, List.singleton_append] at k ⊢
        exact k
      | cons y B ih =>
        intro A x hA hp
        simp only [List.length_append, List.length_cons] at hA
        obtain ⟨pA, pB, pAB⟩ := List.pairwise_append.mp hp
        have pB2 := List.pairwise_cons.mp pB
        have pB3 := List.pairwise_cons.mp pB2.2
        have hxy : x < y := pB2.1 y List.mem_cons_self
        have k := r_chain n (A ++ y :: B) (pre ++ [x]) (by simp only [List.length_append, List.length_cons]; omega) (List.pairwise_append.mpr ⟨pA, pB2.2, fun a ha b hb => pAB a ha b (List.mem_cons_of_mem _ hb)⟩)
        have k2 := ih (A ++ [x]) y (by simp only [List.length_append, List.length_cons, List.length_nil]; omega) (by
          rw [List.append_assoc, List.singleton_append]; exact hp)
        have e : ∀ q, (pre ++ [x]) ++ q = pre ++ (x :: q) := fun q => by rw [List.append_assoc, List.singleton_append]
        simp only [e] at k
        have e2 : r_Q (fun x r => (r_P n r).map (x :: ·)) A (x :: y :: B) = (r_P n (A ++ y :: B)).map (x :: ·) ++ r_Q (fun x r => (r_P n r).map (x :: ·)) (A ++ [x]) (y :: B) := rfl
        rw [e2, List.map_append, List.map_map]
        have e3 : (A ++ [x]) ++ B = A ++ x :: B := by rw [List.append_assoc, List.singleton_append]
        have e4 : (A ++ [x]) ++ y :: B = A ++ x :: y :: B := by rw [List.append_assoc, List.singleton_append]
        rw [e3, e4] at k2
        refine r_ok_app _ _ _ _ _ _ k ?_ k2
        refine ⟨pre, x, B.reverse, y, A.reverse, ?_, ?_, ?_, hxy, fun a ha => ?_⟩
        · simp only [List.reverse_append, List.reverse_cons, List.append_assoc, List.singleton_append]
        · simp only [List.reverse_reverse]
        · have : (B.reverse ++ y :: A.reverse) = (A ++ y :: B).reverse := by simp only [List.reverse_append, List.reverse_cons, List.append_assoc, List.singleton_append]
          rw [this, List.pairwise_reverse]
          exact List.pairwise_append.mpr ⟨pA, pB2.2, fun a ha b hb => pAB a ha b (List.mem_cons_of_mem _ hb)⟩
        · exact pAB a (List.mem_reverse.mp ha) x List.mem_cons_self
    cases l with
    | nil => exact absurd hl (by simp)
    | cons x B =>
      have k := inner B [] x (by simpa using hl) (by simpa using hs)
      exact k
theorem r_G_le {f : Nat → List Nat → Nat × List Nat} : ∀ (B A : List Nat) (u : Nat × List Nat), (r_G f A B u).1 ≤ u.1 ∧ ((r_G f A B u).1 = u.1 → r_G f A B u = u)
  | [], _, u => ⟨Nat.le_refl _, fun _ => rfl⟩
  | x :: B, A, u => by
    obtain ⟨h1, h2⟩ := r_G_le (f := f) B (A ++ [x]) (r_mn u (f x (A ++ B)))
    show (r_G f (A ++ [x]) B (r_mn u (f x (A ++ B)))).1 ≤ u.1 ∧ ((r_G f (A ++ [x]) B (r_mn u (f x (A ++ B)))).1 = u.1 → r_G f (A ++ [x]) B (r_mn u (f x (A ++ B))) = u)
    by_cases c : (f x (A ++ B)).1 < u.1
    · have e : r_mn u (f x (A ++ B)) = f x (A ++ B) := if_pos c
      rw [e] at h1 h2 ⊢
      exact ⟨by omega, fun z => by omega⟩
    · have e : r_mn u (f x (A ++ B)) = u := if_neg c
      rw [e] at h1 h2 ⊢
      exact ⟨h1, h2⟩
theorem r_B_le {d : Nat → Nat → Nat} {h : Nat → Nat} (hd : ∀ a b, d a b ≤ 400) (hh : ∀ a, h a ≤ 400) : ∀ (n s : Nat) (l : List Nat), l.length = n → (r_B d h n s l).1 ≤ 400 + 400 * n
  | 0, s, _, _ => by have := hh s; show h s ≤ _; omega
  | n + 1, s, [], hl => absurd hl (by simp)
  | n + 1, s, x :: B, hl => by
    have k := r_B_le hd hh n x B (by simpa using hl)
    have k2 := (r_G_le (f := fun x r => (d s x + (r_B d h n x r).1, x :: (r_B d h n x r).2)) B ([] ++ [x]) (r_mn (1000000, []) (d s x + (r_B d h n x ([] ++ B)).1, x :: (r_B d h n x ([] ++ B)).2))).1
    have k3 : (r_mn (1000000, []) (d s x + (r_B d h n x ([] ++ B)).1, x :: (r_B d h n x ([] ++ B)).2)).1 ≤ d s x + (r_B d h n x B).1 := by
      unfold r_mn
      split
      · exact Nat.le_refl _
      · rename_i c
        have c : ¬ d s x + (r_B d h n x B).1 < 1000000 := c
        show 1000000 ≤ _
        omega
    have := hd s x
    show (r_G (fun x r => (d s x + (r_B d h n x r).1, x :: (r_B d h n x r).2)) ([] ++ [x]) B (r_mn (1000000, []) (d s x + (r_B d h n x ([] ++ B)).1, x :: (r_B d h n x ([] ++ B)).2))).1 ≤ _
    omega
theorem r_P_mem : ∀ (n : Nat) (l : List Nat), l.length = n → ∀ p ∈ r_P n l, p.length = n ∧ ∀ x ∈ p, x ∈ l
  | 0, l, _, p, hp => by
    obtain rfl : p = [] := by simpa [r_P] using hp
    exact ⟨rfl, fun x hx => absurd hx (by simp)⟩
  | n + 1, l, hl, p, hp => by
    have inner : ∀ (B A : List Nat), (A ++ B).length = n + 1 → p ∈ r_Q (fun x r => (r_P n r).map (x :: ·)) A B → p.length = n + 1 ∧ ∀ x ∈ p, x ∈ A ++ B := by
      intro B
      induction B with
      | nil => intro A _ h; exact absurd h (by simp [r_Q])
      | cons x B ih =>
        intro A hA h
        have h : p ∈ (r_P n (A ++ B)).map (x :: ·) ++ r_Q (fun x r => (r_P n r).map (x :: ·)) (A ++ [x]) B := h
        rcases List.mem_append.mp h with h | h
        · obtain ⟨q, hq, rfl⟩ := List.mem_map.mp h
          obtain ⟨k1, k2⟩ := r_P_mem n (A ++ B) (by simp only [List.length_append, List.length_cons] at hA ⊢; omega) q hq
          refine ⟨by simp only [List.length_cons, k1], fun y hy => ?_⟩
          rcases List.mem_cons.mp hy with rfl | hy
          · simp
          · have := k2 y hy
            simp only [List.mem_append, List.mem_cons] at this ⊢
            rcases this with h | h
            · exact Or.inl h
            · exact Or.inr (Or.inr h)
        · have := ih (A ++ [x]) (by simp only [List.length_append, List.length_cons, List.length_nil] at hA ⊢; omega) h
          rw [List.append_assoc, List.singleton_append] at this
          exact this
    exact inner l [] (by simpa using hl) hp
def r_f : Nat → Nat
  | 0 => 1
  | n + 1 => (n + 1) * r_f n
theorem r_P_len : ∀ (n : Nat) (l : List Nat), l.length = n → (r_P n l).length = r_f n
  | 0, _, _ => rfl
  | n + 1, l, hl => by
    have inner : ∀ (B A : List Nat), (A ++ B).length = n + 1 → (r_Q (fun x r => (r_P n r).map (x :: ·)) A B).length = B.length * r_f n := by
      intro B
      induction B with
      | nil => intro A _; simp [r_Q]
      | cons x B ih =>
        intro A hA
        have e : r_Q (fun x r => (r_P n r).map (x :: ·)) A (x :: B) = (r_P n (A ++ B)).map (x :: ·) ++ r_Q (fun x r => (r_P n r).map (x :: ·)) (A ++ [x]) B := rfl
        rw [e, List.length_append, List.length_map, r_P_len n _ (by simp only [List.length_append, List.length_cons] at hA ⊢; omega), ih (A ++ [x]) (by simp only [List.length_append, List.length_cons, List.length_nil] at hA ⊢; omega), List.length_cons, Nat.succ_mul]
        omega
    have := inner l [] (by simpa using hl)
    rw [hl] at this
    exact this
theorem r_f_le {n : Nat} (h : n ≤ 8) : r_f n ≤ 40320 := by
  have : ∀ n, n < 9 → r_f n ≤ 40320 := by decide +kernel
  exact this n (by omega)
/-- miles of the first i ways -/
def r_s (d : Nat → Nat → Nat) (p : List Nat) : Nat → Nat
  | 0 => 0
  | i + 1 => r_s d p i + d (p.getD i 0) (p.getD (i + 1) 0)
theorem r_s_cons {d : Nat → Nat → Nat} {x y : Nat} {q : List Nat} : ∀ k, r_s d (x :: y :: q) (k + 1) = d x y + r_s d (y :: q) k
  | 0 => by show 0 + d x y = d x y + 0; omega
  | k + 1 => by
    show r_s d (x :: y :: q) (k + 1) + d ((y :: q).getD k 0) ((y :: q).getD (k + 1) 0) = d x y + (r_s d (y :: q) k + d ((y :: q).getD k 0) ((y :: q).getD (k + 1) 0))
    rw [r_s_cons k]
    omega
theorem r_bk_s {d : Nat → Nat → Nat} {h : Nat → Nat} : ∀ (q : List Nat) (x : Nat), r_bk d h x q = h ((x :: q).getD q.length 0) + r_s d (x :: q) q.length
  | [], x => rfl
  | y :: q, x => by
    show d x y + r_bk d h y q = h ((y :: q).getD q.length 0) + r_s d (x :: y :: q) (q.length + 1)
    rw [r_bk_s q y, r_s_cons]
    omega
theorem r_s_le {d : Nat → Nat → Nat} (hd : ∀ a b, d a b ≤ 400) (p : List Nat) : ∀ k, r_s d p k ≤ 400 * k
  | 0 => Nat.le_refl _
  | k + 1 => by
    have h1 := r_s_le hd p k
    have h2 := hd (p.getD k 0) (p.getD (k + 1) 0)
    show r_s d p k + d (p.getD k 0) (p.getD (k + 1) 0) ≤ _
    omega
