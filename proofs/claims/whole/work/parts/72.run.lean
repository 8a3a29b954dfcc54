/-! ===== the model: what its steps do ===== -/
def z_VM (sp wi ot : Nat → Int32) (S p q n : Nat) (M : q_Mem) : Prop := z_Lay M ∧ q_I M 108 4 = nI S ∧ q ≤ S ∧ S ≤ 200 ∧ (∀ j, p ≤ j → j < q → q_I M 113 j = sp j ∧ q_I M 114 j = wi j ∧ q_I M 115 j = ot j) ∧ q_I M 108 18 = nI n ∧ n + (q - p) ≤ 130
def z_vk (n : Nat) (M M' : q_Mem) : Prop := z_FR M M' ∧ (∀ a, a ≠ 108 → a ≠ 122 → q_I M' a = q_I M a) ∧ (∀ f, f ≠ 18 → q_I M' 108 f = q_I M 108 f) ∧ (∀ j, j < n → q_I M' 122 j = q_I M 122 j) ∧ (∀ a, a ≠ 121 → q_J M' a = q_J M a) ∧ ∀ j, j < n → q_J M' 121 j = q_J M 121 j
theorem z_vk.rf {n : Nat} {M : q_Mem} : z_vk n M M := ⟨z_FR.rf, fun _ _ _ => rfl, fun _ _ => rfl, fun _ _ => rfl, fun _ _ => rfl, fun _ _ => rfl⟩
theorem z_vk.tr {n n' : Nat} {M M1 M2 : q_Mem} (h : z_vk n M M1) (h2 : z_vk n' M1 M2) (hn : n ≤ n') : z_vk n M M2 :=
  ⟨h.1.tr h2.1, fun a x y => (h2.2.1 a x y).trans (h.2.1 a x y), fun f x => (h2.2.2.1 f x).trans (h.2.2.1 f x), fun j x => (h2.2.2.2.1 j (by omega)).trans (h.2.2.2.1 j x), fun a x => (h2.2.2.2.2.1 a x).trans (h.2.2.2.2.1 a x), fun j x => (h2.2.2.2.2.2 j (by omega)).trans (h.2.2.2.2.2 j x)⟩
theorem z_vk.f18 {n : Nat} {M : q_Mem} {v : Int32} : z_vk n M (q_sI M 108 18 v) :=
  ⟨⟨rfl, rfl, rfl⟩, fun a x y => q_sI_ne x, fun f x => by rw [z_I_sI, if_neg (by omega)], fun j _ => by rw [z_I_sI, if_neg (by omega)], fun _ _ => rfl, fun _ _ => rfl⟩
theorem z_VM.on {sp wi ot : Nat → Int32} {S p q n p' q' n' : Nat} {M M' : q_Mem} (h : z_VM sp wi ot S p q n M) (k : z_vk n M M') (hp : p ≤ p') (hq : q' ≤ q) (h18 : q_I M' 108 18 = nI n') (hn : n' + (q' - p') ≤ 130) : z_VM sp wi ot S p' q' n' M' := by
  obtain ⟨a1, a2, a3, a4, a5, a6, a7⟩ := h
  refine ⟨k.1.lay a1, ?_, by omega, a4, fun j h1 h2 => ?_, h18, hn⟩
  · rw [k.2.2.1 4 (by decide)]; exact a2
  · rw [k.2.1 113 (by decide) (by decide), k.2.1 114 (by decide) (by decide), k.2.1 115 (by decide) (by decide)]
    exact a5 j (by omega) (by omega)
def z_Run (sp wi ot : Nat → Int32) (p q : Nat) (s : z_Sem) : Prop := p < q ∧ ∀ (S n : Nat) (M : q_Mem), z_VM sp wi ot S p q n M → ∃ M' k, k ≤ q - p ∧ (∀ fu, f_X12_goes_b7 108 (fu + k) (nI p) M = f_X12_goes_b7 108 fu (nI q) M') ∧ z_vk n M M' ∧ q_I M' 108 18 = nI (n + 1) ∧ q_I M' 122 n = z_bi (s (q_J M 119)).2 ∧ ((s (q_J M 119)).2 = false → q_J M' 121 n = (s (q_J M 119)).1)
theorem z_Run.cong {sp wi ot sp' wi' ot' : Nat → Int32} {p q : Nat} {s : z_Sem} (h : z_Run sp wi ot p q s) (he : ∀ j, p ≤ j → j < q → sp' j = sp j ∧ wi' j = wi j ∧ ot' j = ot j) : z_Run sp' wi' ot' p q s := by
  refine ⟨h.1, fun S n M hM => h.2 S n M ?_⟩
  obtain ⟨a1, a2, a3, a4, a5, a6, a7⟩ := hM
  refine ⟨a1, a2, a3, a4, fun j h1 h2 => ?_, a6, a7⟩
  obtain ⟨e1, e2, e3⟩ := he j h1 h2
  obtain ⟨b1, b2, b3⟩ := a5 j h1 h2
  exact ⟨b1.trans e1, b2.trans e2, b3.trans e3⟩
section ZX
variable {M : q_Mem} {n : Nat}
theorem zk_puts (v : Int64) {d : Int32} (hL : z_Lay M) (h : q_I M 108 18 = nI n) (hn : n < 130) (hd : d = 0 ∨ d = 1) : ∃ M', f_X12_puts M 108 v d = some M' ∧ z_vk n M M' ∧ q_I M' 108 18 = nI (n + 1) ∧ q_J M' 121 n = v ∧ q_I M' 122 n = d := by
  have L1 : z_Lay (q_sJ M 121 n v) := z_L2 hL
  have L2 : z_Lay (q_sI (q_sJ M 121 n v) 122 n d) := z_L1 L1
  have e18 : q_I (q_sI (q_sJ M 121 n v) 122 n d) 108 18 = nI n := by rw [z_I_sI, if_neg (by omega), z_I_sJ]; exact h
  have tz : q_tZ (q_sJ M 121 n v) 122 (nI n) d = some (q_sI (q_sJ M 121 n v) 122 n d) := (za_122 L1).2.2 n d hn hd
  refine ⟨q_sI (q_sI (q_sJ M 121 n v) 122 n d) 108 18 (nI (n + 1)), ?_, ?_, ?_, ?_, ?_⟩
  · simp only [f_X12_puts, zob_108 hL, zo_108 hL, h, Option.bind_some, (za_121 hL).2.2 n v hn, zo_108 L1, z_I_sJ, tz, zo_108 L2, e18, ← nI_succ]
  · refine ⟨⟨rfl, rfl, rfl⟩, fun a x y => by rw [q_sI_ne x, q_sI_ne y]; rfl, fun f x => by rw [z_I_sI, if_neg (by omega), z_I_sI, if_neg (by omega)]; rfl, fun j x => by rw [z_I_sI, if_neg (by omega), z_I_sI, if_neg (by omega)]; rfl, fun a x => ?_, fun j x => ?_⟩
    · funext j
      show (if a = 121 ∧ j = n then v else q_J M a j) = _
      rw [if_neg (fun z => x z.1)]
    · show (if 121 = 121 ∧ j = n then v else q_J M 121 j) = _
      rw [if_neg (by omega)]
  · rw [z_I_sI, if_pos ⟨rfl, rfl⟩]
  · exact if_pos ⟨rfl, rfl⟩
  · rw [z_I_sI, if_neg (by omega), z_I_sI, if_pos ⟨rfl, rfl⟩]
theorem zk_un {how : Nat} (hh : how = 2 ∨ how = 3 ∨ how = 11) {d : Int32} {v : Int64} (hL : z_Lay M) (h : q_I M 108 18 = nI (n + 1)) (hn : n < 130) (hv : q_J M 121 n = v) (hd : q_I M 122 n = d) (hd2 : d = 0 ∨ d = 1) : ∃ M', f_X12_works M 108 (nI how) = some M' ∧ z_vk n M M' ∧ q_I M' 108 18 = nI (n + 1) ∧ q_I M' 122 n = d ∧ q_J M' 121 n = (if how = 3 then -v else if v = 0 then (if how = 2 then 1 else 0) else (if how = 2 then 0 else 1)) := by
  have L1 : z_Lay (q_sI M 108 18 (nI n)) := z_L1 hL
  have e18 : q_I (q_sI M 108 18 (nI n)) 108 18 = nI n := by rw [z_I_sI, if_pos ⟨rfl, rfl⟩]
  have eJ : q_J (q_sI M 108 18 (nI n)) = q_J M := rfl
  have ed : q_I (q_sI M 108 18 (nI n)) 122 n = d := by rw [z_I_sI, if_neg (by omega)]; exact hd
  obtain ⟨M', p, k, f, j, m⟩ := zk_puts (if how = 3 then -v else if v = 0 then (if how = 2 then 1 else 0) else (if how = 2 then 0 else 1)) L1 e18 hn hd2
  refine ⟨M', ?_, z_vk.f18.tr k (Nat.le_refl _), f, m, j⟩
  have rZ := (za_122 L1).2.1 n hn
  have rJ := (za_121 L1).2.1 n hn
  rcases hh with rfl | rfl | rfl
  · by_cases c : v = 0
    · simp only [c, if_true, show ((2 : Nat) = 3) = False by decide, if_false] at p
      simp only [f_X12_works, f_X12_works_b26, f_X12_works_b58, f_X12_works_b69, f_X12_works_b77, zob_108 hL, zo_108 hL, h, nI_pred, Option.bind_some, show (nI 2 = (2 : Int32)) = True by decide, show (nI 2 = (3 : Int32)) = False by decide, show (nI 2 = (11 : Int32)) = False by decide, if_true, if_false, zo_108 L1, e18, rJ, eJ, hv, c, rZ, ed, p]
    · simp only [c, if_true, show ((2 : Nat) = 3) = False by decide, if_false] at p
      simp only [f_X12_works, f_X12_works_b26, f_X12_works_b58, f_X12_works_b69, f_X12_works_b77, zob_108 hL, zo_108 hL, h, nI_pred, Option.bind_some, show (nI 2 = (2 : Int32)) = True by decide, show (nI 2 = (3 : Int32)) = False by decide, show (nI 2 = (11 : Int32)) = False by decide, show ((1 : Int32) = 0) = False by decide, if_true, if_false, zo_108 L1, e18, rJ, eJ, hv, c, rZ, ed, p]
  · simp only [if_true] at p
    simp only [f_X12_works, f_X12_works_b26, f_X12_works_b77, zob_108 hL, zo_108 hL, h, nI_pred, Option.bind_some, show (nI 3 = (2 : Int32)) = False by decide, show (nI 3 = (3 : Int32)) = True by decide, if_true, if_false, zo_108 L1, e18, rJ, eJ, hv, rZ, ed, p]
  · by_cases c : v = 0
    · simp only [c, if_true, show ((11 : Nat) = 3) = False by decide, show ((11 : Nat) = 2) = False by decide, if_false] at p
      simp only [f_X12_works, f_X12_works_b26, f_X12_works_b58, f_X12_works_b69, f_X12_works_b77, zob_108 hL, zo_108 hL, h, nI_pred, Option.bind_some, show (nI 11 = (2 : Int32)) = False by decide, show (nI 11 = (3 : Int32)) = False by decide, show (nI 11 = (11 : Int32)) = True by decide, show ((0 : Int32) = 1) = False by decide, if_true, if_false, zo_108 L1, e18, rJ, eJ, hv, c, rZ, ed, p]
    · simp only [c, if_true, show ((11 : Nat) = 3) = False by decide, show ((11 : Nat) = 2) = False by decide, if_false] at p
      simp only [f_X12_works, f_X12_works_b26, f_X12_works_b58, f_X12_works_b69, f_X12_works_b77, zob_108 hL, zo_108 hL, h, nI_pred, Option.bind_some, show (nI 11 = (2 : Int32)) = False by decide, show (nI 11 = (3 : Int32)) = False by decide, show (nI 11 = (11 : Int32)) = True by decide, if_true, if_false, zo_108 L1, e18, rJ, eJ, hv, c, rZ, ed, p]
/-- which step an operation is -/
def z_hw (k : Nat) : Nat := if k = 42 then 4 else if k = 43 then 6 else if k = 45 then 7 else if k = 47 then 5 else if k = 60 then 8 else if k = 62 then 9 else 10
theorem zk_two {k : Nat} (hk : k = 42 ∨ k = 43 ∨ k = 45 ∨ k = 47 ∨ k = 60 ∨ k = 61 ∨ k = 62) (a b : Int64) (h47 : k = 47 → b ≠ 0) : f_X12_twoOf M (nI (z_hw k)) a b = some (z_op k a b) := by
  rcases hk with rfl | rfl | rfl | rfl | rfl | rfl | rfl
  · simp only [f_X12_twoOf, show z_hw 42 = 4 from rfl, show (nI 4 < 4) = False by decide, show (nI 4 = 4) = True by decide, z_op, show ((42 : Nat) = 38) = False by decide, show ((42 : Nat) = 42) = True by decide, if_true, if_false]
  · simp only [f_X12_twoOf, show z_hw 43 = 6 from rfl, show (nI 6 < 4) = False by decide, show (nI 6 = 4) = False by decide, show (nI 6 = 5) = False by decide, show (nI 6 = 6) = True by decide, z_op, show ((43 : Nat) = 38) = False by decide, show ((43 : Nat) = 42) = False by decide, show ((43 : Nat) = 43) = True by decide, if_true, if_false]
  · simp only [f_X12_twoOf, show z_hw 45 = 7 from rfl, show (nI 7 < 4) = False by decide, show (nI 7 = 4) = False by decide, show (nI 7 = 5) = False by decide, show (nI 7 = 6) = False by decide, show (nI 7 = 7) = True by decide, z_op, show ((45 : Nat) = 38) = False by decide, show ((45 : Nat) = 42) = False by decide, show ((45 : Nat) = 43) = False by decide, show ((45 : Nat) = 45) = True by decide, if_true, if_false]
  · simp only [f_X12_twoOf, show z_hw 47 = 5 from rfl, show (nI 5 < 4) = False by decide, show (nI 5 = 4) = False by decide, show (nI 5 = 5) = True by decide, z_op, show ((47 : Nat) = 38) = False by decide, show ((47 : Nat) = 42) = False by decide, show ((47 : Nat) = 43) = False by decide, show ((47 : Nat) = 45) = False by decide, show ((47 : Nat) = 60) = False by decide, show ((47 : Nat) = 61) = False by decide, show ((47 : Nat) = 62) = False by decide, show ((47 : Nat) = 124) = False by decide, if_true, if_false, h47 rfl, show q_ldv a b = some (a / b) from if_neg (h47 rfl), Option.bind_some]
  · simp only [f_X12_twoOf, show z_hw 60 = 8 from rfl, show (nI 8 < 4) = False by decide, show (nI 8 = 4) = False by decide, show (nI 8 = 5) = False by decide, show (nI 8 = 6) = False by decide, show (nI 8 = 7) = False by decide, show (nI 8 = 8) = True by decide, z_op, show ((60 : Nat) = 38) = False by decide, show ((60 : Nat) = 42) = False by decide, show ((60 : Nat) = 43) = False by decide, show ((60 : Nat) = 45) = False by decide, show ((60 : Nat) = 60) = True by decide, if_true, if_false]
    split <;> rfl
  · simp only [f_X12_twoOf, show z_hw 61 = 10 from rfl, show (nI 10 < 4) = False by decide, show (nI 10 = 4) = False by decide, show (nI 10 = 5) = False by decide, show (nI 10 = 6) = False by decide, show (nI 10 = 7) = False by decide, show (nI 10 = 8) = False by decide, show (nI 10 = 9) = False by decide, z_op, show ((61 : Nat) = 38) = False by decide, show ((61 : Nat) = 42) = False by decide, show ((61 : Nat) = 43) = False by decide, show ((61 : Nat) = 45) = False by decide, show ((61 : Nat) = 60) = False by decide, show ((61 : Nat) = 61) = True by decide, if_true, if_false]
    split <;> rfl
  · simp only [f_X12_twoOf, show z_hw 62 = 9 from rfl, show (nI 9 < 4) = False by decide, show (nI 9 = 4) = False by decide, show (nI 9 = 5) = False by decide, show (nI 9 = 6) = False by decide, show (nI 9 = 7) = False by decide, show (nI 9 = 8) = False by decide, show (nI 9 = 9) = True by decide, z_op, show ((62 : Nat) = 38) = False by decide, show ((62 : Nat) = 42) = False by decide, show ((62 : Nat) = 43) = False by decide, show ((62 : Nat) = 45) = False by decide, show ((62 : Nat) = 60) = False by decide, show ((62 : Nat) = 61) = False by decide, show ((62 : Nat) = 62) = True by decide, if_true, if_false]
    split <;> rfl
theorem zk_bin {k : Nat} (hk : k = 42 ∨ k = 43 ∨ k = 45 ∨ k = 47 ∨ k = 60 ∨ k = 61 ∨ k = 62) {da db : Bool} {a b : Int64} (hL : z_Lay M) (h : q_I M 108 18 = nI (n + 2)) (hn : n + 1 < 130) (ha : q_J M 121 n = a) (hda : q_I M 122 n = z_bi da) (hb : q_J M 121 (n + 1) = b) (hdb : q_I M 122 (n + 1) = z_bi db) :
    ∃ M', f_X12_works M 108 (nI (z_hw k)) = some M' ∧ z_vk n M M' ∧ q_I M' 108 18 = nI (n + 1) ∧ q_I M' 122 n = z_bi (da || (db || (if k = 47 then (if b = 0 then true else false) else false))) ∧ ((da || (db || (if k = 47 then (if b = 0 then true else false) else false))) = false → q_J M' 121 n = z_op k a b) := by
  have L1 : z_Lay (q_sI M 108 18 (nI (n + 1))) := z_L1 hL
  have e18 : q_I (q_sI M 108 18 (nI (n + 1))) 108 18 = nI (n + 1) := by rw [z_I_sI, if_pos ⟨rfl, rfl⟩]
  have eJ : q_J (q_sI M 108 18 (nI (n + 1))) = q_J M := rfl
  have ed : q_I (q_sI M 108 18 (nI (n + 1))) 122 (n + 1) = z_bi db := by rw [z_I_sI, if_neg (by omega)]; exact hdb
  have ed2 : q_I (q_sI M 108 18 (nI (n + 1))) 122 n = z_bi da := by rw [z_I_sI, if_neg (by omega)]; exact hda
  have rZ := (za_122 L1).2.1 (n + 1) (by omega)
  have rZ2 := (za_122 L1).2.1 n (by omega)
  have rJ := (za_121 L1).2.1 (n + 1) (by omega)
  have L2 : z_Lay (q_sI (q_sI M 108 18 (nI (n + 1))) 108 18 (nI n)) := z_L1 L1
  have f18 : q_I (q_sI (q_sI M 108 18 (nI (n + 1))) 108 18 (nI n)) 108 18 = nI n := by rw [z_I_sI, if_pos ⟨rfl, rfl⟩]
  have fJ : q_J (q_sI (q_sI M 108 18 (nI (n + 1))) 108 18 (nI n)) = q_J M := rfl
  have sJ := (za_121 L2).2.1 n (by omega)
  -- the end: the flag d, and what is put
  have fin : ∀ d : Bool, (d = false → k = 47 → b ≠ 0) → ∃ M', f_X12_works_b142 (q_sI M 108 18 (nI (n + 1))) 108 (nI (z_hw k)) b (z_bi d) = some M' ∧ z_vk n M M' ∧ q_I M' 108 18 = nI (n + 1) ∧ q_I M' 122 n = z_bi d ∧ (d = false → q_J M' 121 n = z_op k a b) := by
    intro d hd
    obtain ⟨M', p, kk, f, j, m⟩ := zk_puts (n := n) (if d = true then 0 else z_op k a b) L2 f18 (by omega) (z_bi01 d)
    refine ⟨M', ?_, z_vk.f18.tr (z_vk.f18.tr kk (Nat.le_refl _)) (Nat.le_refl _), f, m, fun z => by rw [j, z]; rfl⟩
    cases d with
    | true =>
      have p' : f_X12_puts (q_sI (q_sI M 108 18 (nI (n + 1))) 108 18 (nI n)) 108 0 (z_bi true) = some M' := p
      simp only [f_X12_works_b142, zo_108 L1, e18, nI_pred, Option.bind_some, zo_108 L2, f18, sJ, show (z_bi true = 0) = False by decide, if_false, p']
    | false =>
      have p' : f_X12_puts (q_sI (q_sI M 108 18 (nI (n + 1))) 108 18 (nI n)) 108 (z_op k a b) (z_bi false) = some M' := p
      simp only [f_X12_works_b142, zo_108 L1, e18, nI_pred, Option.bind_some, zo_108 L2, f18, sJ, fJ, ha, show (z_bi false = 0) = True by decide, if_true, zk_two hk a b (hd rfl), p']
  have n2 : (nI (z_hw k) = (2 : Int32)) = False ∧ (nI (z_hw k) = (3 : Int32)) = False ∧ (nI (z_hw k) = (11 : Int32)) = False ∧ (nI (z_hw k) = (5 : Int32)) = (k = 47) := by
    rcases hk with rfl | rfl | rfl | rfl | rfl | rfl | rfl <;> refine ⟨by decide, by decide, by decide, by decide⟩
  obtain ⟨n2a, n2b, n2c, n2d⟩ := n2
  have st : f_X12_works M 108 (nI (z_hw k)) = if z_bi db = 0 then (if z_bi da = 0 then (if k = 47 then (if b = 0 then f_X12_works_b142 (q_sI M 108 18 (nI (n + 1))) 108 (nI (z_hw k)) b (1 : Int32) else f_X12_works_b142 (q_sI M 108 18 (nI (n + 1))) 108 (nI (z_hw k)) b (0 : Int32)) else f_X12_works_b142 (q_sI M 108 18 (nI (n + 1))) 108 (nI (z_hw k)) b (0 : Int32)) else f_X12_works_b142 (q_sI M 108 18 (nI (n + 1))) 108 (nI (z_hw k)) b (1 : Int32)) else f_X12_works_b142 (q_sI M 108 18 (nI (n + 1))) 108 (nI (z_hw k)) b (1 : Int32) := by
    have hp : nI (n + 2) - 1 = nI (n + 1) := nI_pred (n + 1)
    simp only [f_X12_works, zob_108 hL, zo_108 hL, h, hp, Option.bind_some, n2a, n2b, n2c, n2d, if_false, zo_108 L1, e18, rJ, eJ, hb, rZ, ed, nI_pred, rZ2, ed2]
  rw [st]
  cases db with
  | true =>
    obtain ⟨M', r1, r2, r3, r4, r5⟩ := fin true (fun z => by cases z)
    refine ⟨M', r1, r2, r3, ?_, fun z => ?_⟩
    · rw [r4]; cases da <;> rfl
    · cases da <;> cases z
  | false =>
    cases da with
    | true =>
      obtain ⟨M', r1, r2, r3, r4, r5⟩ := fin true (fun z => by cases z)
      refine ⟨M', r1, r2, r3, r4, fun z => by cases z⟩
    | false =>
      rw [if_pos (show z_bi false = 0 from rfl), if_pos (show z_bi false = 0 from rfl)]
      by_cases c : k = 47
      · by_cases c2 : b = 0
        · obtain ⟨M', r1, r2, r3, r4, r5⟩ := fin true (fun z => by cases z)
          rw [if_pos c, if_pos c2]
          refine ⟨M', r1, r2, r3, ?_, fun z => ?_⟩
          · rw [r4, if_pos c, if_pos c2]; rfl
          · rw [if_pos c, if_pos c2] at z; cases z
        · obtain ⟨M', r1, r2, r3, r4, r5⟩ := fin false (fun _ _ => c2)
          rw [if_pos c, if_neg c2]
          refine ⟨M', r1, r2, r3, ?_, fun z => r5 rfl⟩
          rw [r4, if_pos c, if_neg c2]; rfl
      · obtain ⟨M', r1, r2, r3, r4, r5⟩ := fin false (fun _ z => absurd z c)
        rw [if_neg c]
        refine ⟨M', r1, r2, r3, ?_, fun z => r5 rfl⟩
        rw [r4, if_neg c]; rfl
end ZX
theorem z_i64' {v : Nat} (hv : v < 2147483648) : (nI v).toInt64 = Int64.ofNat v := by
  apply Int64.toInt_inj.mp
  rw [Int32.toInt_toInt64, nI_toInt (by omega), Int64.toInt_ofNat_of_lt (by omega)]
section ZY
variable {sp wi ot : Nat → Int32} {p q m : Nat} {a b s : z_Sem}
theorem z_Run.num {v : Nat} (hv : v < 1000000) (h1 : sp p = 0) (h2 : wi p = nI v) : z_Run sp wi ot p (p + 1) (z_sNum (Int64.ofNat v)) := by
  refine ⟨by omega, fun S n M h => ?_⟩
  have h' := h
  obtain ⟨a1, a2, a3, a4, a5, a6, a7⟩ := h
  obtain ⟨M', p1, k, f, j, x⟩ := zk_puts (d := 0) (Int64.ofNat v) a1 a6 (by omega) (Or.inl rfl)
  obtain ⟨b1, b2, b3⟩ := a5 p (Nat.le_refl _) (by omega)
  have c1 : (nI p < nI S) = True := eq_true (nI_lt (by omega) (by omega))
  refine ⟨M', 1, by omega, fun fu => ?_, k, f, x, fun _ => j⟩
  simp only [f_X12_goes_b7.eq_2, f_X12_goes_b33, f_X12_goes_b86, zo_108 a1, a2, Option.bind_some, c1, if_true, (za_113 a1).2.1 p (by omega), b1, h1, (za_114 a1).2.1 p (by omega), b2, h2, z_i64' (show v < 2147483648 by omega), p1, ← nI_succ]
theorem z_Run.name {v : Nat} (hv : v < 8) (h1 : sp p = 1) (h2 : wi p = nI v) : z_Run sp wi ot p (p + 1) (z_sName v) := by
  refine ⟨by omega, fun S n M h => ?_⟩
  have h' := h
  obtain ⟨a1, a2, a3, a4, a5, a6, a7⟩ := h
  obtain ⟨M', p1, k, f, j, x⟩ := zk_puts (d := 0) (q_J M 119 v) a1 a6 (by omega) (Or.inl rfl)
  obtain ⟨b1, b2, b3⟩ := a5 p (Nat.le_refl _) (by omega)
  have c1 : (nI p < nI S) = True := eq_true (nI_lt (by omega) (by omega))
  refine ⟨M', 1, by omega, fun fu => ?_, k, f, x, fun _ => j⟩
  simp only [f_X12_goes_b7.eq_2, f_X12_goes_b33, f_X12_goes_b86, zo_108 a1, a2, Option.bind_some, c1, if_true, (za_113 a1).2.1 p (by omega), b1, h1, show ((1 : Int32) = 0) = False by decide, if_false, (za_114 a1).2.1 p (by omega), b2, h2, (za_119 a1).2.1 v hv, p1, ← nI_succ]
/-- one step of works -/
theorem z_stepW {S : Nat} {M M' : q_Mem} {how : Nat} (hL : z_Lay M) (h4 : q_I M 108 4 = nI S) (hq : q < S) (hS : S ≤ 200) (hs : q_I M 113 q = nI how) (h1 : 2 ≤ how) (h2 : how < 12) (hw : f_X12_works M 108 (nI how) = some M') (fu : Nat) : f_X12_goes_b7 108 (fu + 1) (nI q) M = f_X12_goes_b7 108 fu (nI (q + 1)) M' := by
  have c1 : (nI q < nI S) = True := eq_true (nI_lt hq (by omega))
  have n0 : (nI how = (0 : Int32)) = False := by rw [show (0 : Int32) = nI 0 from rfl, z_nI_in (by omega) (by decide)]; exact eq_false (by omega)
  have n1 : (nI how = (1 : Int32)) = False := by rw [show (1 : Int32) = nI 1 from rfl, z_nI_in (by omega) (by decide)]; exact eq_false (by omega)
  have n2 : (nI how < (12 : Int32)) = True := eq_true (nI_lt (b := 12) h2 (by decide))
  simp only [f_X12_goes_b7.eq_2, f_X12_goes_b86, zo_108 hL, h4, Option.bind_some, c1, if_true, (za_113 hL).2.1 q (by omega), hs, n0, n1, n2, if_false, hw, ← nI_succ]
theorem z_stepJ {S : Nat} {M M' : q_Mem} {how : Nat} {to : Int32} (hL : z_Lay M) (h4 : q_I M 108 4 = nI S) (hq : q < S) (hS : S ≤ 200) (hs : q_I M 113 q = nI how) (h1 : 12 ≤ how) (h2 : how < 16) (hw : f_X12_jumps M 108 (nI q) = some (to, M')) (fu : Nat) : f_X12_goes_b7 108 (fu + 1) (nI q) M = if to = (-1 : Int32) then f_X12_goes_b7 108 fu (nI (q + 1)) M' else f_X12_goes_b7 108 fu to M' := by
  have c1 : (nI q < nI S) = True := eq_true (nI_lt hq (by omega))
  have n0 : (nI how = (0 : Int32)) = False := by rw [show (0 : Int32) = nI 0 from rfl, z_nI_in (by omega) (by decide)]; exact eq_false (by omega)
  have n1 : (nI how = (1 : Int32)) = False := by rw [show (1 : Int32) = nI 1 from rfl, z_nI_in (by omega) (by decide)]; exact eq_false (by omega)
  have n2 : (nI how < (12 : Int32)) = False := eq_false (nI_nlt (b := 12) h1 (by omega))
  simp only [f_X12_goes_b7.eq_2, f_X12_goes_b86, zo_108 hL, h4, Option.bind_some, c1, if_true, (za_113 hL).2.1 q (by omega), hs, n0, n1, n2, if_false, hw, ← nI_succ]
theorem z_Run.un {how : Nat} (h : z_Run sp wi ot p q s) (hh : how = 2 ∨ how = 3) (h1 : sp q = nI how) : z_Run sp wi ot p (q + 1) (if how = 3 then z_sNeg s else z_sNot s) := by
  refine ⟨by have := h.1; omega, fun S n M hv => ?_⟩
  have hpq := h.1
  have h7 := hv.2.2.2.2.2.2
  obtain ⟨M1, k1, l1, r1, v1, f1, x1, j1⟩ := h.2 S n M (hv.on z_vk.rf (Nat.le_refl _) (by omega) hv.2.2.2.2.2.1 (by omega))
  have L1 := v1.1.lay hv.1
  have e4 : q_I M1 108 4 = nI S := by rw [v1.2.2.1 4 (by decide)]; exact hv.2.1
  have eq3 : q_I M1 113 q = nI how := by rw [v1.2.1 113 (by decide) (by decide), (hv.2.2.2.2.1 q (by omega) (by omega)).1, h1]
  obtain ⟨M2, p2, v2, f2, x2, j2⟩ := zk_un (how := how) (by omega) L1 f1 (by omega) rfl x1 (z_bi01 _)
  have s2 := z_stepW L1 e4 (by have := hv.2.2.1; omega) hv.2.2.2.1 eq3 (by omega) (by omega) p2
  refine ⟨M2, k1 + 1, by omega, fun fu => ?_, v1.tr v2 (Nat.le_refl _), f2, ?_, fun z => ?_⟩
  · rw [show fu + (k1 + 1) = (fu + 1) + k1 by omega, r1 (fu + 1), s2 fu]
  · rw [x2]
    rcases hh with rfl | rfl <;> rfl
  · rw [j2]
    rcases hh with rfl | rfl
    · have z' : (s (q_J M 119)).2 = false := z
      rw [j1 z', if_neg (by decide), if_pos rfl, if_pos rfl]; rfl
    · have z' : (s (q_J M 119)).2 = false := z
      rw [j1 z', if_pos rfl]; rfl
theorem z_Run.bin {k : Nat} (hk : k = 42 ∨ k = 43 ∨ k = 45 ∨ k = 47 ∨ k = 60 ∨ k = 61 ∨ k = 62) (ha : z_Run sp wi ot p m a) (hb : z_Run sp wi ot m q b) (h1 : sp q = nI (z_hw k)) : z_Run sp wi ot p (q + 1) (z_sBin k a b) := by
  have hpm := ha.1
  have hmq := hb.1
  refine ⟨by omega, fun S n M hv => ?_⟩
  have h7 := hv.2.2.2.2.2.2
  have hw : 2 ≤ z_hw k ∧ z_hw k < 12 := by rcases hk with z | z | z | z | z | z | z <;> rw [z] <;> decide
  have hdc : z_dc k (a (q_J M 119)).1 = false := by
    unfold z_dc
    rw [if_neg (by omega), if_neg (by omega)]
  obtain ⟨M1, k1, l1, r1, v1, f1, x1, j1⟩ := ha.2 S n M (hv.on z_vk.rf (Nat.le_refl _) (by omega) hv.2.2.2.2.2.1 (by omega))
  obtain ⟨M2, k2, l2, r2, v2, f2, x2, j2⟩ := hb.2 S (n + 1) M1 (hv.on v1 (by omega) (by omega) f1 (by omega))
  have v12 := v1.tr v2 (by omega)
  have L2 := v12.1.lay hv.1
  have e4 : q_I M2 108 4 = nI S := by rw [v12.2.2.1 4 (by decide)]; exact hv.2.1
  have eq3 : q_I M2 113 q = nI (z_hw k) := by rw [v12.2.1 113 (by decide) (by decide), (hv.2.2.2.2.1 q (by omega) (by omega)).1, h1]
  have e119 : q_J M1 119 = q_J M 119 := v1.2.2.2.2.1 119 (by decide)
  rw [e119] at x2 j2
  have xa : q_I M2 122 n = z_bi (a (q_J M 119)).2 := by rw [v2.2.2.2.1 n (by omega)]; exact x1
  have ja : q_J M2 121 n = q_J M1 121 n := v2.2.2.2.2.2 n (by omega)
  obtain ⟨M3, p3, v3, f3, x3, j3⟩ := zk_bin hk L2 f2 (by omega) rfl xa rfl x2
  have s3 := z_stepW L2 e4 (by have := hv.2.2.1; omega) hv.2.2.2.1 eq3 hw.1 hw.2 p3
  have fl : (z_sBin k a b (q_J M 119)).2 = ((a (q_J M 119)).2 || ((b (q_J M 119)).2 || (if k = 47 then (if (b (q_J M 119)).1 = 0 then true else false) else false))) := by
    show ((a (q_J M 119)).2 || (if z_dc k (a (q_J M 119)).1 = true then false else _)) = _
    rw [hdc, if_neg (by decide)]
  -- where b told none its number does not matter
  have fl2 : ((a (q_J M 119)).2 || ((b (q_J M 119)).2 || (if k = 47 then (if q_J M2 121 (n + 1) = 0 then true else false) else false))) = (z_sBin k a b (q_J M 119)).2 := by
    rw [fl]
    cases hbn : (b (q_J M 119)).2 with
    | true => rfl
    | false => rw [j2 hbn]
  refine ⟨M3, (k1 + k2) + 1, by omega, fun fu => ?_, v12.tr v3 (Nat.le_refl _), f3, ?_, fun z => ?_⟩
  · rw [show fu + ((k1 + k2) + 1) = ((fu + 1) + k2) + k1 by omega, r1, r2, s3]
  · rw [x3, fl2]
  · rw [j3 (fl2.trans z)]
    rw [fl] at z
    have za : (a (q_J M 119)).2 = false := by
      cases h : (a (q_J M 119)).2 with
      | true => rw [h] at z; cases z
      | false => rfl
    have zb : (b (q_J M 119)).2 = false := by
      cases h : (b (q_J M 119)).2 with
      | true => rw [za, h] at z; cases z
      | false => rfl
    rw [ja, j1 za, j2 zb]
    show _ = (if z_dc k (a (q_J M 119)).1 = true then _ else z_op k (a (q_J M 119)).1 (b (q_J M 119)).1)
    rw [hdc, if_neg (by decide)]
theorem z_nI_n1 {x : Nat} (h : x < 1000) : (nI x = (-1 : Int32)) = False := eq_false (z_nI_ne (by omega))
theorem z_Run.logic {k how : Nat} (hk : (k = 38 ∧ how = 12) ∨ (k = 124 ∧ how = 13)) (ha : z_Run sp wi ot p m a) (h1 : sp m = nI how) (h2 : wi m = nI (q + 1)) (hb : z_Run sp wi ot (m + 1) q b) (h3 : sp q = 11) : z_Run sp wi ot p (q + 1) (z_sBin k a b) := by
  have hpm := ha.1
  have hmq := hb.1
  refine ⟨by omega, fun S n M hv => ?_⟩
  have h7 := hv.2.2.2.2.2.2
  have hqS := hv.2.2.1
  have hS := hv.2.2.2.1
  obtain ⟨M1, k1, l1, r1, v1, f1, x1, j1⟩ := ha.2 S n M (hv.on z_vk.rf (Nat.le_refl _) (by omega) hv.2.2.2.2.2.1 (by omega))
  have L1 := v1.1.lay hv.1
  have e4 : q_I M1 108 4 = nI S := by rw [v1.2.2.1 4 (by decide)]; exact hv.2.1
  have es : q_I M1 113 m = nI how := by rw [v1.2.1 113 (by decide) (by decide), (hv.2.2.2.2.1 m (by omega) (by omega)).1, h1]
  have L1' : z_Lay (q_sI M1 108 18 (nI n)) := z_L1 L1
  have e18 : q_I (q_sI M1 108 18 (nI n)) 108 18 = nI n := by rw [z_I_sI, if_pos ⟨rfl, rfl⟩]
  have ex : q_I (q_sI M1 108 18 (nI n)) 122 n = z_bi (a (q_J M 119)).2 := by rw [z_I_sI, if_neg (by omega)]; exact x1
  have ew : ∀ X, z_vk n M X → q_lI X 114 (nI m) = some (nI (q + 1)) := fun X hX => by
    rw [(za_114 (hX.1.lay hv.1)).2.1 m (by omega), hX.2.1 114 (by decide) (by decide), (hv.2.2.2.2.1 m (by omega) (by omega)).2.1, h2]
  have n15 : (nI how = (15 : Int32)) = False := by rw [show (15 : Int32) = nI 15 from rfl, z_nI_in (by omega) (by decide)]; exact eq_false (by omega)
  have n14 : (nI how = (14 : Int32)) = False := by rw [show (14 : Int32) = nI 14 from rfl, z_nI_in (by omega) (by decide)]; exact eq_false (by omega)
  have rs := (za_113 L1).2.1 m (by omega)
  have rZ := (za_122 L1').2.1 n (by omega)
  have rJ := (za_121 L1').2.1 n (by omega)
  have eJ : q_J (q_sI M1 108 18 (nI n)) = q_J M1 := rfl
  have v1' : z_vk n M (q_sI M1 108 18 (nI n)) := v1.tr z_vk.f18 (Nat.le_refl _)
  cases han : (a (q_J M 119)).2 with
  | true =>
    obtain ⟨M2, p2, v2, f2, j2, x2⟩ := zk_puts (d := 1) 0 L1' e18 (by omega) (Or.inr rfl)
    have v12 := v1'.tr v2 (Nat.le_refl _)
    have L2 := v12.1.lay hv.1
    have jp : f_X12_jumps M1 108 (nI m) = some (nI (q + 1), M2) := by
      rw [han] at ex
      simp only [f_X12_jumps, zob_108 L1, zo_108 L1, rs, es, n15, if_false, f1, nI_pred, Option.bind_some, zo_108 L1', e18, rZ, ex, show (z_bi true = 0) = False by decide, p2, n14, zo_108 L2, ew M2 v12]
    have s2 := z_stepJ L1 e4 (by omega) hS es (by omega) (by omega) jp
    have fl : (z_sBin k a b (q_J M 119)).2 = true := by
      show ((a (q_J M 119)).2 || _) = true
      rw [han]; rfl
    refine ⟨M2, k1 + 1, by omega, fun fu => ?_, v12, f2, by rw [x2, fl]; rfl, fun z => by rw [fl] at z; cases z⟩
    rw [show fu + (k1 + 1) = (fu + 1) + k1 by omega, r1 (fu + 1), s2 fu, if_neg (z_nI_ne (show q + 1 < 1000000 by omega))]
  | false =>
    have ja := j1 han
    rw [han] at ex
    -- what jumps answers
    have jp : f_X12_jumps M1 108 (nI m) = if z_dc k (a (q_J M 119)).1 = true then f_X12_jumps_b136 (q_sI M1 108 18 (nI n)) 108 (nI m) 108 (if k = 124 then 1 else 0) else some ((-1 : Int32), q_sI M1 108 18 (nI n)) := by
      rcases hk with ⟨rfl, rfl⟩ | ⟨rfl, rfl⟩
      · by_cases c : (a (q_J M 119)).1 = 0
        · have ed : z_dc 38 (a (q_J M 119)).1 = true := by unfold z_dc; rw [if_neg (by decide), if_pos rfl, if_pos c]
          rw [if_pos ed]
          simp only [f_X12_jumps, f_X12_jumps_b89, f_X12_jumps_b123, zob_108 L1, zo_108 L1, rs, es, n15, if_false, f1, nI_pred, Option.bind_some, zo_108 L1', e18, rZ, ex, show (z_bi false = 0) = True by decide, if_true, rJ, eJ, ja, c, n14, show (nI 12 = (13 : Int32)) = False by decide, ed, show ((38 : Nat) = 124) = False by decide]
        · have ed : (z_dc 38 (a (q_J M 119)).1 = true) = False := by unfold z_dc; rw [if_neg (by decide), if_pos rfl, if_neg c]; decide
          rw [if_neg (fun z => by rw [ed] at z; exact z)]
          simp only [f_X12_jumps, f_X12_jumps_b89, f_X12_jumps_b123, zob_108 L1, zo_108 L1, rs, es, n15, if_false, f1, nI_pred, Option.bind_some, zo_108 L1', e18, rZ, ex, show (z_bi false = 0) = True by decide, if_true, rJ, eJ, ja, c, n14, show (nI 12 = (13 : Int32)) = False by decide, ed, show ((1 : Int32) = 0) = False by decide]
      · by_cases c : (a (q_J M 119)).1 = 0
        · have ed : (z_dc 124 (a (q_J M 119)).1 = true) = False := by unfold z_dc; rw [if_pos rfl, if_pos c]; decide
          rw [if_neg (fun z => by rw [ed] at z; exact z)]
          simp only [f_X12_jumps, f_X12_jumps_b89, f_X12_jumps_b123, zob_108 L1, zo_108 L1, rs, es, n15, if_false, f1, nI_pred, Option.bind_some, zo_108 L1', e18, rZ, ex, show (z_bi false = 0) = True by decide, if_true, rJ, eJ, ja, c, n14, show (nI 13 = (13 : Int32)) = True by decide, ed, show ((0 : Int32) = 1) = False by decide]
        · have ed : (z_dc 124 (a (q_J M 119)).1 = true) = True := by unfold z_dc; rw [if_pos rfl, if_neg c]; decide
          rw [if_pos (by rw [ed]; trivial)]
          simp only [f_X12_jumps, f_X12_jumps_b89, f_X12_jumps_b123, zob_108 L1, zo_108 L1, rs, es, n15, if_false, f1, nI_pred, Option.bind_some, zo_108 L1', e18, rZ, ex, show (z_bi false = 0) = True by decide, if_true, rJ, eJ, ja, c, n14, show (nI 13 = (13 : Int32)) = True by decide, ed, show ((1 : Int32) = 0) = False by decide]
    by_cases d : z_dc k (a (q_J M 119)).1 = true
    · rw [if_pos d] at jp
      obtain ⟨M2, p2, v2, f2, j2, x2⟩ := zk_puts (d := 0) (if k = 124 then (1 : Int64) else 0) L1' e18 (by omega) (Or.inl rfl)
      have v12 := v1'.tr v2 (Nat.le_refl _)
      have L2 := v12.1.lay hv.1
      have jp2 : f_X12_jumps M1 108 (nI m) = some (nI (q + 1), M2) := by
        rw [jp]
        simp only [f_X12_jumps_b136, p2, Option.bind_some, zo_108 L2, ew M2 v12]
      have s2 := z_stepJ L1 e4 (by omega) hS es (by omega) (by omega) jp2
      have fl : (z_sBin k a b (q_J M 119)).2 = false := by
        show ((a (q_J M 119)).2 || (if z_dc k (a (q_J M 119)).1 = true then false else _)) = false
        rw [han, if_pos d]; rfl
      refine ⟨M2, k1 + 1, by omega, fun fu => ?_, v12, f2, by rw [x2, fl]; rfl, fun z => ?_⟩
      · rw [show fu + (k1 + 1) = (fu + 1) + k1 by omega, r1 (fu + 1), s2 fu, if_neg (z_nI_ne (show q + 1 < 1000000 by omega))]
      · rw [j2]
        show _ = (if z_dc k (a (q_J M 119)).1 = true then (if k = 124 then 1 else 0) else _)
        rw [if_pos d]
    · rw [if_neg d] at jp
      have s2 := z_stepJ L1 e4 (by omega) hS es (by omega) (by omega) jp
      obtain ⟨M3, k3, l3, r3, v3, f3, x3, j3⟩ := hb.2 S n _ (hv.on v1' (by omega) (by omega) e18 (by omega))
      have v13 := v1'.tr v3 (Nat.le_refl _)
      have L3 := v13.1.lay hv.1
      have g4 : q_I M3 108 4 = nI S := by rw [v13.2.2.1 4 (by decide)]; exact hv.2.1
      have gs : q_I M3 113 q = nI 11 := by rw [v13.2.1 113 (by decide) (by decide), (hv.2.2.2.2.1 q (by omega) (by omega)).1, h3]; rfl
      have e119 : q_J (q_sI M1 108 18 (nI n)) 119 = q_J M 119 := v1'.2.2.2.2.1 119 (by decide)
      rw [e119] at x3 j3
      obtain ⟨M4, p4, v4, f4, x4, j4⟩ := zk_un (how := 11) (by omega) L3 f3 (by omega) rfl x3 (z_bi01 _)
      have s4 := z_stepW L3 g4 (by omega) hS gs (by decide) (by decide) p4
      have fl : (z_sBin k a b (q_J M 119)).2 = (b (q_J M 119)).2 := by
        show ((a (q_J M 119)).2 || (if z_dc k (a (q_J M 119)).1 = true then false else ((b (q_J M 119)).2 || (if k = 47 then _ else false)))) = _
        rw [han, if_neg d, if_neg (by omega), Bool.or_false]; rfl
      refine ⟨M4, ((k1 + 1) + k3) + 1, by omega, fun fu => ?_, v13.tr v4 (Nat.le_refl _), f4, by rw [x4, fl], fun z => ?_⟩
      · rw [show fu + (((k1 + 1) + k3) + 1) = (((fu + 1) + k3) + 1) + k1 by omega, r1, s2, if_pos rfl, r3, s4]
      · rw [fl] at z
        rw [j4, j3 z]
        simp only [show ((11 : Nat) = 3) = False by decide, show ((11 : Nat) = 2) = False by decide, if_false]
        show _ = (if z_dc k (a (q_J M 119)).1 = true then _ else z_op k (a (q_J M 119)).1 (b (q_J M 119)).1)
        rw [if_neg d]
        rcases hk with ⟨rfl, rfl⟩ | ⟨rfl, rfl⟩
        · show _ = (if (b (q_J M 119)).1 = 0 then 0 else 1)
          split <;> rfl
        · show _ = (if (b (q_J M 119)).1 = 0 then 0 else 1)
          split <;> rfl
theorem z_Run.cond {c : z_Sem} {n' : Nat} (hc : z_Run sp wi ot p m c) (h1 : sp m = 14) (h2 : wi m = nI (n' + 1)) (h3 : ot m = nI q) (ha : z_Run sp wi ot (m + 1) n' a) (h4 : sp n' = 15) (h5 : wi n' = nI q) (hb : z_Run sp wi ot (n' + 1) q b) : z_Run sp wi ot p q (z_sIf c a b) := by
  have hpm := hc.1
  have hmn := ha.1
  have hnq := hb.1
  refine ⟨by omega, fun S n M hv => ?_⟩
  have h7 := hv.2.2.2.2.2.2
  have hqS := hv.2.2.1
  have hS := hv.2.2.2.1
  obtain ⟨M1, k1, l1, r1, v1, f1, x1, j1⟩ := hc.2 S n M (hv.on z_vk.rf (Nat.le_refl _) (by omega) hv.2.2.2.2.2.1 (by omega))
  have L1 := v1.1.lay hv.1
  have e4 : q_I M1 108 4 = nI S := by rw [v1.2.2.1 4 (by decide)]; exact hv.2.1
  have es : q_I M1 113 m = nI 14 := by rw [v1.2.1 113 (by decide) (by decide), (hv.2.2.2.2.1 m (by omega) (by omega)).1, h1]; rfl
  have L1' : z_Lay (q_sI M1 108 18 (nI n)) := z_L1 L1
  have e18 : q_I (q_sI M1 108 18 (nI n)) 108 18 = nI n := by rw [z_I_sI, if_pos ⟨rfl, rfl⟩]
  have ex : q_I (q_sI M1 108 18 (nI n)) 122 n = z_bi (c (q_J M 119)).2 := by rw [z_I_sI, if_neg (by omega)]; exact x1
  have rs := (za_113 L1).2.1 m (by omega)
  have rZ := (za_122 L1').2.1 n (by omega)
  have rJ := (za_121 L1').2.1 n (by omega)
  have eJ : q_J (q_sI M1 108 18 (nI n)) = q_J M1 := rfl
  have v1' : z_vk n M (q_sI M1 108 18 (nI n)) := v1.tr z_vk.f18 (Nat.le_refl _)
  have ew : ∀ X, z_vk n M X → ∀ j y, p ≤ j → j < q → wi j = y → q_lI X 114 (nI j) = some y := fun X hX j y a1 a2 a3 => by
    rw [(za_114 (hX.1.lay hv.1)).2.1 j (by omega), hX.2.1 114 (by decide) (by decide), (hv.2.2.2.2.1 j a1 a2).2.1, a3]
  have e119 : q_J (q_sI M1 108 18 (nI n)) 119 = q_J M 119 := v1'.2.2.2.2.1 119 (by decide)
  cases han : (c (q_J M 119)).2 with
  | true =>
    obtain ⟨M2, p2, v2, f2, j2, x2⟩ := zk_puts (d := 1) 0 L1' e18 (by omega) (Or.inr rfl)
    have v12 := v1'.tr v2 (Nat.le_refl _)
    have L2 := v12.1.lay hv.1
    have eo : q_lI M2 115 (nI m) = some (nI q) := by
      rw [(za_115 L2).2.1 m (by omega), v12.2.1 115 (by decide) (by decide), (hv.2.2.2.2.1 m (by omega) (by omega)).2.2, h3]
    have jp : f_X12_jumps M1 108 (nI m) = some (nI q, M2) := by
      rw [han] at ex
      simp only [f_X12_jumps, zob_108 L1, zo_108 L1, rs, es, show (nI 14 = (15 : Int32)) = False by decide, if_false, f1, nI_pred, Option.bind_some, zo_108 L1', e18, rZ, ex, show (z_bi true = 0) = False by decide, p2, show (nI 14 = (14 : Int32)) = True by decide, if_true, zo_108 L2, eo]
    have s2 := z_stepJ L1 e4 (by omega) hS es (by decide) (by decide) jp
    have fl : (z_sIf c a b (q_J M 119)).2 = true := by
      show ((c (q_J M 119)).2 || _) = true
      rw [han]; rfl
    refine ⟨M2, k1 + 1, by omega, fun fu => ?_, v12, f2, by rw [x2, fl]; rfl, fun z => by rw [fl] at z; cases z⟩
    rw [show fu + (k1 + 1) = (fu + 1) + k1 by omega, r1 (fu + 1), s2 fu, if_neg (z_nI_ne (show q < 1000000 by omega))]
  | false =>
    have ja := j1 han
    rw [han] at ex
    by_cases d : (c (q_J M 119)).1 = 0
    · have jp : f_X12_jumps M1 108 (nI m) = some (nI (n' + 1), q_sI M1 108 18 (nI n)) := by
        simp only [f_X12_jumps, f_X12_jumps_b89, zob_108 L1, zo_108 L1, rs, es, show (nI 14 = (15 : Int32)) = False by decide, if_false, f1, nI_pred, Option.bind_some, zo_108 L1', e18, rZ, ex, show (z_bi false = 0) = True by decide, if_true, rJ, eJ, ja, d, show (nI 14 = (14 : Int32)) = True by decide, ew _ v1' m _ (by omega) (by omega) h2]
      have s2 := z_stepJ L1 e4 (by omega) hS es (by decide) (by decide) jp
      obtain ⟨M3, k3, l3, r3, v3, f3, x3, j3⟩ := hb.2 S n _ (hv.on v1' (by omega) (by omega) e18 (by omega))
      rw [e119] at x3 j3
      have fl : (z_sIf c a b (q_J M 119)).2 = (b (q_J M 119)).2 := by
        show ((c (q_J M 119)).2 || (if (c (q_J M 119)).1 = 0 then (b (q_J M 119)).2 else _)) = _
        rw [han, if_pos d]; rfl
      refine ⟨M3, (k1 + 1) + k3, by omega, fun fu => ?_, v1'.tr v3 (Nat.le_refl _), f3, by rw [x3, fl], fun z => ?_⟩
      · rw [show fu + ((k1 + 1) + k3) = ((fu + k3) + 1) + k1 by omega, r1, s2, if_neg (z_nI_ne (show n' + 1 < 1000000 by omega)), r3]
      · rw [fl] at z
        rw [j3 z]
        show _ = (if (c (q_J M 119)).1 = 0 then _ else _)
        rw [if_pos d]
    · have jp : f_X12_jumps M1 108 (nI m) = some ((-1 : Int32), q_sI M1 108 18 (nI n)) := by
        simp only [f_X12_jumps, f_X12_jumps_b89, zob_108 L1, zo_108 L1, rs, es, show (nI 14 = (15 : Int32)) = False by decide, if_false, f1, nI_pred, Option.bind_some, zo_108 L1', e18, rZ, ex, show (z_bi false = 0) = True by decide, if_true, rJ, eJ, ja, d, show (nI 14 = (14 : Int32)) = True by decide, show ((1 : Int32) = 0) = False by decide]
      have s2 := z_stepJ L1 e4 (by omega) hS es (by decide) (by decide) jp
      obtain ⟨M3, k3, l3, r3, v3, f3, x3, j3⟩ := ha.2 S n _ (hv.on v1' (by omega) (by omega) e18 (by omega))
      rw [e119] at x3 j3
      have v13 := v1'.tr v3 (Nat.le_refl _)
      have L3 := v13.1.lay hv.1
      have g4 : q_I M3 108 4 = nI S := by rw [v13.2.2.1 4 (by decide)]; exact hv.2.1
      have gs : q_I M3 113 n' = nI 15 := by rw [v13.2.1 113 (by decide) (by decide), (hv.2.2.2.2.1 n' (by omega) (by omega)).1, h4]; rfl
      have jp3 : f_X12_jumps M3 108 (nI n') = some (nI q, M3) := by
        simp only [f_X12_jumps, zob_108 L3, zo_108 L3, (za_113 L3).2.1 n' (by omega), gs, show (nI 15 = (15 : Int32)) = True by decide, if_true, Option.bind_some, ew M3 v13 n' _ (by omega) (by omega) h5]
      have s4 := z_stepJ L3 g4 (by omega) hS gs (by decide) (by decide) jp3
      have fl : (z_sIf c a b (q_J M 119)).2 = (a (q_J M 119)).2 := by
        show ((c (q_J M 119)).2 || (if (c (q_J M 119)).1 = 0 then _ else (a (q_J M 119)).2)) = _
        rw [han, if_neg d]; rfl
      refine ⟨M3, ((k1 + 1) + k3) + 1, by omega, fun fu => ?_, v13, f3, by rw [x3, fl], fun z => ?_⟩
      · rw [show fu + (((k1 + 1) + k3) + 1) = (((fu + 1) + k3) + 1) + k1 by omega, r1, s2, if_pos rfl, r3, s4, if_neg (z_nI_ne (show q < 1000000 by omega))]
      · rw [fl] at z
        rw [j3 z]
        show _ = (if (c (q_J M 119)).1 = 0 then _ else _)
        rw [if_neg d]
end ZY
