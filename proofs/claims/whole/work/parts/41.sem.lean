/-! ===== texts: what they mean, apart from both sides ===== -/
abbrev z_Sem := (Nat → Int64) → Int64 × Bool
abbrev z_Fr := Nat × z_Sem × z_Sem
def z_rk (k : Nat) : Nat := if k = 38 then 2 else if k = 42 then 5 else if k = 43 then 4 else if k = 45 then 4 else if k = 47 then 5 else if k = 60 then 3 else if k = 61 then 3 else if k = 62 then 3 else if k = 124 then 1 else 0
theorem z_rk_pos {k : Nat} (h : 0 < z_rk k) : k = 38 ∨ k = 42 ∨ k = 43 ∨ k = 45 ∨ k = 47 ∨ k = 60 ∨ k = 61 ∨ k = 62 ∨ k = 124 := by
  unfold z_rk at h
  repeat' split at h
  all_goals omega
def z_op (k : Nat) (x y : Int64) : Int64 := if k = 38 then (if y = 0 then 0 else 1) else if k = 42 then x * y else if k = 43 then x + y else if k = 45 then x - y else if k = 60 then (if x < y then 1 else 0) else if k = 61 then (if x = y then 1 else 0) else if k = 62 then (if y < x then 1 else 0) else if k = 124 then (if y = 0 then 0 else 1) else (if y = 0 then 0 else x / y)
/-- the left side decides -/
def z_dc (k : Nat) (x : Int64) : Bool := if k = 124 then (if x = 0 then false else true) else if k = 38 then (if x = 0 then true else false) else false
def z_sNum (v : Int64) : z_Sem := fun _ => (v, false)
def z_sName (k : Nat) : z_Sem := fun ν => (ν k, false)
def z_sNot (s : z_Sem) : z_Sem := fun ν => (if (s ν).1 = 0 then 1 else 0, (s ν).2)
def z_sNeg (s : z_Sem) : z_Sem := fun ν => (-(s ν).1, (s ν).2)
def z_sBin (k : Nat) (a b : z_Sem) : z_Sem := fun ν => (if z_dc k (a ν).1 = true then (if k = 124 then 1 else 0) else z_op k (a ν).1 (b ν).1, (a ν).2 || (if z_dc k (a ν).1 = true then false else ((b ν).2 || (if k = 47 then (if (b ν).1 = 0 then true else false) else false))))
def z_sIf (c a b : z_Sem) : z_Sem := fun ν => (if (c ν).1 = 0 then (b ν).1 else (a ν).1, (c ν).2 || (if (c ν).1 = 0 then (b ν).2 else (a ν).2))
/-- ! and - ahead of a unit -/
def z_gU : List z_Fr → z_Sem → List z_Fr × z_Sem
  | [], s => ([], s)
  | f :: t, s => if f.1 = 33 then z_gU t (z_sNot s) else if f.1 = 128 then z_gU t (z_sNeg s) else (f :: t, s)
def z_gS (r : Nat) : List z_Fr → z_Sem → List z_Fr × z_Sem
  | [], s => ([], s)
  | f :: t, s => if z_rk f.1 < r then (f :: t, s) else z_gS r t (z_sBin f.1 f.2.1 s)
def z_gC : List z_Fr → z_Sem → List z_Fr × z_Sem
  | [], s => ([], s)
  | f :: t, s => if f.1 = 58 then z_gC t (z_sIf f.2.1 f.2.2 s) else (f :: t, s)
def z_gE (fr : List z_Fr) (s : z_Sem) : List z_Fr × z_Sem := z_gC (z_gS 1 fr s).1 (z_gS 1 fr s).2
def z_tk : List z_Fr → Nat
  | [] => 0
  | f :: _ => f.1
def z_opn : List z_Fr → Nat
  | [] => 0
  | f :: t => (if f.1 = 40 then 1 else 0) + z_opn t
def z_dg (c : Nat) : Prop := 48 ≤ c ∧ c ≤ 57
theorem z_dgD (c : Nat) : Decidable (z_dg c) = Decidable (48 ≤ c ∧ c ≤ 57) := rfl
def z_nmOf (c : Nat) : Nat := if c = 119 then 0 else if c = 102 then 1 else if c = 110 then 2 else if c = 111 then 3 else if c = 116 then 4 else if c = 109 then 5 else if c = 99 then 6 else if c = 114 then 7 else 8
/-- the place behind a number's digits, and the number -/
def z_nd (c : Nat → Nat) (len : Nat) : Nat → Nat → Nat → Nat × Nat
  | 0, i, v => (i, v)
  | n + 1, i, v => if i < len ∧ 48 ≤ c i ∧ c i ≤ 57 then z_nd c len n (i + 1) (10 * v + (c i - 48)) else (i, v)
def z_no2 : z_Sem := fun _ => (0, false)
/-- the reading: FAULT or -1, and what the text means -/
def z_gP (len : Nat) (c : Nat → Nat) : Nat → Nat → List z_Fr → Option z_Sem → Int32 × z_Sem
  | 0, _, _, _ => (0, z_no2)
  | n + 1, i, fr, none =>
    if i < len then
      if c i = 32 then z_gP len c n (i + 1) fr none
      else if 48 ≤ c i ∧ c i ≤ 57 then
        if 6 < (z_nd c len len i 0).1 - i then (nI (10 * i + 2), z_no2)
        else z_gP len c n (z_nd c len len i 0).1 (z_gU fr (z_sNum (Int64.ofNat (z_nd c len len i 0).2))).1 (some (z_gU fr (z_sNum (Int64.ofNat (z_nd c len len i 0).2))).2)
      else if c i = 33 then z_gP len c n (i + 1) ((33, z_no2, z_no2) :: fr) none
      else if c i = 45 then z_gP len c n (i + 1) ((128, z_no2, z_no2) :: fr) none
      else if c i = 40 then
        if z_opn fr < 8 then z_gP len c n (i + 1) ((40, z_no2, z_no2) :: fr) none
        else (nI (10 * i + 3), z_no2)
      else if z_nmOf (c i) < 8 then z_gP len c n (i + 1) (z_gU fr (z_sName (z_nmOf (c i)))).1 (some (z_gU fr (z_sName (z_nmOf (c i)))).2)
      else (nI (10 * i + 1), z_no2)
    else (nI (10 * len + 1), z_no2)
  | n + 1, i, fr, some s =>
    if i < len then
      if c i = 32 then z_gP len c n (i + 1) fr (some s)
      else if c i = 63 then z_gP len c n (i + 1) ((63, (z_gS 1 fr s).2, z_no2) :: (z_gS 1 fr s).1) none
      else if c i = 58 then
        if z_tk (z_gE fr s).1 = 63 then z_gP len c n (i + 1) ((58, ((z_gE fr s).1.headD (0, z_no2, z_no2)).2.1, (z_gE fr s).2) :: (z_gE fr s).1.tail) none
        else (nI (10 * i + 1), z_no2)
      else if c i = 41 then
        if z_tk (z_gE fr s).1 = 40 then z_gP len c n (i + 1) (z_gU (z_gE fr s).1.tail (z_gE fr s).2).1 (some (z_gU (z_gE fr s).1.tail (z_gE fr s).2).2)
        else (nI (10 * i + 1), z_no2)
      else if z_rk (c i) = 0 then (nI (10 * i + 1), z_no2)
      else if z_rk (c i) = 3 then
        if z_rk (z_tk (z_gS 4 fr s).1) = 3 then (nI (10 * i + 1), z_no2)
        else z_gP len c n (i + 1) ((c i, (z_gS 4 fr s).2, z_no2) :: (z_gS 4 fr s).1) none
      else z_gP len c n (i + 1) ((c i, (z_gS (z_rk (c i)) fr s).2, z_no2) :: (z_gS (z_rk (c i)) fr s).1) none
    else if z_tk (z_gE fr s).1 = 0 then (-1, (z_gE fr s).2)
    else (nI (10 * len + 1), z_no2)
/-- room -/
def z_wt : List z_Fr → Nat
  | [] => 0
  | f :: t => (if 0 < z_rk f.1 then 2 else if f.1 = 58 then 2 else 1) + z_wt t
theorem z_gU_wt : ∀ (fr : List z_Fr) (s : z_Sem), z_wt (z_gU fr s).1 ≤ z_wt fr
  | [], s => Nat.le_refl _
  | f :: t, s => by
    unfold z_gU
    split
    · exact Nat.le_trans (z_gU_wt t _) (Nat.le_add_left _ _)
    · split
      · exact Nat.le_trans (z_gU_wt t _) (Nat.le_add_left _ _)
      · exact Nat.le_refl _
theorem z_gS_wt (r : Nat) : ∀ (fr : List z_Fr) (s : z_Sem), z_wt (z_gS r fr s).1 ≤ z_wt fr
  | [], s => Nat.le_refl _
  | f :: t, s => by
    unfold z_gS
    split
    · exact Nat.le_refl _
    · exact Nat.le_trans (z_gS_wt r t _) (Nat.le_add_left _ _)
theorem z_gC_wt : ∀ (fr : List z_Fr) (s : z_Sem), z_wt (z_gC fr s).1 ≤ z_wt fr
  | [], s => Nat.le_refl _
  | f :: t, s => by
    unfold z_gC
    split
    · exact Nat.le_trans (z_gC_wt t _) (Nat.le_add_left _ _)
    · exact Nat.le_refl _
theorem z_gE_wt (fr : List z_Fr) (s : z_Sem) : z_wt (z_gE fr s).1 ≤ z_wt fr := Nat.le_trans (z_gC_wt _ _) (z_gS_wt 1 _ _)
/-- the signs of a text that stands at o -/
def z_ct (st : Nat → Int32) (o n : Nat) : Nat → Nat := fun j => if j < n then (st (o + 1 + j)).toNatClampNeg else 0
/-- the text that stands at o has no FAULT -/
def z_ff (st : Nat → Int32) (o : Nat) : Prop := (z_gP (st o).toNatClampNeg (z_ct st o (st o).toNatClampNeg) ((st o).toNatClampNeg + 1) 0 [] none).1 = -1
theorem z_ct_eq {st st' : Nat → Int32} {o o' n : Nat} (h : ∀ j, j < n → st' (o' + 1 + j) = st (o + 1 + j)) : z_ct st' o' n = z_ct st o n := by
  funext j
  unfold z_ct
  by_cases c : j < n
  · rw [if_pos c, if_pos c, h j c]
  · rw [if_neg c, if_neg c]
theorem z_ff.cong {st st' : Nat → Int32} {o o' : Nat} (h : z_ff st o) (h0 : st' o' = st o) (hk : ∀ j, j < (st o).toNatClampNeg → st' (o' + 1 + j) = st (o + 1 + j)) : z_ff st' o' := by
  unfold z_ff
  rw [h0, z_ct_eq hk]
  exact h
