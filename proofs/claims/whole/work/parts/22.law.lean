def f_L_law_b2161 (L : Nat) (xs : Nat → Int32) (kk18 : Int32 → q_Mem → Option (Int32 × q_Mem)) (M : q_Mem) (a1 : Nat) (a2 : Nat) (a3 : Int32) : Option (Int32 × q_Mem) :=
  kk18 (a3 + (6 : Int32)) M
def f_L_law_b2147 (L : Nat) (xs : Nat → Int32) (kk18 : Int32 → q_Mem → Option (Int32 × q_Mem)) (M : q_Mem) (a1 : Nat) (a2 : Nat) (a3 : Int32) : Option (Int32 × q_Mem) :=
  (f_X11_digest M a1).bind fun v579 =>
  (f_X12_digest M a2).bind fun v581 =>
  (if v579 = v581 then
    f_L_law_b2161 L xs kk18 M a1 a2 a3
  else
    some ((0 : Int32), M))
def f_L_law_b2124 (L : Nat) (xs : Nat → Int32) (kk18 : Int32 → q_Mem → Option (Int32 × q_Mem)) (M : q_Mem) (a1 : Nat) (a2 : Nat) (a3 : Int32) : Option (Int32 × q_Mem) :=
  (if q_inb (a3 + (1 : Int32)) L = true then
    (f_X11_count M a1 (xs (a3 + (1 : Int32)).toNatClampNeg)).bind fun v573 =>
    (if q_inb (a3 + (1 : Int32)) L = true then
      (f_X12_count M a2 (xs (a3 + (1 : Int32)).toNatClampNeg)).bind fun v576 =>
      (if v573 = v576 then
        f_L_law_b2161 L xs kk18 M a1 a2 a3
      else
        some ((0 : Int32), M))
    else none)
  else none)
def f_L_law_b2101 (L : Nat) (xs : Nat → Int32) (kk18 : Int32 → q_Mem → Option (Int32 × q_Mem)) (M : q_Mem) (a1 : Nat) (a2 : Nat) (a3 : Int32) : Option (Int32 × q_Mem) :=
  (if q_inb (a3 + (1 : Int32)) L = true then
    (f_X11_from M a1 (xs (a3 + (1 : Int32)).toNatClampNeg)).bind fun r566 =>
    (if q_inb (a3 + (1 : Int32)) L = true then
      (f_X12_from r566.2 a2 (xs (a3 + (1 : Int32)).toNatClampNeg)).bind fun r569 =>
      (if r566.1 = r569.1 then
        f_L_law_b2161 L xs kk18 r569.2 a1 a2 a3
      else
        some ((0 : Int32), r569.2))
    else none)
  else none)
def f_L_law_b2078 (L : Nat) (xs : Nat → Int32) (kk18 : Int32 → q_Mem → Option (Int32 × q_Mem)) (M : q_Mem) (a1 : Nat) (a2 : Nat) (a3 : Int32) : Option (Int32 × q_Mem) :=
  (if q_inb (a3 + (1 : Int32)) L = true then
    (f_X11_image M a1 (xs (a3 + (1 : Int32)).toNatClampNeg)).bind fun r559 =>
    (if q_inb (a3 + (1 : Int32)) L = true then
      (f_X12_image r559.2 a2 (xs (a3 + (1 : Int32)).toNatClampNeg)).bind fun r562 =>
      (if r559.1 = r562.1 then
        f_L_law_b2161 L xs kk18 r562.2 a1 a2 a3
      else
        some ((0 : Int32), r562.2))
    else none)
  else none)
def f_L_law_b2055 (L : Nat) (xs : Nat → Int32) (kk18 : Int32 → q_Mem → Option (Int32 × q_Mem)) (M : q_Mem) (a1 : Nat) (a2 : Nat) (a3 : Int32) : Option (Int32 × q_Mem) :=
  (if q_inb (a3 + (1 : Int32)) L = true then
    (f_X11_ends M a1 (xs (a3 + (1 : Int32)).toNatClampNeg)).bind fun v552 =>
    (if q_inb (a3 + (1 : Int32)) L = true then
      (f_X12_ends M a2 (xs (a3 + (1 : Int32)).toNatClampNeg)).bind fun v555 =>
      (if v552 = v555 then
        f_L_law_b2161 L xs kk18 M a1 a2 a3
      else
        some ((0 : Int32), M))
    else none)
  else none)
def f_L_law_b2021 (L : Nat) (xs : Nat → Int32) (kk18 : Int32 → q_Mem → Option (Int32 × q_Mem)) (M : q_Mem) (a1 : Nat) (a2 : Nat) (a3 : Int32) : Option (Int32 × q_Mem) :=
  (if q_inb (a3 + (1 : Int32)) L = true then
    (if q_inb (a3 + (2 : Int32)) L = true then
      (f_X11_owed M a1 (xs (a3 + (1 : Int32)).toNatClampNeg) (xs (a3 + (2 : Int32)).toNatClampNeg)).bind fun v544 =>
      (if q_inb (a3 + (1 : Int32)) L = true then
        (if q_inb (a3 + (2 : Int32)) L = true then
          (f_X12_owed M a2 (xs (a3 + (1 : Int32)).toNatClampNeg) (xs (a3 + (2 : Int32)).toNatClampNeg)).bind fun v548 =>
          (if v544 = v548 then
            f_L_law_b2161 L xs kk18 M a1 a2 a3
          else
            some ((0 : Int32), M))
        else none)
      else none)
    else none)
  else none)
def f_L_law_b1978 (L : Nat) (xs : Nat → Int32) (kk18 : Int32 → q_Mem → Option (Int32 × q_Mem)) (M : q_Mem) (a1 : Nat) (a2 : Nat) (a3 : Int32) : Option (Int32 × q_Mem) :=
  (if q_inb (a3 + (1 : Int32)) L = true then
    (if q_inb (a3 + (2 : Int32)) L = true then
      (if q_inb (a3 + (3 : Int32)) L = true then
        (f_X11_loan M a1 (xs (a3 + (1 : Int32)).toNatClampNeg) (xs (a3 + (2 : Int32)).toNatClampNeg) (xs (a3 + (3 : Int32)).toNatClampNeg)).bind fun r534 =>
        (if q_inb (a3 + (1 : Int32)) L = true then
          (if q_inb (a3 + (2 : Int32)) L = true then
            (if q_inb (a3 + (3 : Int32)) L = true then
              (f_X12_loan r534.2 a2 (xs (a3 + (1 : Int32)).toNatClampNeg) (xs (a3 + (2 : Int32)).toNatClampNeg) (xs (a3 + (3 : Int32)).toNatClampNeg)).bind fun r539 =>
              (if r534.1 = r539.1 then
                f_L_law_b2161 L xs kk18 r539.2 a1 a2 a3
              else
                some ((0 : Int32), r539.2))
            else none)
          else none)
        else none)
      else none)
    else none)
  else none)
def f_L_law_b1945 (L : Nat) (xs : Nat → Int32) (kk18 : Int32 → q_Mem → Option (Int32 × q_Mem)) (M : q_Mem) (a1 : Nat) (a2 : Nat) (a3 : Int32) : Option (Int32 × q_Mem) :=
  (if q_inb (a3 + (1 : Int32)) L = true then
    (if q_inb (a3 + (2 : Int32)) L = true then
      (f_X11_nearest M a1 (xs (a3 + (1 : Int32)).toNatClampNeg) (xs (a3 + (2 : Int32)).toNatClampNeg)).bind fun v524 =>
      (if q_inb (a3 + (1 : Int32)) L = true then
        (if q_inb (a3 + (2 : Int32)) L = true then
          (f_X12_nearest M a2 (xs (a3 + (1 : Int32)).toNatClampNeg) (xs (a3 + (2 : Int32)).toNatClampNeg)).bind fun v528 =>
          (if v524 = v528 then
            f_L_law_b2161 L xs kk18 M a1 a2 a3
          else
            some ((0 : Int32), M))
        else none)
      else none)
    else none)
  else none)
def f_L_law_b1921 (L : Nat) (xs : Nat → Int32) (kk18 : Int32 → q_Mem → Option (Int32 × q_Mem)) (M : q_Mem) (a1 : Nat) (a2 : Nat) (a3 : Int32) : Option (Int32 × q_Mem) :=
  (if q_inb (a3 + (1 : Int32)) L = true then
    (f_X11_open M a1 (xs (a3 + (1 : Int32)).toNatClampNeg)).bind fun r516 =>
    (if q_inb (a3 + (1 : Int32)) L = true then
      (f_X12_open r516.2 a2 (xs (a3 + (1 : Int32)).toNatClampNeg)).bind fun v519 =>
      (if r516.1 = v519 then
        f_L_law_b2161 L xs kk18 r516.2 a1 a2 a3
      else
        some ((0 : Int32), r516.2))
    else none)
  else none)
def f_L_law_b1898 (L : Nat) (xs : Nat → Int32) (kk18 : Int32 → q_Mem → Option (Int32 × q_Mem)) (M : q_Mem) (a1 : Nat) (a2 : Nat) (a3 : Int32) : Option (Int32 × q_Mem) :=
  (if q_inb (a3 + (1 : Int32)) L = true then
    (f_X11_freight M a1 (xs (a3 + (1 : Int32)).toNatClampNeg)).bind fun r509 =>
    (if q_inb (a3 + (1 : Int32)) L = true then
      (f_X12_freight r509.2 a2 (xs (a3 + (1 : Int32)).toNatClampNeg)).bind fun r512 =>
      (if r509.1 = r512.1 then
        f_L_law_b2161 L xs kk18 r512.2 a1 a2 a3
      else
        some ((0 : Int32), r512.2))
    else none)
  else none)
def f_L_law_b1855 (L : Nat) (xs : Nat → Int32) (kk18 : Int32 → q_Mem → Option (Int32 × q_Mem)) (M : q_Mem) (a1 : Nat) (a2 : Nat) (a3 : Int32) : Option (Int32 × q_Mem) :=
  (if q_inb (a3 + (1 : Int32)) L = true then
    (if q_inb (a3 + (2 : Int32)) L = true then
      (if q_inb (a3 + (3 : Int32)) L = true then
        (f_X11_site M a1 (xs (a3 + (1 : Int32)).toNatClampNeg) (xs (a3 + (2 : Int32)).toNatClampNeg) (xs (a3 + (3 : Int32)).toNatClampNeg)).bind fun r500 =>
        (if q_inb (a3 + (1 : Int32)) L = true then
          (if q_inb (a3 + (2 : Int32)) L = true then
            (if q_inb (a3 + (3 : Int32)) L = true then
              (f_X12_site r500.2 a2 (xs (a3 + (1 : Int32)).toNatClampNeg) (xs (a3 + (2 : Int32)).toNatClampNeg) (xs (a3 + (3 : Int32)).toNatClampNeg)).bind fun r505 =>
              (if r500.1 = r505.1 then
                f_L_law_b2161 L xs kk18 r505.2 a1 a2 a3
              else
                some ((0 : Int32), r505.2))
            else none)
          else none)
        else none)
      else none)
    else none)
  else none)
def f_L_law_b1822 (L : Nat) (xs : Nat → Int32) (kk18 : Int32 → q_Mem → Option (Int32 × q_Mem)) (M : q_Mem) (a1 : Nat) (a2 : Nat) (a3 : Int32) : Option (Int32 × q_Mem) :=
  (if q_inb (a3 + (1 : Int32)) L = true then
    (if q_inb (a3 + (2 : Int32)) L = true then
      (f_X11_foretold M a1 (xs (a3 + (1 : Int32)).toNatClampNeg) (xs (a3 + (2 : Int32)).toNatClampNeg)).bind fun v490 =>
      (if q_inb (a3 + (1 : Int32)) L = true then
        (if q_inb (a3 + (2 : Int32)) L = true then
          (f_X12_foretold M a2 (xs (a3 + (1 : Int32)).toNatClampNeg) (xs (a3 + (2 : Int32)).toNatClampNeg)).bind fun v494 =>
          (if v490 = v494 then
            f_L_law_b2161 L xs kk18 M a1 a2 a3
          else
            some ((0 : Int32), M))
        else none)
      else none)
    else none)
  else none)
def f_L_law_b1779 (L : Nat) (xs : Nat → Int32) (kk18 : Int32 → q_Mem → Option (Int32 × q_Mem)) (M : q_Mem) (a1 : Nat) (a2 : Nat) (a3 : Int32) : Option (Int32 × q_Mem) :=
  (if q_inb (a3 + (1 : Int32)) L = true then
    (if q_inb (a3 + (2 : Int32)) L = true then
      (if q_inb (a3 + (3 : Int32)) L = true then
        (f_X11_calved M a1 (xs (a3 + (1 : Int32)).toNatClampNeg) (xs (a3 + (2 : Int32)).toNatClampNeg) (xs (a3 + (3 : Int32)).toNatClampNeg)).bind fun r480 =>
        (if q_inb (a3 + (1 : Int32)) L = true then
          (if q_inb (a3 + (2 : Int32)) L = true then
            (if q_inb (a3 + (3 : Int32)) L = true then
              (f_X12_calved r480.2 a2 (xs (a3 + (1 : Int32)).toNatClampNeg) (xs (a3 + (2 : Int32)).toNatClampNeg) (xs (a3 + (3 : Int32)).toNatClampNeg)).bind fun r485 =>
              (if r480.1 = r485.1 then
                f_L_law_b2161 L xs kk18 r485.2 a1 a2 a3
              else
                some ((0 : Int32), r485.2))
            else none)
          else none)
        else none)
      else none)
    else none)
  else none)
def f_L_law_b1746 (L : Nat) (xs : Nat → Int32) (kk18 : Int32 → q_Mem → Option (Int32 × q_Mem)) (M : q_Mem) (a1 : Nat) (a2 : Nat) (a3 : Int32) : Option (Int32 × q_Mem) :=
  (if q_inb (a3 + (1 : Int32)) L = true then
    (if q_inb (a3 + (2 : Int32)) L = true then
      (f_X11_gives M a1 (xs (a3 + (1 : Int32)).toNatClampNeg) (xs (a3 + (2 : Int32)).toNatClampNeg)).bind fun r470 =>
      (if q_inb (a3 + (1 : Int32)) L = true then
        (if q_inb (a3 + (2 : Int32)) L = true then
          (f_X12_gives r470.2 a2 (xs (a3 + (1 : Int32)).toNatClampNeg) (xs (a3 + (2 : Int32)).toNatClampNeg)).bind fun r474 =>
          (if r470.1 = r474.1 then
            f_L_law_b2161 L xs kk18 r474.2 a1 a2 a3
          else
            some ((0 : Int32), r474.2))
        else none)
      else none)
    else none)
  else none)
def f_L_law_b1713 (L : Nat) (xs : Nat → Int32) (kk18 : Int32 → q_Mem → Option (Int32 × q_Mem)) (M : q_Mem) (a1 : Nat) (a2 : Nat) (a3 : Int32) : Option (Int32 × q_Mem) :=
  (if q_inb (a3 + (1 : Int32)) L = true then
    (if q_inb (a3 + (2 : Int32)) L = true then
      (f_X11_heap M a1 (xs (a3 + (1 : Int32)).toNatClampNeg) (xs (a3 + (2 : Int32)).toNatClampNeg)).bind fun r461 =>
      (if q_inb (a3 + (1 : Int32)) L = true then
        (if q_inb (a3 + (2 : Int32)) L = true then
          (f_X12_heap r461.2 a2 (xs (a3 + (1 : Int32)).toNatClampNeg) (xs (a3 + (2 : Int32)).toNatClampNeg)).bind fun r465 =>
          (if r461.1 = r465.1 then
            f_L_law_b2161 L xs kk18 r465.2 a1 a2 a3
          else
            some ((0 : Int32), r465.2))
        else none)
      else none)
    else none)
  else none)
def f_L_law_b1689 (L : Nat) (xs : Nat → Int32) (kk18 : Int32 → q_Mem → Option (Int32 × q_Mem)) (M : q_Mem) (a1 : Nat) (a2 : Nat) (a3 : Int32) : Option (Int32 × q_Mem) :=
  (if q_inb (a3 + (1 : Int32)) L = true then
    (f_X11_together M a1 (xs (a3 + (1 : Int32)).toNatClampNeg)).bind fun r453 =>
    (if q_inb (a3 + (1 : Int32)) L = true then
      (f_X12_together r453.2 a2 (xs (a3 + (1 : Int32)).toNatClampNeg)).bind fun r456 =>
      (if r453.1 = r456.1 then
        f_L_law_b2161 L xs kk18 r456.2 a1 a2 a3
      else
        some ((0 : Int32), r456.2))
    else none)
  else none)
def f_L_law_b1676 (L : Nat) (xs : Nat → Int32) (kk18 : Int32 → q_Mem → Option (Int32 × q_Mem)) (M : q_Mem) (a1 : Nat) (a2 : Nat) (a3 : Int32) : Option (Int32 × q_Mem) :=
  (f_X11_drain M a1).bind fun r447 =>
  (f_X12_drain r447.2 a2).bind fun r449 =>
  (if r447.1 = r449.1 then
    f_L_law_b2161 L xs kk18 r449.2 a1 a2 a3
  else
    some ((0 : Int32), r449.2))
def f_L_law_b1633 (L : Nat) (xs : Nat → Int32) (kk18 : Int32 → q_Mem → Option (Int32 × q_Mem)) (M : q_Mem) (a1 : Nat) (a2 : Nat) (a3 : Int32) : Option (Int32 × q_Mem) :=
  (if q_inb (a3 + (1 : Int32)) L = true then
    (if q_inb (a3 + (2 : Int32)) L = true then
      (if q_inb (a3 + (3 : Int32)) L = true then
        (f_X11_cream M a1 (xs (a3 + (1 : Int32)).toNatClampNeg) (xs (a3 + (2 : Int32)).toNatClampNeg) (xs (a3 + (3 : Int32)).toNatClampNeg)).bind fun r439 =>
        (if q_inb (a3 + (1 : Int32)) L = true then
          (if q_inb (a3 + (2 : Int32)) L = true then
            (if q_inb (a3 + (3 : Int32)) L = true then
              (f_X12_cream r439.2 a2 (xs (a3 + (1 : Int32)).toNatClampNeg) (xs (a3 + (2 : Int32)).toNatClampNeg) (xs (a3 + (3 : Int32)).toNatClampNeg)).bind fun r444 =>
              (if r439.1 = r444.1 then
                f_L_law_b2161 L xs kk18 r444.2 a1 a2 a3
              else
                some ((0 : Int32), r444.2))
            else none)
          else none)
        else none)
      else none)
    else none)
  else none)
def f_L_law_b1600 (L : Nat) (xs : Nat → Int32) (kk18 : Int32 → q_Mem → Option (Int32 × q_Mem)) (M : q_Mem) (a1 : Nat) (a2 : Nat) (a3 : Int32) : Option (Int32 × q_Mem) :=
  (if q_inb (a3 + (1 : Int32)) L = true then
    (if q_inb (a3 + (2 : Int32)) L = true then
      (f_X11_routeAt M a1 (xs (a3 + (1 : Int32)).toNatClampNeg) (xs (a3 + (2 : Int32)).toNatClampNeg)).bind fun r429 =>
      (if q_inb (a3 + (1 : Int32)) L = true then
        (if q_inb (a3 + (2 : Int32)) L = true then
          (f_X12_routeAt r429.2 a2 (xs (a3 + (1 : Int32)).toNatClampNeg) (xs (a3 + (2 : Int32)).toNatClampNeg)).bind fun r433 =>
          (if r429.1 = r433.1 then
            f_L_law_b2161 L xs kk18 r433.2 a1 a2 a3
          else
            some ((0 : Int32), r433.2))
        else none)
      else none)
    else none)
  else none)
def f_L_law_b1577 (L : Nat) (xs : Nat → Int32) (kk18 : Int32 → q_Mem → Option (Int32 × q_Mem)) (M : q_Mem) (a1 : Nat) (a2 : Nat) (a3 : Int32) : Option (Int32 × q_Mem) :=
  (if q_inb (a3 + (1 : Int32)) L = true then
    (f_X11_route M a1 (xs (a3 + (1 : Int32)).toNatClampNeg)).bind fun r421 =>
    (if q_inb (a3 + (1 : Int32)) L = true then
      (f_X12_route r421.2 a2 (xs (a3 + (1 : Int32)).toNatClampNeg)).bind fun r424 =>
      (if r421.1 = r424.1 then
        f_L_law_b2161 L xs kk18 r424.2 a1 a2 a3
      else
        some ((0 : Int32), r424.2))
    else none)
  else none)
def f_L_law_b1554 (L : Nat) (xs : Nat → Int32) (kk18 : Int32 → q_Mem → Option (Int32 × q_Mem)) (M : q_Mem) (a1 : Nat) (a2 : Nat) (a3 : Int32) : Option (Int32 × q_Mem) :=
  (if q_inb (a3 + (1 : Int32)) L = true then
    (f_X11_sour M a1 (xs (a3 + (1 : Int32)).toNatClampNeg)).bind fun r414 =>
    (if q_inb (a3 + (1 : Int32)) L = true then
      (f_X12_sour r414.2 a2 (xs (a3 + (1 : Int32)).toNatClampNeg)).bind fun r417 =>
      (if r414.1 = r417.1 then
        f_L_law_b2161 L xs kk18 r417.2 a1 a2 a3
      else
        some ((0 : Int32), r417.2))
    else none)
  else none)
def f_L_law_b1511 (L : Nat) (xs : Nat → Int32) (kk18 : Int32 → q_Mem → Option (Int32 × q_Mem)) (M : q_Mem) (a1 : Nat) (a2 : Nat) (a3 : Int32) : Option (Int32 × q_Mem) :=
  (if q_inb (a3 + (1 : Int32)) L = true then
    (if q_inb (a3 + (2 : Int32)) L = true then
      (if q_inb (a3 + (3 : Int32)) L = true then
        (f_X11_watered M a1 (xs (a3 + (1 : Int32)).toNatClampNeg) (xs (a3 + (2 : Int32)).toNatClampNeg) (xs (a3 + (3 : Int32)).toNatClampNeg)).bind fun r405 =>
        (if q_inb (a3 + (1 : Int32)) L = true then
          (if q_inb (a3 + (2 : Int32)) L = true then
            (if q_inb (a3 + (3 : Int32)) L = true then
              (f_X12_watered r405.2 a2 (xs (a3 + (1 : Int32)).toNatClampNeg) (xs (a3 + (2 : Int32)).toNatClampNeg) (xs (a3 + (3 : Int32)).toNatClampNeg)).bind fun r410 =>
              (if r405.1 = r410.1 then
                f_L_law_b2161 L xs kk18 r410.2 a1 a2 a3
              else
                some ((0 : Int32), r410.2))
            else none)
          else none)
        else none)
      else none)
    else none)
  else none)
def f_L_law_b1467 (L : Nat) (xs : Nat → Int32) (kk18 : Int32 → q_Mem → Option (Int32 × q_Mem)) (M : q_Mem) (a1 : Nat) (a2 : Nat) (a3 : Int32) : Option (Int32 × q_Mem) :=
  (if q_inb (a3 + (1 : Int32)) L = true then
    (if q_inb (a3 + (2 : Int32)) L = true then
      (if q_inb (a3 + (3 : Int32)) L = true then
        (f_X11_share M a1 (xs (a3 + (1 : Int32)).toNatClampNeg) (xs (a3 + (2 : Int32)).toNatClampNeg) (xs (a3 + (3 : Int32)).toNatClampNeg)).bind fun r394 =>
        (if q_inb (a3 + (1 : Int32)) L = true then
          (if q_inb (a3 + (2 : Int32)) L = true then
            (if q_inb (a3 + (3 : Int32)) L = true then
              (f_X12_share r394.2 a2 (xs (a3 + (1 : Int32)).toNatClampNeg) (xs (a3 + (2 : Int32)).toNatClampNeg) (xs (a3 + (3 : Int32)).toNatClampNeg)).bind fun r399 =>
              (if r394.1 = r399.1 then
                f_L_law_b2161 L xs kk18 r399.2 a1 a2 a3
              else
                some ((0 : Int32), r399.2))
            else none)
          else none)
        else none)
      else none)
    else none)
  else none)
def f_L_law_b1423 (L : Nat) (xs : Nat → Int32) (kk18 : Int32 → q_Mem → Option (Int32 × q_Mem)) (M : q_Mem) (a1 : Nat) (a2 : Nat) (a3 : Int32) : Option (Int32 × q_Mem) :=
  (if q_inb (a3 + (1 : Int32)) L = true then
    (if q_inb (a3 + (2 : Int32)) L = true then
      (if q_inb (a3 + (3 : Int32)) L = true then
        (f_X11_pay M a1 (xs (a3 + (1 : Int32)).toNatClampNeg) (xs (a3 + (2 : Int32)).toNatClampNeg) (xs (a3 + (3 : Int32)).toNatClampNeg)).bind fun r383 =>
        (if q_inb (a3 + (1 : Int32)) L = true then
          (if q_inb (a3 + (2 : Int32)) L = true then
            (if q_inb (a3 + (3 : Int32)) L = true then
              (f_X12_pay r383.2 a2 (xs (a3 + (1 : Int32)).toNatClampNeg) (xs (a3 + (2 : Int32)).toNatClampNeg) (xs (a3 + (3 : Int32)).toNatClampNeg)).bind fun r388 =>
              (if r383.1 = r388.1 then
                f_L_law_b2161 L xs kk18 r388.2 a1 a2 a3
              else
                some ((0 : Int32), r388.2))
            else none)
          else none)
        else none)
      else none)
    else none)
  else none)
def f_L_law_b1389 (L : Nat) (xs : Nat → Int32) (kk18 : Int32 → q_Mem → Option (Int32 × q_Mem)) (M : q_Mem) (a1 : Nat) (a2 : Nat) (a3 : Int32) : Option (Int32 × q_Mem) :=
  (if q_inb (a3 + (1 : Int32)) L = true then
    (if q_inb (a3 + (2 : Int32)) L = true then
      (f_X11_money M a1 (xs (a3 + (1 : Int32)).toNatClampNeg) (xs (a3 + (2 : Int32)).toNatClampNeg)).bind fun v373 =>
      (if q_inb (a3 + (1 : Int32)) L = true then
        (if q_inb (a3 + (2 : Int32)) L = true then
          (f_X12_money M a2 (xs (a3 + (1 : Int32)).toNatClampNeg) (xs (a3 + (2 : Int32)).toNatClampNeg)).bind fun v377 =>
          (if v373 = v377 then
            f_L_law_b2161 L xs kk18 M a1 a2 a3
          else
            some ((0 : Int32), M))
        else none)
      else none)
    else none)
  else none)
def f_L_law_b1366 (L : Nat) (xs : Nat → Int32) (kk18 : Int32 → q_Mem → Option (Int32 × q_Mem)) (M : q_Mem) (a1 : Nat) (a2 : Nat) (a3 : Int32) : Option (Int32 × q_Mem) :=
  (if q_inb (a3 + (1 : Int32)) L = true then
    (f_X11_force M a1 (xs (a3 + (1 : Int32)).toNatClampNeg)).bind fun v365 =>
    (if q_inb (a3 + (1 : Int32)) L = true then
      (f_X12_force M a2 (xs (a3 + (1 : Int32)).toNatClampNeg)).bind fun v368 =>
      (if v365 = v368 then
        f_L_law_b2161 L xs kk18 M a1 a2 a3
      else
        some ((0 : Int32), M))
    else none)
  else none)
def f_L_law_b1333 (L : Nat) (xs : Nat → Int32) (kk18 : Int32 → q_Mem → Option (Int32 × q_Mem)) (M : q_Mem) (a1 : Nat) (a2 : Nat) (a3 : Int32) : Option (Int32 × q_Mem) :=
  (if q_inb (a3 + (1 : Int32)) L = true then
    (if q_inb (a3 + (2 : Int32)) L = true then
      (f_X11_motionAt M a1 (xs (a3 + (1 : Int32)).toNatClampNeg) (xs (a3 + (2 : Int32)).toNatClampNeg)).bind fun v357 =>
      (if q_inb (a3 + (1 : Int32)) L = true then
        (if q_inb (a3 + (2 : Int32)) L = true then
          (f_X12_motionAt M a2 (xs (a3 + (1 : Int32)).toNatClampNeg) (xs (a3 + (2 : Int32)).toNatClampNeg)).bind fun v361 =>
          (if v357 = v361 then
            f_L_law_b2161 L xs kk18 M a1 a2 a3
          else
            some ((0 : Int32), M))
        else none)
      else none)
    else none)
  else none)
def f_L_law_b1325 (L : Nat) (xs : Nat → Int32) (kk18 : Int32 → q_Mem → Option (Int32 × q_Mem)) (M : q_Mem) (a1 : Nat) (a2 : Nat) (a3 : Int32) (s0 : Int32) (s1 : Nat) (s2 : Int32) (s3 : Int32) : Option (Int32 × q_Mem) :=
  (f_X12_tear M s1 s2 s3).bind fun r617 =>
  (if s0 = r617.1 then
    f_L_law_b2161 L xs kk18 r617.2 a1 a2 a3
  else
    some ((0 : Int32), r617.2))
def f_L_law_b1303 (L : Nat) (xs : Nat → Int32) (kk18 : Int32 → q_Mem → Option (Int32 × q_Mem)) (M : q_Mem) (a1 : Nat) (a2 : Nat) (a3 : Int32) (s0 : Nat) (s1 : Int32) (s2 : Int32) : Option (Int32 × q_Mem) :=
  (f_X11_tear M s0 s1 s2).bind fun r603 =>
  (if q_inb (a3 + (1 : Int32)) L = true then
    (if q_inb (a3 + (2 : Int32)) L = true then
      (if (xs (a3 + (2 : Int32)).toNatClampNeg) = 0 then
        f_L_law_b1325 L xs kk18 r603.2 a1 a2 a3 r603.1 a2 (xs (a3 + (1 : Int32)).toNatClampNeg) (0 : Int32)
      else
        f_L_law_b1325 L xs kk18 r603.2 a1 a2 a3 r603.1 a2 (xs (a3 + (1 : Int32)).toNatClampNeg) (1 : Int32))
    else none)
  else none)
def f_L_law_b1284 (L : Nat) (xs : Nat → Int32) (kk18 : Int32 → q_Mem → Option (Int32 × q_Mem)) (M : q_Mem) (a1 : Nat) (a2 : Nat) (a3 : Int32) : Option (Int32 × q_Mem) :=
  (if q_inb (a3 + (1 : Int32)) L = true then
    (if q_inb (a3 + (2 : Int32)) L = true then
      (if (xs (a3 + (2 : Int32)).toNatClampNeg) = 0 then
        f_L_law_b1303 L xs kk18 M a1 a2 a3 a1 (xs (a3 + (1 : Int32)).toNatClampNeg) (0 : Int32)
      else
        f_L_law_b1303 L xs kk18 M a1 a2 a3 a1 (xs (a3 + (1 : Int32)).toNatClampNeg) (1 : Int32))
    else none)
  else none)
def f_L_law_b1241 (L : Nat) (xs : Nat → Int32) (kk18 : Int32 → q_Mem → Option (Int32 × q_Mem)) (M : q_Mem) (a1 : Nat) (a2 : Nat) (a3 : Int32) : Option (Int32 × q_Mem) :=
  (if q_inb (a3 + (1 : Int32)) L = true then
    (if q_inb (a3 + (2 : Int32)) L = true then
      (if q_inb (a3 + (3 : Int32)) L = true then
        (f_X11_vote M a1 (xs (a3 + (1 : Int32)).toNatClampNeg) (xs (a3 + (2 : Int32)).toNatClampNeg) (xs (a3 + (3 : Int32)).toNatClampNeg)).bind fun r344 =>
        (if q_inb (a3 + (1 : Int32)) L = true then
          (if q_inb (a3 + (2 : Int32)) L = true then
            (if q_inb (a3 + (3 : Int32)) L = true then
              (f_X12_vote r344.2 a2 (xs (a3 + (1 : Int32)).toNatClampNeg) (xs (a3 + (2 : Int32)).toNatClampNeg) (xs (a3 + (3 : Int32)).toNatClampNeg)).bind fun r349 =>
              (if r344.1 = r349.1 then
                f_L_law_b2161 L xs kk18 r349.2 a1 a2 a3
              else
                some ((0 : Int32), r349.2))
            else none)
          else none)
        else none)
      else none)
    else none)
  else none)
def f_L_law_b1233 (L : Nat) (xs : Nat → Int32) (kk18 : Int32 → q_Mem → Option (Int32 × q_Mem)) (M : q_Mem) (a1 : Nat) (a2 : Nat) (a3 : Int32) (s0 : Int32) (s1 : Nat) (s2 : Int32) (s3 : Int32) (s4 : Int32) : Option (Int32 × q_Mem) :=
  (f_X12_motion M s1 s2 s3 s4).bind fun r614 =>
  (if s0 = r614.1 then
    f_L_law_b2161 L xs kk18 r614.2 a1 a2 a3
  else
    some ((0 : Int32), r614.2))
def f_L_law_b1206 (L : Nat) (xs : Nat → Int32) (kk18 : Int32 → q_Mem → Option (Int32 × q_Mem)) (M : q_Mem) (a1 : Nat) (a2 : Nat) (a3 : Int32) (s0 : Nat) (s1 : Int32) (s2 : Int32) (s3 : Int32) : Option (Int32 × q_Mem) :=
  (f_X11_motion M s0 s1 s2 s3).bind fun r597 =>
  (if q_inb (a3 + (1 : Int32)) L = true then
    (if q_inb (a3 + (2 : Int32)) L = true then
      (if q_inb (a3 + (3 : Int32)) L = true then
        (if (xs (a3 + (3 : Int32)).toNatClampNeg) = 0 then
          f_L_law_b1233 L xs kk18 r597.2 a1 a2 a3 r597.1 a2 (xs (a3 + (1 : Int32)).toNatClampNeg) (xs (a3 + (2 : Int32)).toNatClampNeg) (0 : Int32)
        else
          f_L_law_b1233 L xs kk18 r597.2 a1 a2 a3 r597.1 a2 (xs (a3 + (1 : Int32)).toNatClampNeg) (xs (a3 + (2 : Int32)).toNatClampNeg) (1 : Int32))
      else none)
    else none)
  else none)
def f_L_law_b1182 (L : Nat) (xs : Nat → Int32) (kk18 : Int32 → q_Mem → Option (Int32 × q_Mem)) (M : q_Mem) (a1 : Nat) (a2 : Nat) (a3 : Int32) : Option (Int32 × q_Mem) :=
  (if q_inb (a3 + (1 : Int32)) L = true then
    (if q_inb (a3 + (2 : Int32)) L = true then
      (if q_inb (a3 + (3 : Int32)) L = true then
        (if (xs (a3 + (3 : Int32)).toNatClampNeg) = 0 then
          f_L_law_b1206 L xs kk18 M a1 a2 a3 a1 (xs (a3 + (1 : Int32)).toNatClampNeg) (xs (a3 + (2 : Int32)).toNatClampNeg) (0 : Int32)
        else
          f_L_law_b1206 L xs kk18 M a1 a2 a3 a1 (xs (a3 + (1 : Int32)).toNatClampNeg) (xs (a3 + (2 : Int32)).toNatClampNeg) (1 : Int32))
      else none)
    else none)
  else none)
def f_L_law_b1128 (L : Nat) (xs : Nat → Int32) (kk18 : Int32 → q_Mem → Option (Int32 × q_Mem)) (M : q_Mem) (a1 : Nat) (a2 : Nat) (a3 : Int32) : Option (Int32 × q_Mem) :=
  (if q_inb (a3 + (1 : Int32)) L = true then
    (if q_inb (a3 + (2 : Int32)) L = true then
      (if q_inb (a3 + (3 : Int32)) L = true then
        (if q_inb (a3 + (4 : Int32)) L = true then
          (f_X11_tells M a1 (xs (a3 + (1 : Int32)).toNatClampNeg) (xs (a3 + (2 : Int32)).toNatClampNeg) (xs (a3 + (3 : Int32)).toNatClampNeg) (xs (a3 + (4 : Int32)).toNatClampNeg)).bind fun r328 =>
          (if q_inb (a3 + (1 : Int32)) L = true then
            (if q_inb (a3 + (2 : Int32)) L = true then
              (if q_inb (a3 + (3 : Int32)) L = true then
                (if q_inb (a3 + (4 : Int32)) L = true then
                  (f_X12_tells r328.2 a2 (xs (a3 + (1 : Int32)).toNatClampNeg) (xs (a3 + (2 : Int32)).toNatClampNeg) (xs (a3 + (3 : Int32)).toNatClampNeg) (xs (a3 + (4 : Int32)).toNatClampNeg)).bind fun r334 =>
                  (if r328.1 = r334.1 then
                    f_L_law_b2161 L xs kk18 r334.2 a1 a2 a3
                  else
                    some ((0 : Int32), r334.2))
                else none)
              else none)
            else none)
          else none)
        else none)
      else none)
    else none)
  else none)
def f_L_law_b1105 (L : Nat) (xs : Nat → Int32) (kk18 : Int32 → q_Mem → Option (Int32 × q_Mem)) (M : q_Mem) (a1 : Nat) (a2 : Nat) (a3 : Int32) : Option (Int32 × q_Mem) :=
  (if q_inb (a3 + (1 : Int32)) L = true then
    (f_X11_fault M a1 (xs (a3 + (1 : Int32)).toNatClampNeg)).bind fun r318 =>
    (if q_inb (a3 + (1 : Int32)) L = true then
      (f_X12_fault r318.2 a2 (xs (a3 + (1 : Int32)).toNatClampNeg)).bind fun r321 =>
      (if r318.1 = r321.1 then
        f_L_law_b2161 L xs kk18 r321.2 a1 a2 a3
      else
        some ((0 : Int32), r321.2))
    else none)
  else none)
def f_L_law_b1082 (L : Nat) (xs : Nat → Int32) (kk18 : Int32 → q_Mem → Option (Int32 × q_Mem)) (M : q_Mem) (a1 : Nat) (a2 : Nat) (a3 : Int32) : Option (Int32 × q_Mem) :=
  (if q_inb (a3 + (1 : Int32)) L = true then
    (f_X11_erase M a1 (xs (a3 + (1 : Int32)).toNatClampNeg)).bind fun r311 =>
    (if q_inb (a3 + (1 : Int32)) L = true then
      (f_X12_erase r311.2 a2 (xs (a3 + (1 : Int32)).toNatClampNeg)).bind fun r314 =>
      (if r311.1 = r314.1 then
        f_L_law_b2161 L xs kk18 r314.2 a1 a2 a3
      else
        some ((0 : Int32), r314.2))
    else none)
  else none)
def f_L_law_b1049 (L : Nat) (xs : Nat → Int32) (kk18 : Int32 → q_Mem → Option (Int32 × q_Mem)) (M : q_Mem) (a1 : Nat) (a2 : Nat) (a3 : Int32) : Option (Int32 × q_Mem) :=
  (if q_inb (a3 + (1 : Int32)) L = true then
    (if q_inb (a3 + (2 : Int32)) L = true then
      (f_X11_write M a1 (xs (a3 + (1 : Int32)).toNatClampNeg) (xs (a3 + (2 : Int32)).toNatClampNeg)).bind fun r303 =>
      (if q_inb (a3 + (1 : Int32)) L = true then
        (if q_inb (a3 + (2 : Int32)) L = true then
          (f_X12_write r303.2 a2 (xs (a3 + (1 : Int32)).toNatClampNeg) (xs (a3 + (2 : Int32)).toNatClampNeg)).bind fun r307 =>
          (if r303.1 = r307.1 then
            f_L_law_b2161 L xs kk18 r307.2 a1 a2 a3
          else
            some ((0 : Int32), r307.2))
        else none)
      else none)
    else none)
  else none)
def f_L_law_b1005 (L : Nat) (xs : Nat → Int32) (kk18 : Int32 → q_Mem → Option (Int32 × q_Mem)) (M : q_Mem) (a1 : Nat) (a2 : Nat) (a3 : Int32) : Option (Int32 × q_Mem) :=
  (if q_inb (a3 + (1 : Int32)) L = true then
    (if q_inb (a3 + (2 : Int32)) L = true then
      (if q_inb (a3 + (3 : Int32)) L = true then
        (f_X11_lead M a1 (xs (a3 + (1 : Int32)).toNatClampNeg) (xs (a3 + (2 : Int32)).toNatClampNeg) (xs (a3 + (3 : Int32)).toNatClampNeg)).bind fun r293 =>
        (if q_inb (a3 + (1 : Int32)) L = true then
          (if q_inb (a3 + (2 : Int32)) L = true then
            (if q_inb (a3 + (3 : Int32)) L = true then
              (f_X12_lead r293.2 a2 (xs (a3 + (1 : Int32)).toNatClampNeg) (xs (a3 + (2 : Int32)).toNatClampNeg) (xs (a3 + (3 : Int32)).toNatClampNeg)).bind fun r298 =>
              (if r293.1 = r298.1 then
                f_L_law_b2161 L xs kk18 r298.2 a1 a2 a3
              else
                some ((0 : Int32), r298.2))
            else none)
          else none)
        else none)
      else none)
    else none)
  else none)
def f_L_law_b972 (L : Nat) (xs : Nat → Int32) (kk18 : Int32 → q_Mem → Option (Int32 × q_Mem)) (M : q_Mem) (a1 : Nat) (a2 : Nat) (a3 : Int32) : Option (Int32 × q_Mem) :=
  (if q_inb (a3 + (1 : Int32)) L = true then
    (if q_inb (a3 + (2 : Int32)) L = true then
      (f_X11_lot M a1 (xs (a3 + (1 : Int32)).toNatClampNeg) (xs (a3 + (2 : Int32)).toNatClampNeg)).bind fun v283 =>
      (if q_inb (a3 + (1 : Int32)) L = true then
        (if q_inb (a3 + (2 : Int32)) L = true then
          (f_X12_lot M a2 (xs (a3 + (1 : Int32)).toNatClampNeg) (xs (a3 + (2 : Int32)).toNatClampNeg)).bind fun v287 =>
          (if v283 = v287 then
            f_L_law_b2161 L xs kk18 M a1 a2 a3
          else
            some ((0 : Int32), M))
        else none)
      else none)
    else none)
  else none)
def f_L_law_b959 (L : Nat) (xs : Nat → Int32) (kk18 : Int32 → q_Mem → Option (Int32 × q_Mem)) (M : q_Mem) (a1 : Nat) (a2 : Nat) (a3 : Int32) : Option (Int32 × q_Mem) :=
  (f_X11_lean M a1).bind fun v276 =>
  (f_X12_lean M a2).bind fun v278 =>
  (if v276 = v278 then
    f_L_law_b2161 L xs kk18 M a1 a2 a3
  else
    some ((0 : Int32), M))
def f_L_law_b916 (L : Nat) (xs : Nat → Int32) (kk18 : Int32 → q_Mem → Option (Int32 × q_Mem)) (M : q_Mem) (a1 : Nat) (a2 : Nat) (a3 : Int32) : Option (Int32 × q_Mem) :=
  (if q_inb (a3 + (1 : Int32)) L = true then
    (if q_inb (a3 + (2 : Int32)) L = true then
      (if q_inb (a3 + (3 : Int32)) L = true then
        (f_X11_grade M a1 (xs (a3 + (1 : Int32)).toNatClampNeg) (xs (a3 + (2 : Int32)).toNatClampNeg) (xs (a3 + (3 : Int32)).toNatClampNeg)).bind fun r268 =>
        (if q_inb (a3 + (1 : Int32)) L = true then
          (if q_inb (a3 + (2 : Int32)) L = true then
            (if q_inb (a3 + (3 : Int32)) L = true then
              (f_X12_grade r268.2 a2 (xs (a3 + (1 : Int32)).toNatClampNeg) (xs (a3 + (2 : Int32)).toNatClampNeg) (xs (a3 + (3 : Int32)).toNatClampNeg)).bind fun r273 =>
              (if r268.1 = r273.1 then
                f_L_law_b2161 L xs kk18 r273.2 a1 a2 a3
              else
                some ((0 : Int32), r273.2))
            else none)
          else none)
        else none)
      else none)
    else none)
  else none)
def f_L_law_b873 (L : Nat) (xs : Nat → Int32) (kk18 : Int32 → q_Mem → Option (Int32 × q_Mem)) (M : q_Mem) (a1 : Nat) (a2 : Nat) (a3 : Int32) : Option (Int32 × q_Mem) :=
  (if q_inb (a3 + (1 : Int32)) L = true then
    (if q_inb (a3 + (2 : Int32)) L = true then
      (if q_inb (a3 + (3 : Int32)) L = true then
        (f_X11_sell M a1 (xs (a3 + (1 : Int32)).toNatClampNeg) (xs (a3 + (2 : Int32)).toNatClampNeg) (xs (a3 + (3 : Int32)).toNatClampNeg)).bind fun r257 =>
        (if q_inb (a3 + (1 : Int32)) L = true then
          (if q_inb (a3 + (2 : Int32)) L = true then
            (if q_inb (a3 + (3 : Int32)) L = true then
              (f_X12_sell r257.2 a2 (xs (a3 + (1 : Int32)).toNatClampNeg) (xs (a3 + (2 : Int32)).toNatClampNeg) (xs (a3 + (3 : Int32)).toNatClampNeg)).bind fun r262 =>
              (if r257.1 = r262.1 then
                f_L_law_b2161 L xs kk18 r262.2 a1 a2 a3
              else
                some ((0 : Int32), r262.2))
            else none)
          else none)
        else none)
      else none)
    else none)
  else none)
def f_L_law_b850 (L : Nat) (xs : Nat → Int32) (kk18 : Int32 → q_Mem → Option (Int32 × q_Mem)) (M : q_Mem) (a1 : Nat) (a2 : Nat) (a3 : Int32) : Option (Int32 × q_Mem) :=
  (if q_inb (a3 + (1 : Int32)) L = true then
    (f_X11_box M a1 (xs (a3 + (1 : Int32)).toNatClampNeg)).bind fun r248 =>
    (if q_inb (a3 + (1 : Int32)) L = true then
      (f_X12_box r248.2 a2 (xs (a3 + (1 : Int32)).toNatClampNeg)).bind fun r251 =>
      (if r248.1 = r251.1 then
        f_L_law_b2161 L xs kk18 r251.2 a1 a2 a3
      else
        some ((0 : Int32), r251.2))
    else none)
  else none)
def f_L_law_b817 (L : Nat) (xs : Nat → Int32) (kk18 : Int32 → q_Mem → Option (Int32 × q_Mem)) (M : q_Mem) (a1 : Nat) (a2 : Nat) (a3 : Int32) : Option (Int32 × q_Mem) :=
  (if q_inb (a3 + (1 : Int32)) L = true then
    (if q_inb (a3 + (2 : Int32)) L = true then
      (f_X11_out M a1 (xs (a3 + (1 : Int32)).toNatClampNeg) (xs (a3 + (2 : Int32)).toNatClampNeg)).bind fun r240 =>
      (if q_inb (a3 + (1 : Int32)) L = true then
        (if q_inb (a3 + (2 : Int32)) L = true then
          (f_X12_out r240.2 a2 (xs (a3 + (1 : Int32)).toNatClampNeg) (xs (a3 + (2 : Int32)).toNatClampNeg)).bind fun r244 =>
          (if r240.1 = r244.1 then
            f_L_law_b2161 L xs kk18 r244.2 a1 a2 a3
          else
            some ((0 : Int32), r244.2))
        else none)
      else none)
    else none)
  else none)
def f_L_law_b773 (L : Nat) (xs : Nat → Int32) (kk18 : Int32 → q_Mem → Option (Int32 × q_Mem)) (M : q_Mem) (a1 : Nat) (a2 : Nat) (a3 : Int32) : Option (Int32 × q_Mem) :=
  (if q_inb (a3 + (1 : Int32)) L = true then
    (if q_inb (a3 + (2 : Int32)) L = true then
      (if q_inb (a3 + (3 : Int32)) L = true then
        (f_X11_about M a1 (xs (a3 + (1 : Int32)).toNatClampNeg) (xs (a3 + (2 : Int32)).toNatClampNeg) (xs (a3 + (3 : Int32)).toNatClampNeg)).bind fun r230 =>
        (if q_inb (a3 + (1 : Int32)) L = true then
          (if q_inb (a3 + (2 : Int32)) L = true then
            (if q_inb (a3 + (3 : Int32)) L = true then
              (f_X12_about r230.2 a2 (xs (a3 + (1 : Int32)).toNatClampNeg) (xs (a3 + (2 : Int32)).toNatClampNeg) (xs (a3 + (3 : Int32)).toNatClampNeg)).bind fun r235 =>
              (if r230.1 = r235.1 then
                f_L_law_b2161 L xs kk18 r235.2 a1 a2 a3
              else
                some ((0 : Int32), r235.2))
            else none)
          else none)
        else none)
      else none)
    else none)
  else none)
def f_L_law_b740 (L : Nat) (xs : Nat → Int32) (kk18 : Int32 → q_Mem → Option (Int32 × q_Mem)) (M : q_Mem) (a1 : Nat) (a2 : Nat) (a3 : Int32) : Option (Int32 × q_Mem) :=
  (if q_inb (a3 + (1 : Int32)) L = true then
    (if q_inb (a3 + (2 : Int32)) L = true then
      (f_X11_fill M a1 (xs (a3 + (1 : Int32)).toNatClampNeg) (xs (a3 + (2 : Int32)).toNatClampNeg)).bind fun r220 =>
      (if q_inb (a3 + (1 : Int32)) L = true then
        (if q_inb (a3 + (2 : Int32)) L = true then
          (f_X12_fill r220.2 a2 (xs (a3 + (1 : Int32)).toNatClampNeg) (xs (a3 + (2 : Int32)).toNatClampNeg)).bind fun r224 =>
          (if r220.1 = r224.1 then
            f_L_law_b2161 L xs kk18 r224.2 a1 a2 a3
          else
            some ((0 : Int32), r224.2))
        else none)
      else none)
    else none)
  else none)
def f_L_law_b707 (L : Nat) (xs : Nat → Int32) (kk18 : Int32 → q_Mem → Option (Int32 × q_Mem)) (M : q_Mem) (a1 : Nat) (a2 : Nat) (a3 : Int32) : Option (Int32 × q_Mem) :=
  (if q_inb (a3 + (1 : Int32)) L = true then
    (if q_inb (a3 + (2 : Int32)) L = true then
      (f_X11_churn M a1 (xs (a3 + (1 : Int32)).toNatClampNeg) (xs (a3 + (2 : Int32)).toNatClampNeg)).bind fun r211 =>
      (if q_inb (a3 + (1 : Int32)) L = true then
        (if q_inb (a3 + (2 : Int32)) L = true then
          (f_X12_churn r211.2 a2 (xs (a3 + (1 : Int32)).toNatClampNeg) (xs (a3 + (2 : Int32)).toNatClampNeg)).bind fun r215 =>
          (if r211.1 = r215.1 then
            f_L_law_b2161 L xs kk18 r215.2 a1 a2 a3
          else
            some ((0 : Int32), r215.2))
        else none)
      else none)
    else none)
  else none)
def f_L_law_b663 (L : Nat) (xs : Nat → Int32) (kk18 : Int32 → q_Mem → Option (Int32 × q_Mem)) (M : q_Mem) (a1 : Nat) (a2 : Nat) (a3 : Int32) : Option (Int32 × q_Mem) :=
  (if q_inb (a3 + (1 : Int32)) L = true then
    (if q_inb (a3 + (2 : Int32)) L = true then
      (if q_inb (a3 + (3 : Int32)) L = true then
        (f_X11_fat M a1 (xs (a3 + (1 : Int32)).toNatClampNeg) (xs (a3 + (2 : Int32)).toNatClampNeg) (xs (a3 + (3 : Int32)).toNatClampNeg)).bind fun r201 =>
        (if q_inb (a3 + (1 : Int32)) L = true then
          (if q_inb (a3 + (2 : Int32)) L = true then
            (if q_inb (a3 + (3 : Int32)) L = true then
              (f_X12_fat r201.2 a2 (xs (a3 + (1 : Int32)).toNatClampNeg) (xs (a3 + (2 : Int32)).toNatClampNeg) (xs (a3 + (3 : Int32)).toNatClampNeg)).bind fun r206 =>
              (if r201.1 = r206.1 then
                f_L_law_b2161 L xs kk18 r206.2 a1 a2 a3
              else
                some ((0 : Int32), r206.2))
            else none)
          else none)
        else none)
      else none)
    else none)
  else none)
def f_L_law_b630 (L : Nat) (xs : Nat → Int32) (kk18 : Int32 → q_Mem → Option (Int32 × q_Mem)) (M : q_Mem) (a1 : Nat) (a2 : Nat) (a3 : Int32) : Option (Int32 × q_Mem) :=
  (if q_inb (a3 + (1 : Int32)) L = true then
    (if q_inb (a3 + (2 : Int32)) L = true then
      (f_X11_canRate M a1 (xs (a3 + (1 : Int32)).toNatClampNeg) (xs (a3 + (2 : Int32)).toNatClampNeg)).bind fun r191 =>
      (if q_inb (a3 + (1 : Int32)) L = true then
        (if q_inb (a3 + (2 : Int32)) L = true then
          (f_X12_canRate r191.2 a2 (xs (a3 + (1 : Int32)).toNatClampNeg) (xs (a3 + (2 : Int32)).toNatClampNeg)).bind fun r195 =>
          (if r191.1 = r195.1 then
            f_L_law_b2161 L xs kk18 r195.2 a1 a2 a3
          else
            some ((0 : Int32), r195.2))
        else none)
      else none)
    else none)
  else none)
def f_L_law_b597 (L : Nat) (xs : Nat → Int32) (kk18 : Int32 → q_Mem → Option (Int32 × q_Mem)) (M : q_Mem) (a1 : Nat) (a2 : Nat) (a3 : Int32) : Option (Int32 × q_Mem) :=
  (if q_inb (a3 + (1 : Int32)) L = true then
    (if q_inb (a3 + (2 : Int32)) L = true then
      (f_X11_rate M a1 (xs (a3 + (1 : Int32)).toNatClampNeg) (xs (a3 + (2 : Int32)).toNatClampNeg)).bind fun v182 =>
      (if q_inb (a3 + (1 : Int32)) L = true then
        (if q_inb (a3 + (2 : Int32)) L = true then
          (f_X12_rate M a2 (xs (a3 + (1 : Int32)).toNatClampNeg) (xs (a3 + (2 : Int32)).toNatClampNeg)).bind fun v186 =>
          (if v182 = v186 then
            f_L_law_b2161 L xs kk18 M a1 a2 a3
          else
            some ((0 : Int32), M))
        else none)
      else none)
    else none)
  else none)
def f_L_law_b574 (L : Nat) (xs : Nat → Int32) (kk18 : Int32 → q_Mem → Option (Int32 × q_Mem)) (M : q_Mem) (a1 : Nat) (a2 : Nat) (a3 : Int32) : Option (Int32 × q_Mem) :=
  (if q_inb (a3 + (1 : Int32)) L = true then
    (f_X11_period M a1 (xs (a3 + (1 : Int32)).toNatClampNeg)).bind fun r174 =>
    (if q_inb (a3 + (1 : Int32)) L = true then
      (f_X12_period r174.2 a2 (xs (a3 + (1 : Int32)).toNatClampNeg)).bind fun r177 =>
      (if r174.1 = r177.1 then
        f_L_law_b2161 L xs kk18 r177.2 a1 a2 a3
      else
        some ((0 : Int32), r177.2))
    else none)
  else none)
def f_L_law_b541 (L : Nat) (xs : Nat → Int32) (kk18 : Int32 → q_Mem → Option (Int32 × q_Mem)) (M : q_Mem) (a1 : Nat) (a2 : Nat) (a3 : Int32) : Option (Int32 × q_Mem) :=
  (if q_inb (a3 + (1 : Int32)) L = true then
    (if q_inb (a3 + (2 : Int32)) L = true then
      (f_X11_bias M a1 (xs (a3 + (1 : Int32)).toNatClampNeg) (xs (a3 + (2 : Int32)).toNatClampNeg)).bind fun r166 =>
      (if q_inb (a3 + (1 : Int32)) L = true then
        (if q_inb (a3 + (2 : Int32)) L = true then
          (f_X12_bias r166.2 a2 (xs (a3 + (1 : Int32)).toNatClampNeg) (xs (a3 + (2 : Int32)).toNatClampNeg)).bind fun r170 =>
          (if r166.1 = r170.1 then
            f_L_law_b2161 L xs kk18 r170.2 a1 a2 a3
          else
            some ((0 : Int32), r170.2))
        else none)
      else none)
    else none)
  else none)
def f_L_law_b498 (L : Nat) (xs : Nat → Int32) (kk18 : Int32 → q_Mem → Option (Int32 × q_Mem)) (M : q_Mem) (a1 : Nat) (a2 : Nat) (a3 : Int32) : Option (Int32 × q_Mem) :=
  (if q_inb (a3 + (1 : Int32)) L = true then
    (if q_inb (a3 + (2 : Int32)) L = true then
      (if q_inb (a3 + (3 : Int32)) L = true then
        (f_X11_right M a1 (xs (a3 + (1 : Int32)).toNatClampNeg) (xs (a3 + (2 : Int32)).toNatClampNeg) (xs (a3 + (3 : Int32)).toNatClampNeg)).bind fun r156 =>
        (if q_inb (a3 + (1 : Int32)) L = true then
          (if q_inb (a3 + (2 : Int32)) L = true then
            (if q_inb (a3 + (3 : Int32)) L = true then
              (f_X12_right r156.2 a2 (xs (a3 + (1 : Int32)).toNatClampNeg) (xs (a3 + (2 : Int32)).toNatClampNeg) (xs (a3 + (3 : Int32)).toNatClampNeg)).bind fun r161 =>
              (if r156.1 = r161.1 then
                f_L_law_b2161 L xs kk18 r161.2 a1 a2 a3
              else
                some ((0 : Int32), r161.2))
            else none)
          else none)
        else none)
      else none)
    else none)
  else none)
def f_L_law_b435 (L : Nat) (xs : Nat → Int32) (kk18 : Int32 → q_Mem → Option (Int32 × q_Mem)) (M : q_Mem) (a1 : Nat) (a2 : Nat) (a3 : Int32) : Option (Int32 × q_Mem) :=
  (if q_inb (a3 + (1 : Int32)) L = true then
    (if q_inb (a3 + (2 : Int32)) L = true then
      (if q_inb (a3 + (3 : Int32)) L = true then
        (if q_inb (a3 + (4 : Int32)) L = true then
          (if q_inb (a3 + (5 : Int32)) L = true then
            (f_X11_test M a1 (xs (a3 + (1 : Int32)).toNatClampNeg) (xs (a3 + (2 : Int32)).toNatClampNeg) (xs (a3 + (3 : Int32)).toNatClampNeg) (xs (a3 + (4 : Int32)).toNatClampNeg) (xs (a3 + (5 : Int32)).toNatClampNeg)).bind fun r143 =>
            (if q_inb (a3 + (1 : Int32)) L = true then
              (if q_inb (a3 + (2 : Int32)) L = true then
                (if q_inb (a3 + (3 : Int32)) L = true then
                  (if q_inb (a3 + (4 : Int32)) L = true then
                    (if q_inb (a3 + (5 : Int32)) L = true then
                      (f_X12_test r143.2 a2 (xs (a3 + (1 : Int32)).toNatClampNeg) (xs (a3 + (2 : Int32)).toNatClampNeg) (xs (a3 + (3 : Int32)).toNatClampNeg) (xs (a3 + (4 : Int32)).toNatClampNeg) (xs (a3 + (5 : Int32)).toNatClampNeg)).bind fun r150 =>
                      (if r143.1 = r150.1 then
                        f_L_law_b2161 L xs kk18 r150.2 a1 a2 a3
                      else
                        some ((0 : Int32), r150.2))
                    else none)
                  else none)
                else none)
              else none)
            else none)
          else none)
        else none)
      else none)
    else none)
  else none)
def f_L_law_b392 (L : Nat) (xs : Nat → Int32) (kk18 : Int32 → q_Mem → Option (Int32 × q_Mem)) (M : q_Mem) (a1 : Nat) (a2 : Nat) (a3 : Int32) : Option (Int32 × q_Mem) :=
  (if q_inb (a3 + (1 : Int32)) L = true then
    (if q_inb (a3 + (2 : Int32)) L = true then
      (if q_inb (a3 + (3 : Int32)) L = true then
        (f_X11_can M a1 (xs (a3 + (1 : Int32)).toNatClampNeg) (xs (a3 + (2 : Int32)).toNatClampNeg) (xs (a3 + (3 : Int32)).toNatClampNeg)).bind fun r130 =>
        (if q_inb (a3 + (1 : Int32)) L = true then
          (if q_inb (a3 + (2 : Int32)) L = true then
            (if q_inb (a3 + (3 : Int32)) L = true then
              (f_X12_can r130.2 a2 (xs (a3 + (1 : Int32)).toNatClampNeg) (xs (a3 + (2 : Int32)).toNatClampNeg) (xs (a3 + (3 : Int32)).toNatClampNeg)).bind fun r135 =>
              (if r130.1 = r135.1 then
                f_L_law_b2161 L xs kk18 r135.2 a1 a2 a3
              else
                some ((0 : Int32), r135.2))
            else none)
          else none)
        else none)
      else none)
    else none)
  else none)
def f_L_law_b384 (L : Nat) (xs : Nat → Int32) (kk18 : Int32 → q_Mem → Option (Int32 × q_Mem)) (M : q_Mem) (a1 : Nat) (a2 : Nat) (a3 : Int32) (s0 : Int32) (s1 : Nat) (s2 : Int32) (s3 : Int32) (s4 : Int32) : Option (Int32 × q_Mem) :=
  (f_X12_change M s1 s2 s3 s4).bind fun r611 =>
  (if s0 = r611.1 then
    f_L_law_b2161 L xs kk18 r611.2 a1 a2 a3
  else
    some ((0 : Int32), r611.2))
def f_L_law_b357 (L : Nat) (xs : Nat → Int32) (kk18 : Int32 → q_Mem → Option (Int32 × q_Mem)) (M : q_Mem) (a1 : Nat) (a2 : Nat) (a3 : Int32) (s0 : Nat) (s1 : Int32) (s2 : Int32) (s3 : Int32) : Option (Int32 × q_Mem) :=
  (f_X11_change M s0 s1 s2 s3).bind fun r591 =>
  (if q_inb (a3 + (1 : Int32)) L = true then
    (if q_inb (a3 + (2 : Int32)) L = true then
      (if q_inb (a3 + (3 : Int32)) L = true then
        (if (xs (a3 + (3 : Int32)).toNatClampNeg) = 0 then
          f_L_law_b384 L xs kk18 r591.2 a1 a2 a3 r591.1 a2 (xs (a3 + (1 : Int32)).toNatClampNeg) (xs (a3 + (2 : Int32)).toNatClampNeg) (0 : Int32)
        else
          f_L_law_b384 L xs kk18 r591.2 a1 a2 a3 r591.1 a2 (xs (a3 + (1 : Int32)).toNatClampNeg) (xs (a3 + (2 : Int32)).toNatClampNeg) (1 : Int32))
      else none)
    else none)
  else none)
def f_L_law_b333 (L : Nat) (xs : Nat → Int32) (kk18 : Int32 → q_Mem → Option (Int32 × q_Mem)) (M : q_Mem) (a1 : Nat) (a2 : Nat) (a3 : Int32) : Option (Int32 × q_Mem) :=
  (if q_inb (a3 + (1 : Int32)) L = true then
    (if q_inb (a3 + (2 : Int32)) L = true then
      (if q_inb (a3 + (3 : Int32)) L = true then
        (if (xs (a3 + (3 : Int32)).toNatClampNeg) = 0 then
          f_L_law_b357 L xs kk18 M a1 a2 a3 a1 (xs (a3 + (1 : Int32)).toNatClampNeg) (xs (a3 + (2 : Int32)).toNatClampNeg) (0 : Int32)
        else
          f_L_law_b357 L xs kk18 M a1 a2 a3 a1 (xs (a3 + (1 : Int32)).toNatClampNeg) (xs (a3 + (2 : Int32)).toNatClampNeg) (1 : Int32))
      else none)
    else none)
  else none)
def f_L_law_b325 (L : Nat) (xs : Nat → Int32) (kk18 : Int32 → q_Mem → Option (Int32 × q_Mem)) (M : q_Mem) (a1 : Nat) (a2 : Nat) (a3 : Int32) (s0 : Int32) (s1 : Nat) (s2 : Int32) (s3 : Int32) (s4 : Int32) (s5 : Int32) : Option (Int32 × q_Mem) :=
  (f_X12_farm M s1 s2 s3 s4 s5).bind fun r608 =>
  (if s0 = r608.1 then
    f_L_law_b2161 L xs kk18 r608.2 a1 a2 a3
  else
    some ((0 : Int32), r608.2))
def f_L_law_b293 (L : Nat) (xs : Nat → Int32) (kk18 : Int32 → q_Mem → Option (Int32 × q_Mem)) (M : q_Mem) (a1 : Nat) (a2 : Nat) (a3 : Int32) (s0 : Nat) (s1 : Int32) (s2 : Int32) (s3 : Int32) (s4 : Int32) : Option (Int32 × q_Mem) :=
  (f_X11_farm M s0 s1 s2 s3 s4).bind fun r584 =>
  (if q_inb (a3 + (1 : Int32)) L = true then
    (if q_inb (a3 + (2 : Int32)) L = true then
      (if q_inb (a3 + (3 : Int32)) L = true then
        (if q_inb (a3 + (4 : Int32)) L = true then
          (if (xs (a3 + (4 : Int32)).toNatClampNeg) = 0 then
            f_L_law_b325 L xs kk18 r584.2 a1 a2 a3 r584.1 a2 (xs (a3 + (1 : Int32)).toNatClampNeg) (xs (a3 + (2 : Int32)).toNatClampNeg) (xs (a3 + (3 : Int32)).toNatClampNeg) (0 : Int32)
          else
            f_L_law_b325 L xs kk18 r584.2 a1 a2 a3 r584.1 a2 (xs (a3 + (1 : Int32)).toNatClampNeg) (xs (a3 + (2 : Int32)).toNatClampNeg) (xs (a3 + (3 : Int32)).toNatClampNeg) (1 : Int32))
        else none)
      else none)
    else none)
  else none)
def f_L_law_b264 (L : Nat) (xs : Nat → Int32) (kk18 : Int32 → q_Mem → Option (Int32 × q_Mem)) (M : q_Mem) (a1 : Nat) (a2 : Nat) (a3 : Int32) : Option (Int32 × q_Mem) :=
  (if q_inb (a3 + (1 : Int32)) L = true then
    (if q_inb (a3 + (2 : Int32)) L = true then
      (if q_inb (a3 + (3 : Int32)) L = true then
        (if q_inb (a3 + (4 : Int32)) L = true then
          (if (xs (a3 + (4 : Int32)).toNatClampNeg) = 0 then
            f_L_law_b293 L xs kk18 M a1 a2 a3 a1 (xs (a3 + (1 : Int32)).toNatClampNeg) (xs (a3 + (2 : Int32)).toNatClampNeg) (xs (a3 + (3 : Int32)).toNatClampNeg) (0 : Int32)
          else
            f_L_law_b293 L xs kk18 M a1 a2 a3 a1 (xs (a3 + (1 : Int32)).toNatClampNeg) (xs (a3 + (2 : Int32)).toNatClampNeg) (xs (a3 + (3 : Int32)).toNatClampNeg) (1 : Int32))
        else none)
      else none)
    else none)
  else none)
def f_L_law_b18 (L : Nat) (xs : Nat → Int32) (a1 : Nat) (a2 : Nat) : Nat → Int32 → q_Mem → Option (Int32 × q_Mem)
  | 0, _, _ => none
  | n + 1, a3, M =>
    (if ((Int32.ofNat L) - (6 : Int32)) < a3 then
      some ((1 : Int32), M)
    else
      (if q_inb a3 L = true then
        (if ((xs a3.toNatClampNeg) &&& (63 : Int32)) < 0 then
          f_L_law_b2161 L xs (f_L_law_b18 L xs a1 a2 n) M a1 a2 a3
        else
         (if ((xs a3.toNatClampNeg) &&& (63 : Int32)) = 0 then
          f_L_law_b264 L xs (f_L_law_b18 L xs a1 a2 n) M a1 a2 a3
         else
         (if ((xs a3.toNatClampNeg) &&& (63 : Int32)) = 1 then
          f_L_law_b333 L xs (f_L_law_b18 L xs a1 a2 n) M a1 a2 a3
         else
         (if ((xs a3.toNatClampNeg) &&& (63 : Int32)) = 2 then
          f_L_law_b392 L xs (f_L_law_b18 L xs a1 a2 n) M a1 a2 a3
         else
         (if ((xs a3.toNatClampNeg) &&& (63 : Int32)) = 3 then
          f_L_law_b435 L xs (f_L_law_b18 L xs a1 a2 n) M a1 a2 a3
         else
         (if ((xs a3.toNatClampNeg) &&& (63 : Int32)) = 4 then
          f_L_law_b498 L xs (f_L_law_b18 L xs a1 a2 n) M a1 a2 a3
         else
         (if ((xs a3.toNatClampNeg) &&& (63 : Int32)) = 5 then
          f_L_law_b541 L xs (f_L_law_b18 L xs a1 a2 n) M a1 a2 a3
         else
         (if ((xs a3.toNatClampNeg) &&& (63 : Int32)) = 6 then
          f_L_law_b574 L xs (f_L_law_b18 L xs a1 a2 n) M a1 a2 a3
         else
         (if ((xs a3.toNatClampNeg) &&& (63 : Int32)) = 7 then
          f_L_law_b597 L xs (f_L_law_b18 L xs a1 a2 n) M a1 a2 a3
         else
         (if ((xs a3.toNatClampNeg) &&& (63 : Int32)) = 8 then
          f_L_law_b630 L xs (f_L_law_b18 L xs a1 a2 n) M a1 a2 a3
         else
         (if ((xs a3.toNatClampNeg) &&& (63 : Int32)) = 9 then
          f_L_law_b663 L xs (f_L_law_b18 L xs a1 a2 n) M a1 a2 a3
         else
         (if ((xs a3.toNatClampNeg) &&& (63 : Int32)) = 10 then
          f_L_law_b707 L xs (f_L_law_b18 L xs a1 a2 n) M a1 a2 a3
         else
         (if ((xs a3.toNatClampNeg) &&& (63 : Int32)) = 11 then
          f_L_law_b740 L xs (f_L_law_b18 L xs a1 a2 n) M a1 a2 a3
         else
         (if ((xs a3.toNatClampNeg) &&& (63 : Int32)) = 12 then
          f_L_law_b773 L xs (f_L_law_b18 L xs a1 a2 n) M a1 a2 a3
         else
         (if ((xs a3.toNatClampNeg) &&& (63 : Int32)) = 13 then
          f_L_law_b817 L xs (f_L_law_b18 L xs a1 a2 n) M a1 a2 a3
         else
         (if ((xs a3.toNatClampNeg) &&& (63 : Int32)) = 14 then
          f_L_law_b850 L xs (f_L_law_b18 L xs a1 a2 n) M a1 a2 a3
         else
         (if ((xs a3.toNatClampNeg) &&& (63 : Int32)) = 15 then
          f_L_law_b873 L xs (f_L_law_b18 L xs a1 a2 n) M a1 a2 a3
         else
         (if ((xs a3.toNatClampNeg) &&& (63 : Int32)) = 16 then
          f_L_law_b916 L xs (f_L_law_b18 L xs a1 a2 n) M a1 a2 a3
         else
         (if ((xs a3.toNatClampNeg) &&& (63 : Int32)) = 17 then
          f_L_law_b959 L xs (f_L_law_b18 L xs a1 a2 n) M a1 a2 a3
         else
         (if ((xs a3.toNatClampNeg) &&& (63 : Int32)) = 18 then
          f_L_law_b972 L xs (f_L_law_b18 L xs a1 a2 n) M a1 a2 a3
         else
         (if ((xs a3.toNatClampNeg) &&& (63 : Int32)) = 19 then
          f_L_law_b1005 L xs (f_L_law_b18 L xs a1 a2 n) M a1 a2 a3
         else
         (if ((xs a3.toNatClampNeg) &&& (63 : Int32)) = 20 then
          f_L_law_b1049 L xs (f_L_law_b18 L xs a1 a2 n) M a1 a2 a3
         else
         (if ((xs a3.toNatClampNeg) &&& (63 : Int32)) = 21 then
          f_L_law_b1082 L xs (f_L_law_b18 L xs a1 a2 n) M a1 a2 a3
         else
         (if ((xs a3.toNatClampNeg) &&& (63 : Int32)) = 22 then
          f_L_law_b1105 L xs (f_L_law_b18 L xs a1 a2 n) M a1 a2 a3
         else
         (if ((xs a3.toNatClampNeg) &&& (63 : Int32)) = 23 then
          f_L_law_b1128 L xs (f_L_law_b18 L xs a1 a2 n) M a1 a2 a3
         else
         (if ((xs a3.toNatClampNeg) &&& (63 : Int32)) = 24 then
          f_L_law_b1182 L xs (f_L_law_b18 L xs a1 a2 n) M a1 a2 a3
         else
         (if ((xs a3.toNatClampNeg) &&& (63 : Int32)) = 25 then
          f_L_law_b1241 L xs (f_L_law_b18 L xs a1 a2 n) M a1 a2 a3
         else
         (if ((xs a3.toNatClampNeg) &&& (63 : Int32)) = 26 then
          f_L_law_b1284 L xs (f_L_law_b18 L xs a1 a2 n) M a1 a2 a3
         else
         (if ((xs a3.toNatClampNeg) &&& (63 : Int32)) = 27 then
          f_L_law_b1333 L xs (f_L_law_b18 L xs a1 a2 n) M a1 a2 a3
         else
         (if ((xs a3.toNatClampNeg) &&& (63 : Int32)) = 28 then
          f_L_law_b1366 L xs (f_L_law_b18 L xs a1 a2 n) M a1 a2 a3
         else
         (if ((xs a3.toNatClampNeg) &&& (63 : Int32)) = 29 then
          f_L_law_b1389 L xs (f_L_law_b18 L xs a1 a2 n) M a1 a2 a3
         else
         (if ((xs a3.toNatClampNeg) &&& (63 : Int32)) = 30 then
          f_L_law_b1423 L xs (f_L_law_b18 L xs a1 a2 n) M a1 a2 a3
         else
         (if ((xs a3.toNatClampNeg) &&& (63 : Int32)) = 31 then
          f_L_law_b1467 L xs (f_L_law_b18 L xs a1 a2 n) M a1 a2 a3
         else
         (if ((xs a3.toNatClampNeg) &&& (63 : Int32)) = 32 then
          f_L_law_b1511 L xs (f_L_law_b18 L xs a1 a2 n) M a1 a2 a3
         else
         (if ((xs a3.toNatClampNeg) &&& (63 : Int32)) = 33 then
          f_L_law_b1554 L xs (f_L_law_b18 L xs a1 a2 n) M a1 a2 a3
         else
         (if ((xs a3.toNatClampNeg) &&& (63 : Int32)) = 34 then
          f_L_law_b1577 L xs (f_L_law_b18 L xs a1 a2 n) M a1 a2 a3
         else
         (if ((xs a3.toNatClampNeg) &&& (63 : Int32)) = 35 then
          f_L_law_b1600 L xs (f_L_law_b18 L xs a1 a2 n) M a1 a2 a3
         else
         (if ((xs a3.toNatClampNeg) &&& (63 : Int32)) = 36 then
          f_L_law_b1633 L xs (f_L_law_b18 L xs a1 a2 n) M a1 a2 a3
         else
         (if ((xs a3.toNatClampNeg) &&& (63 : Int32)) = 37 then
          f_L_law_b1676 L xs (f_L_law_b18 L xs a1 a2 n) M a1 a2 a3
         else
         (if ((xs a3.toNatClampNeg) &&& (63 : Int32)) = 38 then
          f_L_law_b1689 L xs (f_L_law_b18 L xs a1 a2 n) M a1 a2 a3
         else
         (if ((xs a3.toNatClampNeg) &&& (63 : Int32)) = 39 then
          f_L_law_b1713 L xs (f_L_law_b18 L xs a1 a2 n) M a1 a2 a3
         else
         (if ((xs a3.toNatClampNeg) &&& (63 : Int32)) = 40 then
          f_L_law_b1746 L xs (f_L_law_b18 L xs a1 a2 n) M a1 a2 a3
         else
         (if ((xs a3.toNatClampNeg) &&& (63 : Int32)) = 41 then
          f_L_law_b1779 L xs (f_L_law_b18 L xs a1 a2 n) M a1 a2 a3
         else
         (if ((xs a3.toNatClampNeg) &&& (63 : Int32)) = 42 then
          f_L_law_b1822 L xs (f_L_law_b18 L xs a1 a2 n) M a1 a2 a3
         else
         (if ((xs a3.toNatClampNeg) &&& (63 : Int32)) = 43 then
          f_L_law_b1855 L xs (f_L_law_b18 L xs a1 a2 n) M a1 a2 a3
         else
         (if ((xs a3.toNatClampNeg) &&& (63 : Int32)) = 44 then
          f_L_law_b1898 L xs (f_L_law_b18 L xs a1 a2 n) M a1 a2 a3
         else
         (if ((xs a3.toNatClampNeg) &&& (63 : Int32)) = 45 then
          f_L_law_b1921 L xs (f_L_law_b18 L xs a1 a2 n) M a1 a2 a3
         else
         (if ((xs a3.toNatClampNeg) &&& (63 : Int32)) = 46 then
          f_L_law_b1945 L xs (f_L_law_b18 L xs a1 a2 n) M a1 a2 a3
         else
         (if ((xs a3.toNatClampNeg) &&& (63 : Int32)) = 47 then
          f_L_law_b1978 L xs (f_L_law_b18 L xs a1 a2 n) M a1 a2 a3
         else
         (if ((xs a3.toNatClampNeg) &&& (63 : Int32)) = 48 then
          f_L_law_b2021 L xs (f_L_law_b18 L xs a1 a2 n) M a1 a2 a3
         else
         (if ((xs a3.toNatClampNeg) &&& (63 : Int32)) = 49 then
          f_L_law_b2055 L xs (f_L_law_b18 L xs a1 a2 n) M a1 a2 a3
         else
         (if ((xs a3.toNatClampNeg) &&& (63 : Int32)) = 50 then
          f_L_law_b2078 L xs (f_L_law_b18 L xs a1 a2 n) M a1 a2 a3
         else
         (if ((xs a3.toNatClampNeg) &&& (63 : Int32)) = 51 then
          f_L_law_b2101 L xs (f_L_law_b18 L xs a1 a2 n) M a1 a2 a3
         else
         (if ((xs a3.toNatClampNeg) &&& (63 : Int32)) = 52 then
          f_L_law_b2124 L xs (f_L_law_b18 L xs a1 a2 n) M a1 a2 a3
         else
         (if ((xs a3.toNatClampNeg) &&& (63 : Int32)) = 53 then
          f_L_law_b2147 L xs (f_L_law_b18 L xs a1 a2 n) M a1 a2 a3
         else
         f_L_law_b2161 L xs (f_L_law_b18 L xs a1 a2 n) M a1 a2 a3)))))))))))))))))))))))))))))))))))))))))))))))))))))))
      else none))
def f_L_law (L : Nat) (xs : Nat → Int32) (M : q_Mem)  : Option (Int32 × q_Mem) :=
  (f_X11_init (q_nw M 10 0) M.1).bind fun M2 =>
  (f_X12_init (q_nw M2 11 0) M2.1).bind fun M4 =>
  f_L_law_b18 L xs M.1 M2.1 q_fuel (0 : Int32) M4
set_option maxRecDepth 20000 in
theorem v_L_law_b2161 {L : Nat} {xs : Nat → Int32} {kk18 : Int32 → q_Mem → Option (Int32 × q_Mem)} {M : q_Mem} {a1 : Nat} {a2 : Nat} {a3 : Int32}  (hk18 : ∀ (a3 : Int32) (M : q_Mem), q_V Y_L_law (some (L, xs)) (fun x : Int32 × q_Mem => (some (.int x.1), x.2)) 131 39214 18 [(0, .float 0), (1, .ref a1), (2, .ref a2), (3, .int a3)] [] M (kk18 a3 M)): q_V Y_L_law (some (L, xs)) (fun x : Int32 × q_Mem => (some (.int x.1), x.2)) 131 39214 2161 [(0, .float 0), (1, .ref a1), (2, .ref a2), (3, .int a3)] [] M (f_L_law_b2161 L xs kk18 M a1 a2 a3 ) := by
  unfold f_L_law_b2161
  refine q_iinc 3 (y := (a3 + (6 : Int32))) (ls' := [(3, .int (a3 + (6 : Int32))), (0, .float 0), (1, .ref a1), (2, .ref a2)]) dL_law_2161 rfl rfl (by decide) rfl ?_
  refine q_goto (tgt := 18) dL_law_2164 (by decide) ?_
  refine q_sub (ls' := [(0, .float 0), (1, .ref a1), (2, .ref a2), (3, .int (a3 + (6 : Int32)))]) [1, 2, 3, 0] rfl ?_
  exact hk18 _ _
set_option maxRecDepth 20000 in
theorem v_L_law_b2147 {L : Nat} {xs : Nat → Int32} {kk18 : Int32 → q_Mem → Option (Int32 × q_Mem)} {M : q_Mem} {a1 : Nat} {a2 : Nat} {a3 : Int32}  (hk18 : ∀ (a3 : Int32) (M : q_Mem), q_V Y_L_law (some (L, xs)) (fun x : Int32 × q_Mem => (some (.int x.1), x.2)) 131 39214 18 [(0, .float 0), (1, .ref a1), (2, .ref a2), (3, .int a3)] [] M (kk18 a3 M)): q_V Y_L_law (some (L, xs)) (fun x : Int32 × q_Mem => (some (.int x.1), x.2)) 131 39214 2147 [(0, .float 0), (1, .ref a1), (2, .ref a2), (3, .int a3)] [] M (f_L_law_b2147 L xs kk18 M a1 a2 a3 ) := by
  unfold f_L_law_b2147
  refine q_aload_n 1 dL_law_2147 rfl ?_
  refine q_cVJ (Y2 := Y_X11_digest) (As := []) (b := a1) (st := []) cl_X11 mv_X11_digest qw_1094 dL_law_2148 ⟨Nat.le_of_ble_eq_true rfl, Nat.le_of_ble_eq_true rfl⟩ rfl (fun _ _ => rfl) (Nat.le_of_ble_eq_true rfl) ⟨Nat.le_of_ble_eq_true rfl, Nat.le_of_ble_eq_true rfl⟩ (fun v579 h578 => q_ob_is h578) (fun v579 h578 => m_X11_digest h578) (fun v579 h578 => ?_)
  refine q_aload_n 2 dL_law_2151 rfl ?_
  refine q_cVJ (Y2 := Y_X12_digest) (As := []) (b := a2) (st := [.long v579]) cl_X12 mv_X12_digest qw_1683 dL_law_2152 ⟨Nat.le_of_ble_eq_true rfl, Nat.le_of_ble_eq_true rfl⟩ rfl (fun _ _ => rfl) (Nat.le_of_ble_eq_true rfl) ⟨Nat.le_of_ble_eq_true rfl, Nat.le_of_ble_eq_true rfl⟩ (fun v581 h580 => q_ob_is h580) (fun v581 h580 => m_X12_digest h580) (fun v581 h580 => ?_)
  refine q_lcmp_eq (tgt := 2161) dL_law_2155 dL_law_2156 (by decide) (fun c582 => ?_) (fun c582 => ?_)
  · exact v_L_law_b2161 (hk18)
  · refine q_iconst (x := (0 : Int32)) dL_law_2159 rfl ?_
    exact q_zretL dL_law_2160 rfl (Or.inl rfl) rfl (Nat.le_of_ble_eq_true rfl) rfl
set_option maxRecDepth 20000 in
theorem v_L_law_b2124 {L : Nat} {xs : Nat → Int32} {kk18 : Int32 → q_Mem → Option (Int32 × q_Mem)} {M : q_Mem} {a1 : Nat} {a2 : Nat} {a3 : Int32}  (hk18 : ∀ (a3 : Int32) (M : q_Mem), q_V Y_L_law (some (L, xs)) (fun x : Int32 × q_Mem => (some (.int x.1), x.2)) 131 39214 18 [(0, .float 0), (1, .ref a1), (2, .ref a2), (3, .int a3)] [] M (kk18 a3 M)): q_V Y_L_law (some (L, xs)) (fun x : Int32 × q_Mem => (some (.int x.1), x.2)) 131 39214 2124 [(0, .float 0), (1, .ref a1), (2, .ref a2), (3, .int a3)] [] M (f_L_law_b2124 L xs kk18 M a1 a2 a3 ) := by
  unfold f_L_law_b2124
  refine q_aload_n 1 dL_law_2124 rfl ?_
  refine q_aload_s 0 dL_law_2125 rfl ?_
  refine q_iload_n 3 dL_law_2126 rfl ?_
  refine q_iconst (x := (1 : Int32)) dL_law_2127 rfl ?_
  refine q_iadd dL_law_2128 ?_
  refine q_sld rfl dL_law_2129 (fun h571 => ?_)
  refine q_cVI (Y2 := Y_X11_count) (As := [.int (xs (a3 + (1 : Int32)).toNatClampNeg)]) (b := a1) (st := []) cl_X11 mv_X11_count qw_1090 dL_law_2130 ⟨Nat.le_of_ble_eq_true rfl, Nat.le_of_ble_eq_true rfl⟩ rfl (fun _ _ => rfl) (Nat.le_of_ble_eq_true rfl) ⟨Nat.le_of_ble_eq_true rfl, Nat.le_of_ble_eq_true rfl⟩ (fun v573 h572 => q_ob_is h572) (fun v573 h572 => m_X11_count h572) (fun v573 h572 => ?_)
  refine q_aload_n 2 dL_law_2133 rfl ?_
  refine q_aload_s 0 dL_law_2134 rfl ?_
  refine q_iload_n 3 dL_law_2135 rfl ?_
  refine q_iconst (x := (1 : Int32)) dL_law_2136 rfl ?_
  refine q_iadd dL_law_2137 ?_
  refine q_sld rfl dL_law_2138 (fun h574 => ?_)
  refine q_cVI (Y2 := Y_X12_count) (As := [.int (xs (a3 + (1 : Int32)).toNatClampNeg)]) (b := a2) (st := [.int v573]) cl_X12 mv_X12_count qw_1679 dL_law_2139 ⟨Nat.le_of_ble_eq_true rfl, Nat.le_of_ble_eq_true rfl⟩ rfl (fun _ _ => rfl) (Nat.le_of_ble_eq_true rfl) ⟨Nat.le_of_ble_eq_true rfl, Nat.le_of_ble_eq_true rfl⟩ (fun v576 h575 => q_ob_is h575) (fun v576 h575 => m_X12_count h575) (fun v576 h575 => ?_)
  refine q_icmp_eq (tgt := 2161) dL_law_2142 (by decide) (fun c577 => ?_) (fun c577 => ?_)
  · exact v_L_law_b2161 (hk18)
  · refine q_iconst (x := (0 : Int32)) dL_law_2145 rfl ?_
    exact q_zretL dL_law_2146 rfl (Or.inl rfl) rfl (Nat.le_of_ble_eq_true rfl) rfl
set_option maxRecDepth 20000 in
theorem v_L_law_b2101 {L : Nat} {xs : Nat → Int32} {kk18 : Int32 → q_Mem → Option (Int32 × q_Mem)} {M : q_Mem} {a1 : Nat} {a2 : Nat} {a3 : Int32}  (hk18 : ∀ (a3 : Int32) (M : q_Mem), q_V Y_L_law (some (L, xs)) (fun x : Int32 × q_Mem => (some (.int x.1), x.2)) 131 39214 18 [(0, .float 0), (1, .ref a1), (2, .ref a2), (3, .int a3)] [] M (kk18 a3 M)): q_V Y_L_law (some (L, xs)) (fun x : Int32 × q_Mem => (some (.int x.1), x.2)) 131 39214 2101 [(0, .float 0), (1, .ref a1), (2, .ref a2), (3, .int a3)] [] M (f_L_law_b2101 L xs kk18 M a1 a2 a3 ) := by
  unfold f_L_law_b2101
  refine q_aload_n 1 dL_law_2101 rfl ?_
  refine q_aload_s 0 dL_law_2102 rfl ?_
  refine q_iload_n 3 dL_law_2103 rfl ?_
  refine q_iconst (x := (1 : Int32)) dL_law_2104 rfl ?_
  refine q_iadd dL_law_2105 ?_
  refine q_sld rfl dL_law_2106 (fun h564 => ?_)
  refine q_cVMI (Y2 := Y_X11_from) (As := [.int (xs (a3 + (1 : Int32)).toNatClampNeg)]) (b := a1) (st := []) cl_X11 mv_X11_from qw_1086 dL_law_2107 ⟨Nat.le_of_ble_eq_true rfl, Nat.le_of_ble_eq_true rfl⟩ rfl (fun _ _ => rfl) (Nat.le_of_ble_eq_true rfl) ⟨Nat.le_of_ble_eq_true rfl, Nat.le_of_ble_eq_true rfl⟩ (fun r566 h565 => q_ob_is h565) (fun r566 h565 => m_X11_from h565) (fun r566 h565 => ?_)
  refine q_aload_n 2 dL_law_2110 rfl ?_
  refine q_aload_s 0 dL_law_2111 rfl ?_
  refine q_iload_n 3 dL_law_2112 rfl ?_
  refine q_iconst (x := (1 : Int32)) dL_law_2113 rfl ?_
  refine q_iadd dL_law_2114 ?_
  refine q_sld rfl dL_law_2115 (fun h567 => ?_)
  refine q_cVMI (Y2 := Y_X12_from) (As := [.int (xs (a3 + (1 : Int32)).toNatClampNeg)]) (b := a2) (st := [.int r566.1]) cl_X12 mv_X12_from qw_1675 dL_law_2116 ⟨Nat.le_of_ble_eq_true rfl, Nat.le_of_ble_eq_true rfl⟩ rfl (fun _ _ => rfl) (Nat.le_of_ble_eq_true rfl) ⟨Nat.le_of_ble_eq_true rfl, Nat.le_of_ble_eq_true rfl⟩ (fun r569 h568 => q_ob_is h568) (fun r569 h568 => m_X12_from h568) (fun r569 h568 => ?_)
  refine q_icmp_eq (tgt := 2161) dL_law_2119 (by decide) (fun c570 => ?_) (fun c570 => ?_)
  · exact v_L_law_b2161 (hk18)
  · refine q_iconst (x := (0 : Int32)) dL_law_2122 rfl ?_
    exact q_zretL dL_law_2123 rfl (Or.inl rfl) rfl (Nat.le_of_ble_eq_true rfl) rfl
set_option maxRecDepth 20000 in
theorem v_L_law_b2078 {L : Nat} {xs : Nat → Int32} {kk18 : Int32 → q_Mem → Option (Int32 × q_Mem)} {M : q_Mem} {a1 : Nat} {a2 : Nat} {a3 : Int32}  (hk18 : ∀ (a3 : Int32) (M : q_Mem), q_V Y_L_law (some (L, xs)) (fun x : Int32 × q_Mem => (some (.int x.1), x.2)) 131 39214 18 [(0, .float 0), (1, .ref a1), (2, .ref a2), (3, .int a3)] [] M (kk18 a3 M)): q_V Y_L_law (some (L, xs)) (fun x : Int32 × q_Mem => (some (.int x.1), x.2)) 131 39214 2078 [(0, .float 0), (1, .ref a1), (2, .ref a2), (3, .int a3)] [] M (f_L_law_b2078 L xs kk18 M a1 a2 a3 ) := by
  unfold f_L_law_b2078
  refine q_aload_n 1 dL_law_2078 rfl ?_
  refine q_aload_s 0 dL_law_2079 rfl ?_
  refine q_iload_n 3 dL_law_2080 rfl ?_
  refine q_iconst (x := (1 : Int32)) dL_law_2081 rfl ?_
  refine q_iadd dL_law_2082 ?_
  refine q_sld rfl dL_law_2083 (fun h557 => ?_)
  refine q_cVMI (Y2 := Y_X11_image) (As := [.int (xs (a3 + (1 : Int32)).toNatClampNeg)]) (b := a1) (st := []) cl_X11 mv_X11_image qw_1070 dL_law_2084 ⟨Nat.le_of_ble_eq_true rfl, Nat.le_of_ble_eq_true rfl⟩ rfl (fun _ _ => rfl) (Nat.le_of_ble_eq_true rfl) ⟨Nat.le_of_ble_eq_true rfl, Nat.le_of_ble_eq_true rfl⟩ (fun r559 h558 => q_ob_is h558) (fun r559 h558 => m_X11_image h558) (fun r559 h558 => ?_)
  refine q_aload_n 2 dL_law_2087 rfl ?_
  refine q_aload_s 0 dL_law_2088 rfl ?_
  refine q_iload_n 3 dL_law_2089 rfl ?_
  refine q_iconst (x := (1 : Int32)) dL_law_2090 rfl ?_
  refine q_iadd dL_law_2091 ?_
  refine q_sld rfl dL_law_2092 (fun h560 => ?_)
  refine q_cVMI (Y2 := Y_X12_image) (As := [.int (xs (a3 + (1 : Int32)).toNatClampNeg)]) (b := a2) (st := [.int r559.1]) cl_X12 mv_X12_image qw_1671 dL_law_2093 ⟨Nat.le_of_ble_eq_true rfl, Nat.le_of_ble_eq_true rfl⟩ rfl (fun _ _ => rfl) (Nat.le_of_ble_eq_true rfl) ⟨Nat.le_of_ble_eq_true rfl, Nat.le_of_ble_eq_true rfl⟩ (fun r562 h561 => q_ob_is h561) (fun r562 h561 => m_X12_image h561) (fun r562 h561 => ?_)
  refine q_icmp_eq (tgt := 2161) dL_law_2096 (by decide) (fun c563 => ?_) (fun c563 => ?_)
  · exact v_L_law_b2161 (hk18)
  · refine q_iconst (x := (0 : Int32)) dL_law_2099 rfl ?_
    exact q_zretL dL_law_2100 rfl (Or.inl rfl) rfl (Nat.le_of_ble_eq_true rfl) rfl
set_option maxRecDepth 20000 in
theorem v_L_law_b2055 {L : Nat} {xs : Nat → Int32} {kk18 : Int32 → q_Mem → Option (Int32 × q_Mem)} {M : q_Mem} {a1 : Nat} {a2 : Nat} {a3 : Int32}  (hk18 : ∀ (a3 : Int32) (M : q_Mem), q_V Y_L_law (some (L, xs)) (fun x : Int32 × q_Mem => (some (.int x.1), x.2)) 131 39214 18 [(0, .float 0), (1, .ref a1), (2, .ref a2), (3, .int a3)] [] M (kk18 a3 M)): q_V Y_L_law (some (L, xs)) (fun x : Int32 × q_Mem => (some (.int x.1), x.2)) 131 39214 2055 [(0, .float 0), (1, .ref a1), (2, .ref a2), (3, .int a3)] [] M (f_L_law_b2055 L xs kk18 M a1 a2 a3 ) := by
  unfold f_L_law_b2055
  refine q_aload_n 1 dL_law_2055 rfl ?_
  refine q_aload_s 0 dL_law_2056 rfl ?_
  refine q_iload_n 3 dL_law_2057 rfl ?_
  refine q_iconst (x := (1 : Int32)) dL_law_2058 rfl ?_
  refine q_iadd dL_law_2059 ?_
  refine q_sld rfl dL_law_2060 (fun h550 => ?_)
  refine q_cVI (Y2 := Y_X11_ends) (As := [.int (xs (a3 + (1 : Int32)).toNatClampNeg)]) (b := a1) (st := []) cl_X11 mv_X11_ends qw_1066 dL_law_2061 ⟨Nat.le_of_ble_eq_true rfl, Nat.le_of_ble_eq_true rfl⟩ rfl (fun _ _ => rfl) (Nat.le_of_ble_eq_true rfl) ⟨Nat.le_of_ble_eq_true rfl, Nat.le_of_ble_eq_true rfl⟩ (fun v552 h551 => q_ob_is h551) (fun v552 h551 => m_X11_ends h551) (fun v552 h551 => ?_)
  refine q_aload_n 2 dL_law_2064 rfl ?_
  refine q_aload_s 0 dL_law_2065 rfl ?_
  refine q_iload_n 3 dL_law_2066 rfl ?_
  refine q_iconst (x := (1 : Int32)) dL_law_2067 rfl ?_
  refine q_iadd dL_law_2068 ?_
  refine q_sld rfl dL_law_2069 (fun h553 => ?_)
  refine q_cVI (Y2 := Y_X12_ends) (As := [.int (xs (a3 + (1 : Int32)).toNatClampNeg)]) (b := a2) (st := [.int v552]) cl_X12 mv_X12_ends qw_1667 dL_law_2070 ⟨Nat.le_of_ble_eq_true rfl, Nat.le_of_ble_eq_true rfl⟩ rfl (fun _ _ => rfl) (Nat.le_of_ble_eq_true rfl) ⟨Nat.le_of_ble_eq_true rfl, Nat.le_of_ble_eq_true rfl⟩ (fun v555 h554 => q_ob_is h554) (fun v555 h554 => m_X12_ends h554) (fun v555 h554 => ?_)
  refine q_icmp_eq (tgt := 2161) dL_law_2073 (by decide) (fun c556 => ?_) (fun c556 => ?_)
  · exact v_L_law_b2161 (hk18)
  · refine q_iconst (x := (0 : Int32)) dL_law_2076 rfl ?_
    exact q_zretL dL_law_2077 rfl (Or.inl rfl) rfl (Nat.le_of_ble_eq_true rfl) rfl
set_option maxRecDepth 20000 in
theorem v_L_law_b2021 {L : Nat} {xs : Nat → Int32} {kk18 : Int32 → q_Mem → Option (Int32 × q_Mem)} {M : q_Mem} {a1 : Nat} {a2 : Nat} {a3 : Int32}  (hk18 : ∀ (a3 : Int32) (M : q_Mem), q_V Y_L_law (some (L, xs)) (fun x : Int32 × q_Mem => (some (.int x.1), x.2)) 131 39214 18 [(0, .float 0), (1, .ref a1), (2, .ref a2), (3, .int a3)] [] M (kk18 a3 M)): q_V Y_L_law (some (L, xs)) (fun x : Int32 × q_Mem => (some (.int x.1), x.2)) 131 39214 2021 [(0, .float 0), (1, .ref a1), (2, .ref a2), (3, .int a3)] [] M (f_L_law_b2021 L xs kk18 M a1 a2 a3 ) := by
  unfold f_L_law_b2021
  refine q_aload_n 1 dL_law_2021 rfl ?_
  refine q_aload_s 0 dL_law_2022 rfl ?_
  refine q_iload_n 3 dL_law_2023 rfl ?_
  refine q_iconst (x := (1 : Int32)) dL_law_2024 rfl ?_
  refine q_iadd dL_law_2025 ?_
  refine q_sld rfl dL_law_2026 (fun h541 => ?_)
  refine q_aload_s 0 dL_law_2027 rfl ?_
  refine q_iload_n 3 dL_law_2028 rfl ?_
  refine q_iconst (x := (2 : Int32)) dL_law_2029 rfl ?_
  refine q_iadd dL_law_2030 ?_
  refine q_sld rfl dL_law_2031 (fun h542 => ?_)
  refine q_cVJ (Y2 := Y_X11_owed) (As := [.int (xs (a3 + (1 : Int32)).toNatClampNeg), .int (xs (a3 + (2 : Int32)).toNatClampNeg)]) (b := a1) (st := []) cl_X11 mv_X11_owed qw_1055 dL_law_2032 ⟨Nat.le_of_ble_eq_true rfl, Nat.le_of_ble_eq_true rfl⟩ rfl (fun _ _ => rfl) (Nat.le_of_ble_eq_true rfl) ⟨Nat.le_of_ble_eq_true rfl, Nat.le_of_ble_eq_true rfl⟩ (fun v544 h543 => q_ob_is h543) (fun v544 h543 => m_X11_owed h543) (fun v544 h543 => ?_)
  refine q_aload_n 2 dL_law_2035 rfl ?_
  refine q_aload_s 0 dL_law_2036 rfl ?_
  refine q_iload_n 3 dL_law_2037 rfl ?_
  refine q_iconst (x := (1 : Int32)) dL_law_2038 rfl ?_
  refine q_iadd dL_law_2039 ?_
  refine q_sld rfl dL_law_2040 (fun h545 => ?_)
  refine q_aload_s 0 dL_law_2041 rfl ?_
  refine q_iload_n 3 dL_law_2042 rfl ?_
  refine q_iconst (x := (2 : Int32)) dL_law_2043 rfl ?_
  refine q_iadd dL_law_2044 ?_
  refine q_sld rfl dL_law_2045 (fun h546 => ?_)
  refine q_cVJ (Y2 := Y_X12_owed) (As := [.int (xs (a3 + (1 : Int32)).toNatClampNeg), .int (xs (a3 + (2 : Int32)).toNatClampNeg)]) (b := a2) (st := [.long v544]) cl_X12 mv_X12_owed qw_1657 dL_law_2046 ⟨Nat.le_of_ble_eq_true rfl, Nat.le_of_ble_eq_true rfl⟩ rfl (fun _ _ => rfl) (Nat.le_of_ble_eq_true rfl) ⟨Nat.le_of_ble_eq_true rfl, Nat.le_of_ble_eq_true rfl⟩ (fun v548 h547 => q_ob_is h547) (fun v548 h547 => m_X12_owed h547) (fun v548 h547 => ?_)
  refine q_lcmp_eq (tgt := 2161) dL_law_2049 dL_law_2050 (by decide) (fun c549 => ?_) (fun c549 => ?_)
  · exact v_L_law_b2161 (hk18)
  · refine q_iconst (x := (0 : Int32)) dL_law_2053 rfl ?_
    exact q_zretL dL_law_2054 rfl (Or.inl rfl) rfl (Nat.le_of_ble_eq_true rfl) rfl
set_option maxRecDepth 20000 in
theorem v_L_law_b1978 {L : Nat} {xs : Nat → Int32} {kk18 : Int32 → q_Mem → Option (Int32 × q_Mem)} {M : q_Mem} {a1 : Nat} {a2 : Nat} {a3 : Int32}  (hk18 : ∀ (a3 : Int32) (M : q_Mem), q_V Y_L_law (some (L, xs)) (fun x : Int32 × q_Mem => (some (.int x.1), x.2)) 131 39214 18 [(0, .float 0), (1, .ref a1), (2, .ref a2), (3, .int a3)] [] M (kk18 a3 M)): q_V Y_L_law (some (L, xs)) (fun x : Int32 × q_Mem => (some (.int x.1), x.2)) 131 39214 1978 [(0, .float 0), (1, .ref a1), (2, .ref a2), (3, .int a3)] [] M (f_L_law_b1978 L xs kk18 M a1 a2 a3 ) := by
  unfold f_L_law_b1978
  refine q_aload_n 1 dL_law_1978 rfl ?_
  refine q_aload_s 0 dL_law_1979 rfl ?_
  refine q_iload_n 3 dL_law_1980 rfl ?_
  refine q_iconst (x := (1 : Int32)) dL_law_1981 rfl ?_
  refine q_iadd dL_law_1982 ?_
  refine q_sld rfl dL_law_1983 (fun h530 => ?_)
  refine q_aload_s 0 dL_law_1984 rfl ?_
  refine q_iload_n 3 dL_law_1985 rfl ?_
  refine q_iconst (x := (2 : Int32)) dL_law_1986 rfl ?_
  refine q_iadd dL_law_1987 ?_
  refine q_sld rfl dL_law_1988 (fun h531 => ?_)
  refine q_aload_s 0 dL_law_1989 rfl ?_
  refine q_iload_n 3 dL_law_1990 rfl ?_
  refine q_iconst (x := (3 : Int32)) dL_law_1991 rfl ?_
  refine q_iadd dL_law_1992 ?_
  refine q_sld rfl dL_law_1993 (fun h532 => ?_)
  refine q_cVMI (Y2 := Y_X11_loan) (As := [.int (xs (a3 + (1 : Int32)).toNatClampNeg), .int (xs (a3 + (2 : Int32)).toNatClampNeg), .int (xs (a3 + (3 : Int32)).toNatClampNeg)]) (b := a1) (st := []) cl_X11 mv_X11_loan qw_1050 dL_law_1994 ⟨Nat.le_of_ble_eq_true rfl, Nat.le_of_ble_eq_true rfl⟩ rfl (fun _ _ => rfl) (Nat.le_of_ble_eq_true rfl) ⟨Nat.le_of_ble_eq_true rfl, Nat.le_of_ble_eq_true rfl⟩ (fun r534 h533 => q_ob_is h533) (fun r534 h533 => m_X11_loan h533) (fun r534 h533 => ?_)
  refine q_aload_n 2 dL_law_1997 rfl ?_
  refine q_aload_s 0 dL_law_1998 rfl ?_
  refine q_iload_n 3 dL_law_1999 rfl ?_
  refine q_iconst (x := (1 : Int32)) dL_law_2000 rfl ?_
  refine q_iadd dL_law_2001 ?_
  refine q_sld rfl dL_law_2002 (fun h535 => ?_)
  refine q_aload_s 0 dL_law_2003 rfl ?_
  refine q_iload_n 3 dL_law_2004 rfl ?_
  refine q_iconst (x := (2 : Int32)) dL_law_2005 rfl ?_
  refine q_iadd dL_law_2006 ?_
  refine q_sld rfl dL_law_2007 (fun h536 => ?_)
  refine q_aload_s 0 dL_law_2008 rfl ?_
  refine q_iload_n 3 dL_law_2009 rfl ?_
  refine q_iconst (x := (3 : Int32)) dL_law_2010 rfl ?_
  refine q_iadd dL_law_2011 ?_
  refine q_sld rfl dL_law_2012 (fun h537 => ?_)
  refine q_cVMI (Y2 := Y_X12_loan) (As := [.int (xs (a3 + (1 : Int32)).toNatClampNeg), .int (xs (a3 + (2 : Int32)).toNatClampNeg), .int (xs (a3 + (3 : Int32)).toNatClampNeg)]) (b := a2) (st := [.int r534.1]) cl_X12 mv_X12_loan qw_1652 dL_law_2013 ⟨Nat.le_of_ble_eq_true rfl, Nat.le_of_ble_eq_true rfl⟩ rfl (fun _ _ => rfl) (Nat.le_of_ble_eq_true rfl) ⟨Nat.le_of_ble_eq_true rfl, Nat.le_of_ble_eq_true rfl⟩ (fun r539 h538 => q_ob_is h538) (fun r539 h538 => m_X12_loan h538) (fun r539 h538 => ?_)
  refine q_icmp_eq (tgt := 2161) dL_law_2016 (by decide) (fun c540 => ?_) (fun c540 => ?_)
  · exact v_L_law_b2161 (hk18)
  · refine q_iconst (x := (0 : Int32)) dL_law_2019 rfl ?_
    exact q_zretL dL_law_2020 rfl (Or.inl rfl) rfl (Nat.le_of_ble_eq_true rfl) rfl
set_option maxRecDepth 20000 in
theorem v_L_law_b1945 {L : Nat} {xs : Nat → Int32} {kk18 : Int32 → q_Mem → Option (Int32 × q_Mem)} {M : q_Mem} {a1 : Nat} {a2 : Nat} {a3 : Int32}  (hk18 : ∀ (a3 : Int32) (M : q_Mem), q_V Y_L_law (some (L, xs)) (fun x : Int32 × q_Mem => (some (.int x.1), x.2)) 131 39214 18 [(0, .float 0), (1, .ref a1), (2, .ref a2), (3, .int a3)] [] M (kk18 a3 M)): q_V Y_L_law (some (L, xs)) (fun x : Int32 × q_Mem => (some (.int x.1), x.2)) 131 39214 1945 [(0, .float 0), (1, .ref a1), (2, .ref a2), (3, .int a3)] [] M (f_L_law_b1945 L xs kk18 M a1 a2 a3 ) := by
  unfold f_L_law_b1945
  refine q_aload_n 1 dL_law_1945 rfl ?_
  refine q_aload_s 0 dL_law_1946 rfl ?_
  refine q_iload_n 3 dL_law_1947 rfl ?_
  refine q_iconst (x := (1 : Int32)) dL_law_1948 rfl ?_
  refine q_iadd dL_law_1949 ?_
  refine q_sld rfl dL_law_1950 (fun h521 => ?_)
  refine q_aload_s 0 dL_law_1951 rfl ?_
  refine q_iload_n 3 dL_law_1952 rfl ?_
  refine q_iconst (x := (2 : Int32)) dL_law_1953 rfl ?_
  refine q_iadd dL_law_1954 ?_
  refine q_sld rfl dL_law_1955 (fun h522 => ?_)
  refine q_cVI (Y2 := Y_X11_nearest) (As := [.int (xs (a3 + (1 : Int32)).toNatClampNeg), .int (xs (a3 + (2 : Int32)).toNatClampNeg)]) (b := a1) (st := []) cl_X11 mv_X11_nearest qw_1045 dL_law_1956 ⟨Nat.le_of_ble_eq_true rfl, Nat.le_of_ble_eq_true rfl⟩ rfl (fun _ _ => rfl) (Nat.le_of_ble_eq_true rfl) ⟨Nat.le_of_ble_eq_true rfl, Nat.le_of_ble_eq_true rfl⟩ (fun v524 h523 => q_ob_is h523) (fun v524 h523 => m_X11_nearest h523) (fun v524 h523 => ?_)
  refine q_aload_n 2 dL_law_1959 rfl ?_
  refine q_aload_s 0 dL_law_1960 rfl ?_
  refine q_iload_n 3 dL_law_1961 rfl ?_
  refine q_iconst (x := (1 : Int32)) dL_law_1962 rfl ?_
  refine q_iadd dL_law_1963 ?_
  refine q_sld rfl dL_law_1964 (fun h525 => ?_)
  refine q_aload_s 0 dL_law_1965 rfl ?_
  refine q_iload_n 3 dL_law_1966 rfl ?_
  refine q_iconst (x := (2 : Int32)) dL_law_1967 rfl ?_
  refine q_iadd dL_law_1968 ?_
  refine q_sld rfl dL_law_1969 (fun h526 => ?_)
  refine q_cVI (Y2 := Y_X12_nearest) (As := [.int (xs (a3 + (1 : Int32)).toNatClampNeg), .int (xs (a3 + (2 : Int32)).toNatClampNeg)]) (b := a2) (st := [.int v524]) cl_X12 mv_X12_nearest qw_1648 dL_law_1970 ⟨Nat.le_of_ble_eq_true rfl, Nat.le_of_ble_eq_true rfl⟩ rfl (fun _ _ => rfl) (Nat.le_of_ble_eq_true rfl) ⟨Nat.le_of_ble_eq_true rfl, Nat.le_of_ble_eq_true rfl⟩ (fun v528 h527 => q_ob_is h527) (fun v528 h527 => m_X12_nearest h527) (fun v528 h527 => ?_)
  refine q_icmp_eq (tgt := 2161) dL_law_1973 (by decide) (fun c529 => ?_) (fun c529 => ?_)
  · exact v_L_law_b2161 (hk18)
  · refine q_iconst (x := (0 : Int32)) dL_law_1976 rfl ?_
    exact q_zretL dL_law_1977 rfl (Or.inl rfl) rfl (Nat.le_of_ble_eq_true rfl) rfl
set_option maxRecDepth 20000 in
theorem v_L_law_b1921 {L : Nat} {xs : Nat → Int32} {kk18 : Int32 → q_Mem → Option (Int32 × q_Mem)} {M : q_Mem} {a1 : Nat} {a2 : Nat} {a3 : Int32}  (hk18 : ∀ (a3 : Int32) (M : q_Mem), q_V Y_L_law (some (L, xs)) (fun x : Int32 × q_Mem => (some (.int x.1), x.2)) 131 39214 18 [(0, .float 0), (1, .ref a1), (2, .ref a2), (3, .int a3)] [] M (kk18 a3 M)): q_V Y_L_law (some (L, xs)) (fun x : Int32 × q_Mem => (some (.int x.1), x.2)) 131 39214 1921 [(0, .float 0), (1, .ref a1), (2, .ref a2), (3, .int a3)] [] M (f_L_law_b1921 L xs kk18 M a1 a2 a3 ) := by
  unfold f_L_law_b1921
  refine q_aload_n 1 dL_law_1921 rfl ?_
  refine q_aload_s 0 dL_law_1922 rfl ?_
  refine q_iload_n 3 dL_law_1923 rfl ?_
  refine q_iconst (x := (1 : Int32)) dL_law_1924 rfl ?_
  refine q_iadd dL_law_1925 ?_
  refine q_sld rfl dL_law_1926 (fun h514 => ?_)
  refine q_cVMJ (Y2 := Y_X11_open) (As := [.int (xs (a3 + (1 : Int32)).toNatClampNeg)]) (b := a1) (st := []) cl_X11 mv_X11_open qw_1025 dL_law_1927 ⟨Nat.le_of_ble_eq_true rfl, Nat.le_of_ble_eq_true rfl⟩ rfl (fun _ _ => rfl) (Nat.le_of_ble_eq_true rfl) ⟨Nat.le_of_ble_eq_true rfl, Nat.le_of_ble_eq_true rfl⟩ (fun r516 h515 => q_ob_is h515) (fun r516 h515 => m_X11_open h515) (fun r516 h515 => ?_)
  refine q_aload_n 2 dL_law_1930 rfl ?_
  refine q_aload_s 0 dL_law_1931 rfl ?_
  refine q_iload_n 3 dL_law_1932 rfl ?_
  refine q_iconst (x := (1 : Int32)) dL_law_1933 rfl ?_
  refine q_iadd dL_law_1934 ?_
  refine q_sld rfl dL_law_1935 (fun h517 => ?_)
  refine q_cVJ (Y2 := Y_X12_open) (As := [.int (xs (a3 + (1 : Int32)).toNatClampNeg)]) (b := a2) (st := [.long r516.1]) cl_X12 mv_X12_open qw_1631 dL_law_1936 ⟨Nat.le_of_ble_eq_true rfl, Nat.le_of_ble_eq_true rfl⟩ rfl (fun _ _ => rfl) (Nat.le_of_ble_eq_true rfl) ⟨Nat.le_of_ble_eq_true rfl, Nat.le_of_ble_eq_true rfl⟩ (fun v519 h518 => q_ob_is h518) (fun v519 h518 => m_X12_open h518) (fun v519 h518 => ?_)
  refine q_lcmp_eq (tgt := 2161) dL_law_1939 dL_law_1940 (by decide) (fun c520 => ?_) (fun c520 => ?_)
  · exact v_L_law_b2161 (hk18)
  · refine q_iconst (x := (0 : Int32)) dL_law_1943 rfl ?_
    exact q_zretL dL_law_1944 rfl (Or.inl rfl) rfl (Nat.le_of_ble_eq_true rfl) rfl
set_option maxRecDepth 20000 in
theorem v_L_law_b1898 {L : Nat} {xs : Nat → Int32} {kk18 : Int32 → q_Mem → Option (Int32 × q_Mem)} {M : q_Mem} {a1 : Nat} {a2 : Nat} {a3 : Int32}  (hk18 : ∀ (a3 : Int32) (M : q_Mem), q_V Y_L_law (some (L, xs)) (fun x : Int32 × q_Mem => (some (.int x.1), x.2)) 131 39214 18 [(0, .float 0), (1, .ref a1), (2, .ref a2), (3, .int a3)] [] M (kk18 a3 M)): q_V Y_L_law (some (L, xs)) (fun x : Int32 × q_Mem => (some (.int x.1), x.2)) 131 39214 1898 [(0, .float 0), (1, .ref a1), (2, .ref a2), (3, .int a3)] [] M (f_L_law_b1898 L xs kk18 M a1 a2 a3 ) := by
  unfold f_L_law_b1898
  refine q_aload_n 1 dL_law_1898 rfl ?_
  refine q_aload_s 0 dL_law_1899 rfl ?_
  refine q_iload_n 3 dL_law_1900 rfl ?_
  refine q_iconst (x := (1 : Int32)) dL_law_1901 rfl ?_
  refine q_iadd dL_law_1902 ?_
  refine q_sld rfl dL_law_1903 (fun h507 => ?_)
  refine q_cVMI (Y2 := Y_X11_freight) (As := [.int (xs (a3 + (1 : Int32)).toNatClampNeg)]) (b := a1) (st := []) cl_X11 mv_X11_freight qw_1021 dL_law_1904 ⟨Nat.le_of_ble_eq_true rfl, Nat.le_of_ble_eq_true rfl⟩ rfl (fun _ _ => rfl) (Nat.le_of_ble_eq_true rfl) ⟨Nat.le_of_ble_eq_true rfl, Nat.le_of_ble_eq_true rfl⟩ (fun r509 h508 => q_ob_is h508) (fun r509 h508 => m_X11_freight h508) (fun r509 h508 => ?_)
  refine q_aload_n 2 dL_law_1907 rfl ?_
  refine q_aload_s 0 dL_law_1908 rfl ?_
  refine q_iload_n 3 dL_law_1909 rfl ?_
  refine q_iconst (x := (1 : Int32)) dL_law_1910 rfl ?_
  refine q_iadd dL_law_1911 ?_
  refine q_sld rfl dL_law_1912 (fun h510 => ?_)
  refine q_cVMI (Y2 := Y_X12_freight) (As := [.int (xs (a3 + (1 : Int32)).toNatClampNeg)]) (b := a2) (st := [.int r509.1]) cl_X12 mv_X12_freight qw_1627 dL_law_1913 ⟨Nat.le_of_ble_eq_true rfl, Nat.le_of_ble_eq_true rfl⟩ rfl (fun _ _ => rfl) (Nat.le_of_ble_eq_true rfl) ⟨Nat.le_of_ble_eq_true rfl, Nat.le_of_ble_eq_true rfl⟩ (fun r512 h511 => q_ob_is h511) (fun r512 h511 => m_X12_freight h511) (fun r512 h511 => ?_)
  refine q_icmp_eq (tgt := 2161) dL_law_1916 (by decide) (fun c513 => ?_) (fun c513 => ?_)
  · exact v_L_law_b2161 (hk18)
  · refine q_iconst (x := (0 : Int32)) dL_law_1919 rfl ?_
    exact q_zretL dL_law_1920 rfl (Or.inl rfl) rfl (Nat.le_of_ble_eq_true rfl) rfl
set_option maxRecDepth 20000 in
theorem v_L_law_b1855 {L : Nat} {xs : Nat → Int32} {kk18 : Int32 → q_Mem → Option (Int32 × q_Mem)} {M : q_Mem} {a1 : Nat} {a2 : Nat} {a3 : Int32}  (hk18 : ∀ (a3 : Int32) (M : q_Mem), q_V Y_L_law (some (L, xs)) (fun x : Int32 × q_Mem => (some (.int x.1), x.2)) 131 39214 18 [(0, .float 0), (1, .ref a1), (2, .ref a2), (3, .int a3)] [] M (kk18 a3 M)): q_V Y_L_law (some (L, xs)) (fun x : Int32 × q_Mem => (some (.int x.1), x.2)) 131 39214 1855 [(0, .float 0), (1, .ref a1), (2, .ref a2), (3, .int a3)] [] M (f_L_law_b1855 L xs kk18 M a1 a2 a3 ) := by
  unfold f_L_law_b1855
  refine q_aload_n 1 dL_law_1855 rfl ?_
  refine q_aload_s 0 dL_law_1856 rfl ?_
  refine q_iload_n 3 dL_law_1857 rfl ?_
  refine q_iconst (x := (1 : Int32)) dL_law_1858 rfl ?_
  refine q_iadd dL_law_1859 ?_
  refine q_sld rfl dL_law_1860 (fun h496 => ?_)
  refine q_aload_s 0 dL_law_1861 rfl ?_
  refine q_iload_n 3 dL_law_1862 rfl ?_
  refine q_iconst (x := (2 : Int32)) dL_law_1863 rfl ?_
  refine q_iadd dL_law_1864 ?_
  refine q_sld rfl dL_law_1865 (fun h497 => ?_)
  refine q_aload_s 0 dL_law_1866 rfl ?_
  refine q_iload_n 3 dL_law_1867 rfl ?_
  refine q_iconst (x := (3 : Int32)) dL_law_1868 rfl ?_
  refine q_iadd dL_law_1869 ?_
  refine q_sld rfl dL_law_1870 (fun h498 => ?_)
  refine q_cVMI (Y2 := Y_X11_site) (As := [.int (xs (a3 + (1 : Int32)).toNatClampNeg), .int (xs (a3 + (2 : Int32)).toNatClampNeg), .int (xs (a3 + (3 : Int32)).toNatClampNeg)]) (b := a1) (st := []) cl_X11 mv_X11_site qw_1017 dL_law_1871 ⟨Nat.le_of_ble_eq_true rfl, Nat.le_of_ble_eq_true rfl⟩ rfl (fun _ _ => rfl) (Nat.le_of_ble_eq_true rfl) ⟨Nat.le_of_ble_eq_true rfl, Nat.le_of_ble_eq_true rfl⟩ (fun r500 h499 => q_ob_is h499) (fun r500 h499 => m_X11_site h499) (fun r500 h499 => ?_)
  refine q_aload_n 2 dL_law_1874 rfl ?_
  refine q_aload_s 0 dL_law_1875 rfl ?_
  refine q_iload_n 3 dL_law_1876 rfl ?_
  refine q_iconst (x := (1 : Int32)) dL_law_1877 rfl ?_
  refine q_iadd dL_law_1878 ?_
  refine q_sld rfl dL_law_1879 (fun h501 => ?_)
  refine q_aload_s 0 dL_law_1880 rfl ?_
  refine q_iload_n 3 dL_law_1881 rfl ?_
  refine q_iconst (x := (2 : Int32)) dL_law_1882 rfl ?_
  refine q_iadd dL_law_1883 ?_
  refine q_sld rfl dL_law_1884 (fun h502 => ?_)
  refine q_aload_s 0 dL_law_1885 rfl ?_
  refine q_iload_n 3 dL_law_1886 rfl ?_
  refine q_iconst (x := (3 : Int32)) dL_law_1887 rfl ?_
  refine q_iadd dL_law_1888 ?_
  refine q_sld rfl dL_law_1889 (fun h503 => ?_)
  refine q_cVMI (Y2 := Y_X12_site) (As := [.int (xs (a3 + (1 : Int32)).toNatClampNeg), .int (xs (a3 + (2 : Int32)).toNatClampNeg), .int (xs (a3 + (3 : Int32)).toNatClampNeg)]) (b := a2) (st := [.int r500.1]) cl_X12 mv_X12_site qw_1623 dL_law_1890 ⟨Nat.le_of_ble_eq_true rfl, Nat.le_of_ble_eq_true rfl⟩ rfl (fun _ _ => rfl) (Nat.le_of_ble_eq_true rfl) ⟨Nat.le_of_ble_eq_true rfl, Nat.le_of_ble_eq_true rfl⟩ (fun r505 h504 => q_ob_is h504) (fun r505 h504 => m_X12_site h504) (fun r505 h504 => ?_)
  refine q_icmp_eq (tgt := 2161) dL_law_1893 (by decide) (fun c506 => ?_) (fun c506 => ?_)
  · exact v_L_law_b2161 (hk18)
  · refine q_iconst (x := (0 : Int32)) dL_law_1896 rfl ?_
    exact q_zretL dL_law_1897 rfl (Or.inl rfl) rfl (Nat.le_of_ble_eq_true rfl) rfl
set_option maxRecDepth 20000 in
theorem v_L_law_b1822 {L : Nat} {xs : Nat → Int32} {kk18 : Int32 → q_Mem → Option (Int32 × q_Mem)} {M : q_Mem} {a1 : Nat} {a2 : Nat} {a3 : Int32}  (hk18 : ∀ (a3 : Int32) (M : q_Mem), q_V Y_L_law (some (L, xs)) (fun x : Int32 × q_Mem => (some (.int x.1), x.2)) 131 39214 18 [(0, .float 0), (1, .ref a1), (2, .ref a2), (3, .int a3)] [] M (kk18 a3 M)): q_V Y_L_law (some (L, xs)) (fun x : Int32 × q_Mem => (some (.int x.1), x.2)) 131 39214 1822 [(0, .float 0), (1, .ref a1), (2, .ref a2), (3, .int a3)] [] M (f_L_law_b1822 L xs kk18 M a1 a2 a3 ) := by
  unfold f_L_law_b1822
  refine q_aload_n 1 dL_law_1822 rfl ?_
  refine q_aload_s 0 dL_law_1823 rfl ?_
  refine q_iload_n 3 dL_law_1824 rfl ?_
  refine q_iconst (x := (1 : Int32)) dL_law_1825 rfl ?_
  refine q_iadd dL_law_1826 ?_
  refine q_sld rfl dL_law_1827 (fun h487 => ?_)
  refine q_aload_s 0 dL_law_1828 rfl ?_
  refine q_iload_n 3 dL_law_1829 rfl ?_
  refine q_iconst (x := (2 : Int32)) dL_law_1830 rfl ?_
  refine q_iadd dL_law_1831 ?_
  refine q_sld rfl dL_law_1832 (fun h488 => ?_)
  refine q_cVI (Y2 := Y_X11_foretold) (As := [.int (xs (a3 + (1 : Int32)).toNatClampNeg), .int (xs (a3 + (2 : Int32)).toNatClampNeg)]) (b := a1) (st := []) cl_X11 mv_X11_foretold qw_1013 dL_law_1833 ⟨Nat.le_of_ble_eq_true rfl, Nat.le_of_ble_eq_true rfl⟩ rfl (fun _ _ => rfl) (Nat.le_of_ble_eq_true rfl) ⟨Nat.le_of_ble_eq_true rfl, Nat.le_of_ble_eq_true rfl⟩ (fun v490 h489 => q_ob_is h489) (fun v490 h489 => m_X11_foretold h489) (fun v490 h489 => ?_)
  refine q_aload_n 2 dL_law_1836 rfl ?_
  refine q_aload_s 0 dL_law_1837 rfl ?_
  refine q_iload_n 3 dL_law_1838 rfl ?_
  refine q_iconst (x := (1 : Int32)) dL_law_1839 rfl ?_
  refine q_iadd dL_law_1840 ?_
  refine q_sld rfl dL_law_1841 (fun h491 => ?_)
  refine q_aload_s 0 dL_law_1842 rfl ?_
  refine q_iload_n 3 dL_law_1843 rfl ?_
  refine q_iconst (x := (2 : Int32)) dL_law_1844 rfl ?_
  refine q_iadd dL_law_1845 ?_
  refine q_sld rfl dL_law_1846 (fun h492 => ?_)
  refine q_cVI (Y2 := Y_X12_foretold) (As := [.int (xs (a3 + (1 : Int32)).toNatClampNeg), .int (xs (a3 + (2 : Int32)).toNatClampNeg)]) (b := a2) (st := [.int v490]) cl_X12 mv_X12_foretold qw_1619 dL_law_1847 ⟨Nat.le_of_ble_eq_true rfl, Nat.le_of_ble_eq_true rfl⟩ rfl (fun _ _ => rfl) (Nat.le_of_ble_eq_true rfl) ⟨Nat.le_of_ble_eq_true rfl, Nat.le_of_ble_eq_true rfl⟩ (fun v494 h493 => q_ob_is h493) (fun v494 h493 => m_X12_foretold h493) (fun v494 h493 => ?_)
  refine q_icmp_eq (tgt := 2161) dL_law_1850 (by decide) (fun c495 => ?_) (fun c495 => ?_)
  · exact v_L_law_b2161 (hk18)
  · refine q_iconst (x := (0 : Int32)) dL_law_1853 rfl ?_
    exact q_zretL dL_law_1854 rfl (Or.inl rfl) rfl (Nat.le_of_ble_eq_true rfl) rfl
set_option maxRecDepth 20000 in
theorem v_L_law_b1779 {L : Nat} {xs : Nat → Int32} {kk18 : Int32 → q_Mem → Option (Int32 × q_Mem)} {M : q_Mem} {a1 : Nat} {a2 : Nat} {a3 : Int32}  (hk18 : ∀ (a3 : Int32) (M : q_Mem), q_V Y_L_law (some (L, xs)) (fun x : Int32 × q_Mem => (some (.int x.1), x.2)) 131 39214 18 [(0, .float 0), (1, .ref a1), (2, .ref a2), (3, .int a3)] [] M (kk18 a3 M)): q_V Y_L_law (some (L, xs)) (fun x : Int32 × q_Mem => (some (.int x.1), x.2)) 131 39214 1779 [(0, .float 0), (1, .ref a1), (2, .ref a2), (3, .int a3)] [] M (f_L_law_b1779 L xs kk18 M a1 a2 a3 ) := by
  unfold f_L_law_b1779
  refine q_aload_n 1 dL_law_1779 rfl ?_
  refine q_aload_s 0 dL_law_1780 rfl ?_
  refine q_iload_n 3 dL_law_1781 rfl ?_
  refine q_iconst (x := (1 : Int32)) dL_law_1782 rfl ?_
  refine q_iadd dL_law_1783 ?_
  refine q_sld rfl dL_law_1784 (fun h476 => ?_)
  refine q_aload_s 0 dL_law_1785 rfl ?_
  refine q_iload_n 3 dL_law_1786 rfl ?_
  refine q_iconst (x := (2 : Int32)) dL_law_1787 rfl ?_
  refine q_iadd dL_law_1788 ?_
  refine q_sld rfl dL_law_1789 (fun h477 => ?_)
  refine q_aload_s 0 dL_law_1790 rfl ?_
  refine q_iload_n 3 dL_law_1791 rfl ?_
  refine q_iconst (x := (3 : Int32)) dL_law_1792 rfl ?_
  refine q_iadd dL_law_1793 ?_
  refine q_sld rfl dL_law_1794 (fun h478 => ?_)
  refine q_cVMI (Y2 := Y_X11_calved) (As := [.int (xs (a3 + (1 : Int32)).toNatClampNeg), .int (xs (a3 + (2 : Int32)).toNatClampNeg), .int (xs (a3 + (3 : Int32)).toNatClampNeg)]) (b := a1) (st := []) cl_X11 mv_X11_calved qw_1009 dL_law_1795 ⟨Nat.le_of_ble_eq_true rfl, Nat.le_of_ble_eq_true rfl⟩ rfl (fun _ _ => rfl) (Nat.le_of_ble_eq_true rfl) ⟨Nat.le_of_ble_eq_true rfl, Nat.le_of_ble_eq_true rfl⟩ (fun r480 h479 => q_ob_is h479) (fun r480 h479 => m_X11_calved h479) (fun r480 h479 => ?_)
  refine q_aload_n 2 dL_law_1798 rfl ?_
  refine q_aload_s 0 dL_law_1799 rfl ?_
  refine q_iload_n 3 dL_law_1800 rfl ?_
  refine q_iconst (x := (1 : Int32)) dL_law_1801 rfl ?_
  refine q_iadd dL_law_1802 ?_
  refine q_sld rfl dL_law_1803 (fun h481 => ?_)
  refine q_aload_s 0 dL_law_1804 rfl ?_
  refine q_iload_n 3 dL_law_1805 rfl ?_
  refine q_iconst (x := (2 : Int32)) dL_law_1806 rfl ?_
  refine q_iadd dL_law_1807 ?_
  refine q_sld rfl dL_law_1808 (fun h482 => ?_)
  refine q_aload_s 0 dL_law_1809 rfl ?_
  refine q_iload_n 3 dL_law_1810 rfl ?_
  refine q_iconst (x := (3 : Int32)) dL_law_1811 rfl ?_
  refine q_iadd dL_law_1812 ?_
  refine q_sld rfl dL_law_1813 (fun h483 => ?_)
  refine q_cVMI (Y2 := Y_X12_calved) (As := [.int (xs (a3 + (1 : Int32)).toNatClampNeg), .int (xs (a3 + (2 : Int32)).toNatClampNeg), .int (xs (a3 + (3 : Int32)).toNatClampNeg)]) (b := a2) (st := [.int r480.1]) cl_X12 mv_X12_calved qw_1615 dL_law_1814 ⟨Nat.le_of_ble_eq_true rfl, Nat.le_of_ble_eq_true rfl⟩ rfl (fun _ _ => rfl) (Nat.le_of_ble_eq_true rfl) ⟨Nat.le_of_ble_eq_true rfl, Nat.le_of_ble_eq_true rfl⟩ (fun r485 h484 => q_ob_is h484) (fun r485 h484 => m_X12_calved h484) (fun r485 h484 => ?_)
  refine q_icmp_eq (tgt := 2161) dL_law_1817 (by decide) (fun c486 => ?_) (fun c486 => ?_)
  · exact v_L_law_b2161 (hk18)
  · refine q_iconst (x := (0 : Int32)) dL_law_1820 rfl ?_
    exact q_zretL dL_law_1821 rfl (Or.inl rfl) rfl (Nat.le_of_ble_eq_true rfl) rfl
set_option maxRecDepth 20000 in
theorem v_L_law_b1746 {L : Nat} {xs : Nat → Int32} {kk18 : Int32 → q_Mem → Option (Int32 × q_Mem)} {M : q_Mem} {a1 : Nat} {a2 : Nat} {a3 : Int32}  (hk18 : ∀ (a3 : Int32) (M : q_Mem), q_V Y_L_law (some (L, xs)) (fun x : Int32 × q_Mem => (some (.int x.1), x.2)) 131 39214 18 [(0, .float 0), (1, .ref a1), (2, .ref a2), (3, .int a3)] [] M (kk18 a3 M)): q_V Y_L_law (some (L, xs)) (fun x : Int32 × q_Mem => (some (.int x.1), x.2)) 131 39214 1746 [(0, .float 0), (1, .ref a1), (2, .ref a2), (3, .int a3)] [] M (f_L_law_b1746 L xs kk18 M a1 a2 a3 ) := by
  unfold f_L_law_b1746
  refine q_aload_n 1 dL_law_1746 rfl ?_
  refine q_aload_s 0 dL_law_1747 rfl ?_
  refine q_iload_n 3 dL_law_1748 rfl ?_
  refine q_iconst (x := (1 : Int32)) dL_law_1749 rfl ?_
  refine q_iadd dL_law_1750 ?_
  refine q_sld rfl dL_law_1751 (fun h467 => ?_)
  refine q_aload_s 0 dL_law_1752 rfl ?_
  refine q_iload_n 3 dL_law_1753 rfl ?_
  refine q_iconst (x := (2 : Int32)) dL_law_1754 rfl ?_
  refine q_iadd dL_law_1755 ?_
  refine q_sld rfl dL_law_1756 (fun h468 => ?_)
  refine q_cVMI (Y2 := Y_X11_gives) (As := [.int (xs (a3 + (1 : Int32)).toNatClampNeg), .int (xs (a3 + (2 : Int32)).toNatClampNeg)]) (b := a1) (st := []) cl_X11 mv_X11_gives qw_1005 dL_law_1757 ⟨Nat.le_of_ble_eq_true rfl, Nat.le_of_ble_eq_true rfl⟩ rfl (fun _ _ => rfl) (Nat.le_of_ble_eq_true rfl) ⟨Nat.le_of_ble_eq_true rfl, Nat.le_of_ble_eq_true rfl⟩ (fun r470 h469 => q_ob_is h469) (fun r470 h469 => m_X11_gives h469) (fun r470 h469 => ?_)
  refine q_aload_n 2 dL_law_1760 rfl ?_
  refine q_aload_s 0 dL_law_1761 rfl ?_
  refine q_iload_n 3 dL_law_1762 rfl ?_
  refine q_iconst (x := (1 : Int32)) dL_law_1763 rfl ?_
  refine q_iadd dL_law_1764 ?_
  refine q_sld rfl dL_law_1765 (fun h471 => ?_)
  refine q_aload_s 0 dL_law_1766 rfl ?_
  refine q_iload_n 3 dL_law_1767 rfl ?_
  refine q_iconst (x := (2 : Int32)) dL_law_1768 rfl ?_
  refine q_iadd dL_law_1769 ?_
  refine q_sld rfl dL_law_1770 (fun h472 => ?_)
  refine q_cVMI (Y2 := Y_X12_gives) (As := [.int (xs (a3 + (1 : Int32)).toNatClampNeg), .int (xs (a3 + (2 : Int32)).toNatClampNeg)]) (b := a2) (st := [.int r470.1]) cl_X12 mv_X12_gives qw_1611 dL_law_1771 ⟨Nat.le_of_ble_eq_true rfl, Nat.le_of_ble_eq_true rfl⟩ rfl (fun _ _ => rfl) (Nat.le_of_ble_eq_true rfl) ⟨Nat.le_of_ble_eq_true rfl, Nat.le_of_ble_eq_true rfl⟩ (fun r474 h473 => q_ob_is h473) (fun r474 h473 => m_X12_gives h473) (fun r474 h473 => ?_)
  refine q_icmp_eq (tgt := 2161) dL_law_1774 (by decide) (fun c475 => ?_) (fun c475 => ?_)
  · exact v_L_law_b2161 (hk18)
  · refine q_iconst (x := (0 : Int32)) dL_law_1777 rfl ?_
    exact q_zretL dL_law_1778 rfl (Or.inl rfl) rfl (Nat.le_of_ble_eq_true rfl) rfl
set_option maxRecDepth 20000 in
theorem v_L_law_b1713 {L : Nat} {xs : Nat → Int32} {kk18 : Int32 → q_Mem → Option (Int32 × q_Mem)} {M : q_Mem} {a1 : Nat} {a2 : Nat} {a3 : Int32}  (hk18 : ∀ (a3 : Int32) (M : q_Mem), q_V Y_L_law (some (L, xs)) (fun x : Int32 × q_Mem => (some (.int x.1), x.2)) 131 39214 18 [(0, .float 0), (1, .ref a1), (2, .ref a2), (3, .int a3)] [] M (kk18 a3 M)): q_V Y_L_law (some (L, xs)) (fun x : Int32 × q_Mem => (some (.int x.1), x.2)) 131 39214 1713 [(0, .float 0), (1, .ref a1), (2, .ref a2), (3, .int a3)] [] M (f_L_law_b1713 L xs kk18 M a1 a2 a3 ) := by
  unfold f_L_law_b1713
  refine q_aload_n 1 dL_law_1713 rfl ?_
  refine q_aload_s 0 dL_law_1714 rfl ?_
  refine q_iload_n 3 dL_law_1715 rfl ?_
  refine q_iconst (x := (1 : Int32)) dL_law_1716 rfl ?_
  refine q_iadd dL_law_1717 ?_
  refine q_sld rfl dL_law_1718 (fun h458 => ?_)
  refine q_aload_s 0 dL_law_1719 rfl ?_
  refine q_iload_n 3 dL_law_1720 rfl ?_
  refine q_iconst (x := (2 : Int32)) dL_law_1721 rfl ?_
  refine q_iadd dL_law_1722 ?_
  refine q_sld rfl dL_law_1723 (fun h459 => ?_)
  refine q_cVMI (Y2 := Y_X11_heap) (As := [.int (xs (a3 + (1 : Int32)).toNatClampNeg), .int (xs (a3 + (2 : Int32)).toNatClampNeg)]) (b := a1) (st := []) cl_X11 mv_X11_heap qw_997 dL_law_1724 ⟨Nat.le_of_ble_eq_true rfl, Nat.le_of_ble_eq_true rfl⟩ rfl (fun _ _ => rfl) (Nat.le_of_ble_eq_true rfl) ⟨Nat.le_of_ble_eq_true rfl, Nat.le_of_ble_eq_true rfl⟩ (fun r461 h460 => q_ob_is h460) (fun r461 h460 => m_X11_heap h460) (fun r461 h460 => ?_)
  refine q_aload_n 2 dL_law_1727 rfl ?_
  refine q_aload_s 0 dL_law_1728 rfl ?_
  refine q_iload_n 3 dL_law_1729 rfl ?_
  refine q_iconst (x := (1 : Int32)) dL_law_1730 rfl ?_
  refine q_iadd dL_law_1731 ?_
  refine q_sld rfl dL_law_1732 (fun h462 => ?_)
  refine q_aload_s 0 dL_law_1733 rfl ?_
  refine q_iload_n 3 dL_law_1734 rfl ?_
  refine q_iconst (x := (2 : Int32)) dL_law_1735 rfl ?_
  refine q_iadd dL_law_1736 ?_
  refine q_sld rfl dL_law_1737 (fun h463 => ?_)
  refine q_cVMI (Y2 := Y_X12_heap) (As := [.int (xs (a3 + (1 : Int32)).toNatClampNeg), .int (xs (a3 + (2 : Int32)).toNatClampNeg)]) (b := a2) (st := [.int r461.1]) cl_X12 mv_X12_heap qw_1607 dL_law_1738 ⟨Nat.le_of_ble_eq_true rfl, Nat.le_of_ble_eq_true rfl⟩ rfl (fun _ _ => rfl) (Nat.le_of_ble_eq_true rfl) ⟨Nat.le_of_ble_eq_true rfl, Nat.le_of_ble_eq_true rfl⟩ (fun r465 h464 => q_ob_is h464) (fun r465 h464 => m_X12_heap h464) (fun r465 h464 => ?_)
  refine q_icmp_eq (tgt := 2161) dL_law_1741 (by decide) (fun c466 => ?_) (fun c466 => ?_)
  · exact v_L_law_b2161 (hk18)
  · refine q_iconst (x := (0 : Int32)) dL_law_1744 rfl ?_
    exact q_zretL dL_law_1745 rfl (Or.inl rfl) rfl (Nat.le_of_ble_eq_true rfl) rfl
set_option maxRecDepth 20000 in
theorem v_L_law_b1689 {L : Nat} {xs : Nat → Int32} {kk18 : Int32 → q_Mem → Option (Int32 × q_Mem)} {M : q_Mem} {a1 : Nat} {a2 : Nat} {a3 : Int32}  (hk18 : ∀ (a3 : Int32) (M : q_Mem), q_V Y_L_law (some (L, xs)) (fun x : Int32 × q_Mem => (some (.int x.1), x.2)) 131 39214 18 [(0, .float 0), (1, .ref a1), (2, .ref a2), (3, .int a3)] [] M (kk18 a3 M)): q_V Y_L_law (some (L, xs)) (fun x : Int32 × q_Mem => (some (.int x.1), x.2)) 131 39214 1689 [(0, .float 0), (1, .ref a1), (2, .ref a2), (3, .int a3)] [] M (f_L_law_b1689 L xs kk18 M a1 a2 a3 ) := by
  unfold f_L_law_b1689
  refine q_aload_n 1 dL_law_1689 rfl ?_
  refine q_aload_s 0 dL_law_1690 rfl ?_
  refine q_iload_n 3 dL_law_1691 rfl ?_
  refine q_iconst (x := (1 : Int32)) dL_law_1692 rfl ?_
  refine q_iadd dL_law_1693 ?_
  refine q_sld rfl dL_law_1694 (fun h451 => ?_)
  refine q_cVMJ (Y2 := Y_X11_together) (As := [.int (xs (a3 + (1 : Int32)).toNatClampNeg)]) (b := a1) (st := []) cl_X11 mv_X11_together qw_950 dL_law_1695 ⟨Nat.le_of_ble_eq_true rfl, Nat.le_of_ble_eq_true rfl⟩ rfl (fun _ _ => rfl) (Nat.le_of_ble_eq_true rfl) ⟨Nat.le_of_ble_eq_true rfl, Nat.le_of_ble_eq_true rfl⟩ (fun r453 h452 => q_ob_is h452) (fun r453 h452 => m_X11_together h452) (fun r453 h452 => ?_)
  refine q_aload_n 2 dL_law_1698 rfl ?_
  refine q_aload_s 0 dL_law_1699 rfl ?_
  refine q_iload_n 3 dL_law_1700 rfl ?_
  refine q_iconst (x := (1 : Int32)) dL_law_1701 rfl ?_
  refine q_iadd dL_law_1702 ?_
  refine q_sld rfl dL_law_1703 (fun h454 => ?_)
  refine q_cVMJ (Y2 := Y_X12_together) (As := [.int (xs (a3 + (1 : Int32)).toNatClampNeg)]) (b := a2) (st := [.long r453.1]) cl_X12 mv_X12_together qw_1586 dL_law_1704 ⟨Nat.le_of_ble_eq_true rfl, Nat.le_of_ble_eq_true rfl⟩ rfl (fun _ _ => rfl) (Nat.le_of_ble_eq_true rfl) ⟨Nat.le_of_ble_eq_true rfl, Nat.le_of_ble_eq_true rfl⟩ (fun r456 h455 => q_ob_is h455) (fun r456 h455 => m_X12_together h455) (fun r456 h455 => ?_)
  refine q_lcmp_eq (tgt := 2161) dL_law_1707 dL_law_1708 (by decide) (fun c457 => ?_) (fun c457 => ?_)
  · exact v_L_law_b2161 (hk18)
  · refine q_iconst (x := (0 : Int32)) dL_law_1711 rfl ?_
    exact q_zretL dL_law_1712 rfl (Or.inl rfl) rfl (Nat.le_of_ble_eq_true rfl) rfl
set_option maxRecDepth 20000 in
theorem v_L_law_b1676 {L : Nat} {xs : Nat → Int32} {kk18 : Int32 → q_Mem → Option (Int32 × q_Mem)} {M : q_Mem} {a1 : Nat} {a2 : Nat} {a3 : Int32}  (hk18 : ∀ (a3 : Int32) (M : q_Mem), q_V Y_L_law (some (L, xs)) (fun x : Int32 × q_Mem => (some (.int x.1), x.2)) 131 39214 18 [(0, .float 0), (1, .ref a1), (2, .ref a2), (3, .int a3)] [] M (kk18 a3 M)): q_V Y_L_law (some (L, xs)) (fun x : Int32 × q_Mem => (some (.int x.1), x.2)) 131 39214 1676 [(0, .float 0), (1, .ref a1), (2, .ref a2), (3, .int a3)] [] M (f_L_law_b1676 L xs kk18 M a1 a2 a3 ) := by
  unfold f_L_law_b1676
  refine q_aload_n 1 dL_law_1676 rfl ?_
  refine q_cVMI (Y2 := Y_X11_drain) (As := []) (b := a1) (st := []) cl_X11 mv_X11_drain qw_946 dL_law_1677 ⟨Nat.le_of_ble_eq_true rfl, Nat.le_of_ble_eq_true rfl⟩ rfl (fun _ _ => rfl) (Nat.le_of_ble_eq_true rfl) ⟨Nat.le_of_ble_eq_true rfl, Nat.le_of_ble_eq_true rfl⟩ (fun r447 h446 => q_ob_is h446) (fun r447 h446 => m_X11_drain h446) (fun r447 h446 => ?_)
  refine q_aload_n 2 dL_law_1680 rfl ?_
  refine q_cVMI (Y2 := Y_X12_drain) (As := []) (b := a2) (st := [.int r447.1]) cl_X12 mv_X12_drain qw_1582 dL_law_1681 ⟨Nat.le_of_ble_eq_true rfl, Nat.le_of_ble_eq_true rfl⟩ rfl (fun _ _ => rfl) (Nat.le_of_ble_eq_true rfl) ⟨Nat.le_of_ble_eq_true rfl, Nat.le_of_ble_eq_true rfl⟩ (fun r449 h448 => q_ob_is h448) (fun r449 h448 => m_X12_drain h448) (fun r449 h448 => ?_)
  refine q_icmp_eq (tgt := 2161) dL_law_1684 (by decide) (fun c450 => ?_) (fun c450 => ?_)
  · exact v_L_law_b2161 (hk18)
  · refine q_iconst (x := (0 : Int32)) dL_law_1687 rfl ?_
    exact q_zretL dL_law_1688 rfl (Or.inl rfl) rfl (Nat.le_of_ble_eq_true rfl) rfl
set_option maxRecDepth 20000 in
theorem v_L_law_b1633 {L : Nat} {xs : Nat → Int32} {kk18 : Int32 → q_Mem → Option (Int32 × q_Mem)} {M : q_Mem} {a1 : Nat} {a2 : Nat} {a3 : Int32}  (hk18 : ∀ (a3 : Int32) (M : q_Mem), q_V Y_L_law (some (L, xs)) (fun x : Int32 × q_Mem => (some (.int x.1), x.2)) 131 39214 18 [(0, .float 0), (1, .ref a1), (2, .ref a2), (3, .int a3)] [] M (kk18 a3 M)): q_V Y_L_law (some (L, xs)) (fun x : Int32 × q_Mem => (some (.int x.1), x.2)) 131 39214 1633 [(0, .float 0), (1, .ref a1), (2, .ref a2), (3, .int a3)] [] M (f_L_law_b1633 L xs kk18 M a1 a2 a3 ) := by
  unfold f_L_law_b1633
  refine q_aload_n 1 dL_law_1633 rfl ?_
  refine q_aload_s 0 dL_law_1634 rfl ?_
  refine q_iload_n 3 dL_law_1635 rfl ?_
  refine q_iconst (x := (1 : Int32)) dL_law_1636 rfl ?_
  refine q_iadd dL_law_1637 ?_
  refine q_sld rfl dL_law_1638 (fun h435 => ?_)
  refine q_aload_s 0 dL_law_1639 rfl ?_
  refine q_iload_n 3 dL_law_1640 rfl ?_
  refine q_iconst (x := (2 : Int32)) dL_law_1641 rfl ?_
  refine q_iadd dL_law_1642 ?_
  refine q_sld rfl dL_law_1643 (fun h436 => ?_)
  refine q_aload_s 0 dL_law_1644 rfl ?_
  refine q_iload_n 3 dL_law_1645 rfl ?_
  refine q_iconst (x := (3 : Int32)) dL_law_1646 rfl ?_
  refine q_iadd dL_law_1647 ?_
  refine q_sld rfl dL_law_1648 (fun h437 => ?_)
  refine q_cVMI (Y2 := Y_X11_cream) (As := [.int (xs (a3 + (1 : Int32)).toNatClampNeg), .int (xs (a3 + (2 : Int32)).toNatClampNeg), .int (xs (a3 + (3 : Int32)).toNatClampNeg)]) (b := a1) (st := []) cl_X11 mv_X11_cream qw_942 dL_law_1649 ⟨Nat.le_of_ble_eq_true rfl, Nat.le_of_ble_eq_true rfl⟩ rfl (fun _ _ => rfl) (Nat.le_of_ble_eq_true rfl) ⟨Nat.le_of_ble_eq_true rfl, Nat.le_of_ble_eq_true rfl⟩ (fun r439 h438 => q_ob_is h438) (fun r439 h438 => m_X11_cream h438) (fun r439 h438 => ?_)
  refine q_aload_n 2 dL_law_1652 rfl ?_
  refine q_aload_s 0 dL_law_1653 rfl ?_
  refine q_iload_n 3 dL_law_1654 rfl ?_
  refine q_iconst (x := (1 : Int32)) dL_law_1655 rfl ?_
  refine q_iadd dL_law_1656 ?_
  refine q_sld rfl dL_law_1657 (fun h440 => ?_)
  refine q_aload_s 0 dL_law_1658 rfl ?_
  refine q_iload_n 3 dL_law_1659 rfl ?_
  refine q_iconst (x := (2 : Int32)) dL_law_1660 rfl ?_
  refine q_iadd dL_law_1661 ?_
  refine q_sld rfl dL_law_1662 (fun h441 => ?_)
  refine q_aload_s 0 dL_law_1663 rfl ?_
  refine q_iload_n 3 dL_law_1664 rfl ?_
  refine q_iconst (x := (3 : Int32)) dL_law_1665 rfl ?_
  refine q_iadd dL_law_1666 ?_
  refine q_sld rfl dL_law_1667 (fun h442 => ?_)
  refine q_cVMI (Y2 := Y_X12_cream) (As := [.int (xs (a3 + (1 : Int32)).toNatClampNeg), .int (xs (a3 + (2 : Int32)).toNatClampNeg), .int (xs (a3 + (3 : Int32)).toNatClampNeg)]) (b := a2) (st := [.int r439.1]) cl_X12 mv_X12_cream qw_1578 dL_law_1668 ⟨Nat.le_of_ble_eq_true rfl, Nat.le_of_ble_eq_true rfl⟩ rfl (fun _ _ => rfl) (Nat.le_of_ble_eq_true rfl) ⟨Nat.le_of_ble_eq_true rfl, Nat.le_of_ble_eq_true rfl⟩ (fun r444 h443 => q_ob_is h443) (fun r444 h443 => m_X12_cream h443) (fun r444 h443 => ?_)
  refine q_icmp_eq (tgt := 2161) dL_law_1671 (by decide) (fun c445 => ?_) (fun c445 => ?_)
  · exact v_L_law_b2161 (hk18)
  · refine q_iconst (x := (0 : Int32)) dL_law_1674 rfl ?_
    exact q_zretL dL_law_1675 rfl (Or.inl rfl) rfl (Nat.le_of_ble_eq_true rfl) rfl
set_option maxRecDepth 20000 in
theorem v_L_law_b1600 {L : Nat} {xs : Nat → Int32} {kk18 : Int32 → q_Mem → Option (Int32 × q_Mem)} {M : q_Mem} {a1 : Nat} {a2 : Nat} {a3 : Int32}  (hk18 : ∀ (a3 : Int32) (M : q_Mem), q_V Y_L_law (some (L, xs)) (fun x : Int32 × q_Mem => (some (.int x.1), x.2)) 131 39214 18 [(0, .float 0), (1, .ref a1), (2, .ref a2), (3, .int a3)] [] M (kk18 a3 M)): q_V Y_L_law (some (L, xs)) (fun x : Int32 × q_Mem => (some (.int x.1), x.2)) 131 39214 1600 [(0, .float 0), (1, .ref a1), (2, .ref a2), (3, .int a3)] [] M (f_L_law_b1600 L xs kk18 M a1 a2 a3 ) := by
  unfold f_L_law_b1600
  refine q_aload_n 1 dL_law_1600 rfl ?_
  refine q_aload_s 0 dL_law_1601 rfl ?_
  refine q_iload_n 3 dL_law_1602 rfl ?_
  refine q_iconst (x := (1 : Int32)) dL_law_1603 rfl ?_
  refine q_iadd dL_law_1604 ?_
  refine q_sld rfl dL_law_1605 (fun h426 => ?_)
  refine q_aload_s 0 dL_law_1606 rfl ?_
  refine q_iload_n 3 dL_law_1607 rfl ?_
  refine q_iconst (x := (2 : Int32)) dL_law_1608 rfl ?_
  refine q_iadd dL_law_1609 ?_
  refine q_sld rfl dL_law_1610 (fun h427 => ?_)
  refine q_cVMI (Y2 := Y_X11_routeAt) (As := [.int (xs (a3 + (1 : Int32)).toNatClampNeg), .int (xs (a3 + (2 : Int32)).toNatClampNeg)]) (b := a1) (st := []) cl_X11 mv_X11_routeAt qw_934 dL_law_1611 ⟨Nat.le_of_ble_eq_true rfl, Nat.le_of_ble_eq_true rfl⟩ rfl (fun _ _ => rfl) (Nat.le_of_ble_eq_true rfl) ⟨Nat.le_of_ble_eq_true rfl, Nat.le_of_ble_eq_true rfl⟩ (fun r429 h428 => q_ob_is h428) (fun r429 h428 => m_X11_routeAt h428) (fun r429 h428 => ?_)
  refine q_aload_n 2 dL_law_1614 rfl ?_
  refine q_aload_s 0 dL_law_1615 rfl ?_
  refine q_iload_n 3 dL_law_1616 rfl ?_
  refine q_iconst (x := (1 : Int32)) dL_law_1617 rfl ?_
  refine q_iadd dL_law_1618 ?_
  refine q_sld rfl dL_law_1619 (fun h430 => ?_)
  refine q_aload_s 0 dL_law_1620 rfl ?_
  refine q_iload_n 3 dL_law_1621 rfl ?_
  refine q_iconst (x := (2 : Int32)) dL_law_1622 rfl ?_
  refine q_iadd dL_law_1623 ?_
  refine q_sld rfl dL_law_1624 (fun h431 => ?_)
  refine q_cVMI (Y2 := Y_X12_routeAt) (As := [.int (xs (a3 + (1 : Int32)).toNatClampNeg), .int (xs (a3 + (2 : Int32)).toNatClampNeg)]) (b := a2) (st := [.int r429.1]) cl_X12 mv_X12_routeAt qw_1574 dL_law_1625 ⟨Nat.le_of_ble_eq_true rfl, Nat.le_of_ble_eq_true rfl⟩ rfl (fun _ _ => rfl) (Nat.le_of_ble_eq_true rfl) ⟨Nat.le_of_ble_eq_true rfl, Nat.le_of_ble_eq_true rfl⟩ (fun r433 h432 => q_ob_is h432) (fun r433 h432 => m_X12_routeAt h432) (fun r433 h432 => ?_)
  refine q_icmp_eq (tgt := 2161) dL_law_1628 (by decide) (fun c434 => ?_) (fun c434 => ?_)
  · exact v_L_law_b2161 (hk18)
  · refine q_iconst (x := (0 : Int32)) dL_law_1631 rfl ?_
    exact q_zretL dL_law_1632 rfl (Or.inl rfl) rfl (Nat.le_of_ble_eq_true rfl) rfl
set_option maxRecDepth 20000 in
theorem v_L_law_b1577 {L : Nat} {xs : Nat → Int32} {kk18 : Int32 → q_Mem → Option (Int32 × q_Mem)} {M : q_Mem} {a1 : Nat} {a2 : Nat} {a3 : Int32}  (hk18 : ∀ (a3 : Int32) (M : q_Mem), q_V Y_L_law (some (L, xs)) (fun x : Int32 × q_Mem => (some (.int x.1), x.2)) 131 39214 18 [(0, .float 0), (1, .ref a1), (2, .ref a2), (3, .int a3)] [] M (kk18 a3 M)): q_V Y_L_law (some (L, xs)) (fun x : Int32 × q_Mem => (some (.int x.1), x.2)) 131 39214 1577 [(0, .float 0), (1, .ref a1), (2, .ref a2), (3, .int a3)] [] M (f_L_law_b1577 L xs kk18 M a1 a2 a3 ) := by
  unfold f_L_law_b1577
  refine q_aload_n 1 dL_law_1577 rfl ?_
  refine q_aload_s 0 dL_law_1578 rfl ?_
  refine q_iload_n 3 dL_law_1579 rfl ?_
  refine q_iconst (x := (1 : Int32)) dL_law_1580 rfl ?_
  refine q_iadd dL_law_1581 ?_
  refine q_sld rfl dL_law_1582 (fun h419 => ?_)
  refine q_cVMI (Y2 := Y_X11_route) (As := [.int (xs (a3 + (1 : Int32)).toNatClampNeg)]) (b := a1) (st := []) cl_X11 mv_X11_route qw_865 dL_law_1583 ⟨Nat.le_of_ble_eq_true rfl, Nat.le_of_ble_eq_true rfl⟩ rfl (fun _ _ => rfl) (Nat.le_of_ble_eq_true rfl) ⟨Nat.le_of_ble_eq_true rfl, Nat.le_of_ble_eq_true rfl⟩ (fun r421 h420 => q_ob_is h420) (fun r421 h420 => m_X11_route h420) (fun r421 h420 => ?_)
  refine q_aload_n 2 dL_law_1586 rfl ?_
  refine q_aload_s 0 dL_law_1587 rfl ?_
  refine q_iload_n 3 dL_law_1588 rfl ?_
  refine q_iconst (x := (1 : Int32)) dL_law_1589 rfl ?_
  refine q_iadd dL_law_1590 ?_
  refine q_sld rfl dL_law_1591 (fun h422 => ?_)
  refine q_cVMI (Y2 := Y_X12_route) (As := [.int (xs (a3 + (1 : Int32)).toNatClampNeg)]) (b := a2) (st := [.int r421.1]) cl_X12 mv_X12_route qw_1544 dL_law_1592 ⟨Nat.le_of_ble_eq_true rfl, Nat.le_of_ble_eq_true rfl⟩ rfl (fun _ _ => rfl) (Nat.le_of_ble_eq_true rfl) ⟨Nat.le_of_ble_eq_true rfl, Nat.le_of_ble_eq_true rfl⟩ (fun r424 h423 => q_ob_is h423) (fun r424 h423 => m_X12_route h423) (fun r424 h423 => ?_)
  refine q_icmp_eq (tgt := 2161) dL_law_1595 (by decide) (fun c425 => ?_) (fun c425 => ?_)
  · exact v_L_law_b2161 (hk18)
  · refine q_iconst (x := (0 : Int32)) dL_law_1598 rfl ?_
    exact q_zretL dL_law_1599 rfl (Or.inl rfl) rfl (Nat.le_of_ble_eq_true rfl) rfl
set_option maxRecDepth 20000 in
theorem v_L_law_b1554 {L : Nat} {xs : Nat → Int32} {kk18 : Int32 → q_Mem → Option (Int32 × q_Mem)} {M : q_Mem} {a1 : Nat} {a2 : Nat} {a3 : Int32}  (hk18 : ∀ (a3 : Int32) (M : q_Mem), q_V Y_L_law (some (L, xs)) (fun x : Int32 × q_Mem => (some (.int x.1), x.2)) 131 39214 18 [(0, .float 0), (1, .ref a1), (2, .ref a2), (3, .int a3)] [] M (kk18 a3 M)): q_V Y_L_law (some (L, xs)) (fun x : Int32 × q_Mem => (some (.int x.1), x.2)) 131 39214 1554 [(0, .float 0), (1, .ref a1), (2, .ref a2), (3, .int a3)] [] M (f_L_law_b1554 L xs kk18 M a1 a2 a3 ) := by
  unfold f_L_law_b1554
  refine q_aload_n 1 dL_law_1554 rfl ?_
  refine q_aload_s 0 dL_law_1555 rfl ?_
  refine q_iload_n 3 dL_law_1556 rfl ?_
  refine q_iconst (x := (1 : Int32)) dL_law_1557 rfl ?_
  refine q_iadd dL_law_1558 ?_
  refine q_sld rfl dL_law_1559 (fun h412 => ?_)
  refine q_cVMI (Y2 := Y_X11_sour) (As := [.int (xs (a3 + (1 : Int32)).toNatClampNeg)]) (b := a1) (st := []) cl_X11 mv_X11_sour qw_861 dL_law_1560 ⟨Nat.le_of_ble_eq_true rfl, Nat.le_of_ble_eq_true rfl⟩ rfl (fun _ _ => rfl) (Nat.le_of_ble_eq_true rfl) ⟨Nat.le_of_ble_eq_true rfl, Nat.le_of_ble_eq_true rfl⟩ (fun r414 h413 => q_ob_is h413) (fun r414 h413 => m_X11_sour h413) (fun r414 h413 => ?_)
  refine q_aload_n 2 dL_law_1563 rfl ?_
  refine q_aload_s 0 dL_law_1564 rfl ?_
  refine q_iload_n 3 dL_law_1565 rfl ?_
  refine q_iconst (x := (1 : Int32)) dL_law_1566 rfl ?_
  refine q_iadd dL_law_1567 ?_
  refine q_sld rfl dL_law_1568 (fun h415 => ?_)
  refine q_cVMI (Y2 := Y_X12_sour) (As := [.int (xs (a3 + (1 : Int32)).toNatClampNeg)]) (b := a2) (st := [.int r414.1]) cl_X12 mv_X12_sour qw_1540 dL_law_1569 ⟨Nat.le_of_ble_eq_true rfl, Nat.le_of_ble_eq_true rfl⟩ rfl (fun _ _ => rfl) (Nat.le_of_ble_eq_true rfl) ⟨Nat.le_of_ble_eq_true rfl, Nat.le_of_ble_eq_true rfl⟩ (fun r417 h416 => q_ob_is h416) (fun r417 h416 => m_X12_sour h416) (fun r417 h416 => ?_)
  refine q_icmp_eq (tgt := 2161) dL_law_1572 (by decide) (fun c418 => ?_) (fun c418 => ?_)
  · exact v_L_law_b2161 (hk18)
  · refine q_iconst (x := (0 : Int32)) dL_law_1575 rfl ?_
    exact q_zretL dL_law_1576 rfl (Or.inl rfl) rfl (Nat.le_of_ble_eq_true rfl) rfl
set_option maxRecDepth 20000 in
theorem v_L_law_b1511 {L : Nat} {xs : Nat → Int32} {kk18 : Int32 → q_Mem → Option (Int32 × q_Mem)} {M : q_Mem} {a1 : Nat} {a2 : Nat} {a3 : Int32}  (hk18 : ∀ (a3 : Int32) (M : q_Mem), q_V Y_L_law (some (L, xs)) (fun x : Int32 × q_Mem => (some (.int x.1), x.2)) 131 39214 18 [(0, .float 0), (1, .ref a1), (2, .ref a2), (3, .int a3)] [] M (kk18 a3 M)): q_V Y_L_law (some (L, xs)) (fun x : Int32 × q_Mem => (some (.int x.1), x.2)) 131 39214 1511 [(0, .float 0), (1, .ref a1), (2, .ref a2), (3, .int a3)] [] M (f_L_law_b1511 L xs kk18 M a1 a2 a3 ) := by
  unfold f_L_law_b1511
  refine q_aload_n 1 dL_law_1511 rfl ?_
  refine q_aload_s 0 dL_law_1512 rfl ?_
  refine q_iload_n 3 dL_law_1513 rfl ?_
  refine q_iconst (x := (1 : Int32)) dL_law_1514 rfl ?_
  refine q_iadd dL_law_1515 ?_
  refine q_sld rfl dL_law_1516 (fun h401 => ?_)
  refine q_aload_s 0 dL_law_1517 rfl ?_
  refine q_iload_n 3 dL_law_1518 rfl ?_
  refine q_iconst (x := (2 : Int32)) dL_law_1519 rfl ?_
  refine q_iadd dL_law_1520 ?_
  refine q_sld rfl dL_law_1521 (fun h402 => ?_)
  refine q_aload_s 0 dL_law_1522 rfl ?_
  refine q_iload_n 3 dL_law_1523 rfl ?_
  refine q_iconst (x := (3 : Int32)) dL_law_1524 rfl ?_
  refine q_iadd dL_law_1525 ?_
  refine q_sld rfl dL_law_1526 (fun h403 => ?_)
  refine q_cVMI (Y2 := Y_X11_watered) (As := [.int (xs (a3 + (1 : Int32)).toNatClampNeg), .int (xs (a3 + (2 : Int32)).toNatClampNeg), .int (xs (a3 + (3 : Int32)).toNatClampNeg)]) (b := a1) (st := []) cl_X11 mv_X11_watered qw_849 dL_law_1527 ⟨Nat.le_of_ble_eq_true rfl, Nat.le_of_ble_eq_true rfl⟩ rfl (fun _ _ => rfl) (Nat.le_of_ble_eq_true rfl) ⟨Nat.le_of_ble_eq_true rfl, Nat.le_of_ble_eq_true rfl⟩ (fun r405 h404 => q_ob_is h404) (fun r405 h404 => m_X11_watered h404) (fun r405 h404 => ?_)
  refine q_aload_n 2 dL_law_1530 rfl ?_
  refine q_aload_s 0 dL_law_1531 rfl ?_
  refine q_iload_n 3 dL_law_1532 rfl ?_
  refine q_iconst (x := (1 : Int32)) dL_law_1533 rfl ?_
  refine q_iadd dL_law_1534 ?_
  refine q_sld rfl dL_law_1535 (fun h406 => ?_)
  refine q_aload_s 0 dL_law_1536 rfl ?_
  refine q_iload_n 3 dL_law_1537 rfl ?_
  refine q_iconst (x := (2 : Int32)) dL_law_1538 rfl ?_
  refine q_iadd dL_law_1539 ?_
  refine q_sld rfl dL_law_1540 (fun h407 => ?_)
  refine q_aload_s 0 dL_law_1541 rfl ?_
  refine q_iload_n 3 dL_law_1542 rfl ?_
  refine q_iconst (x := (3 : Int32)) dL_law_1543 rfl ?_
  refine q_iadd dL_law_1544 ?_
  refine q_sld rfl dL_law_1545 (fun h408 => ?_)
  refine q_cVMI (Y2 := Y_X12_watered) (As := [.int (xs (a3 + (1 : Int32)).toNatClampNeg), .int (xs (a3 + (2 : Int32)).toNatClampNeg), .int (xs (a3 + (3 : Int32)).toNatClampNeg)]) (b := a2) (st := [.int r405.1]) cl_X12 mv_X12_watered qw_1536 dL_law_1546 ⟨Nat.le_of_ble_eq_true rfl, Nat.le_of_ble_eq_true rfl⟩ rfl (fun _ _ => rfl) (Nat.le_of_ble_eq_true rfl) ⟨Nat.le_of_ble_eq_true rfl, Nat.le_of_ble_eq_true rfl⟩ (fun r410 h409 => q_ob_is h409) (fun r410 h409 => m_X12_watered h409) (fun r410 h409 => ?_)
  refine q_icmp_eq (tgt := 2161) dL_law_1549 (by decide) (fun c411 => ?_) (fun c411 => ?_)
  · exact v_L_law_b2161 (hk18)
  · refine q_iconst (x := (0 : Int32)) dL_law_1552 rfl ?_
    exact q_zretL dL_law_1553 rfl (Or.inl rfl) rfl (Nat.le_of_ble_eq_true rfl) rfl
set_option maxRecDepth 20000 in
theorem v_L_law_b1467 {L : Nat} {xs : Nat → Int32} {kk18 : Int32 → q_Mem → Option (Int32 × q_Mem)} {M : q_Mem} {a1 : Nat} {a2 : Nat} {a3 : Int32}  (hk18 : ∀ (a3 : Int32) (M : q_Mem), q_V Y_L_law (some (L, xs)) (fun x : Int32 × q_Mem => (some (.int x.1), x.2)) 131 39214 18 [(0, .float 0), (1, .ref a1), (2, .ref a2), (3, .int a3)] [] M (kk18 a3 M)): q_V Y_L_law (some (L, xs)) (fun x : Int32 × q_Mem => (some (.int x.1), x.2)) 131 39214 1467 [(0, .float 0), (1, .ref a1), (2, .ref a2), (3, .int a3)] [] M (f_L_law_b1467 L xs kk18 M a1 a2 a3 ) := by
  unfold f_L_law_b1467
  refine q_aload_n 1 dL_law_1467 rfl ?_
  refine q_aload_s 0 dL_law_1468 rfl ?_
  refine q_iload_n 3 dL_law_1469 rfl ?_
  refine q_iconst (x := (1 : Int32)) dL_law_1470 rfl ?_
  refine q_iadd dL_law_1471 ?_
  refine q_sld rfl dL_law_1472 (fun h390 => ?_)
  refine q_aload_s 0 dL_law_1473 rfl ?_
  refine q_iload_n 3 dL_law_1474 rfl ?_
  refine q_iconst (x := (2 : Int32)) dL_law_1475 rfl ?_
  refine q_iadd dL_law_1476 ?_
  refine q_sld rfl dL_law_1477 (fun h391 => ?_)
  refine q_aload_s 0 dL_law_1478 rfl ?_
  refine q_iload_n 3 dL_law_1479 rfl ?_
  refine q_iconst (x := (3 : Int32)) dL_law_1480 rfl ?_
  refine q_iadd dL_law_1481 ?_
  refine q_sld rfl dL_law_1482 (fun h392 => ?_)
  refine q_cVMJ (Y2 := Y_X11_share) (As := [.int (xs (a3 + (1 : Int32)).toNatClampNeg), .int (xs (a3 + (2 : Int32)).toNatClampNeg), .int (xs (a3 + (3 : Int32)).toNatClampNeg)]) (b := a1) (st := []) cl_X11 mv_X11_share qw_845 dL_law_1483 ⟨Nat.le_of_ble_eq_true rfl, Nat.le_of_ble_eq_true rfl⟩ rfl (fun _ _ => rfl) (Nat.le_of_ble_eq_true rfl) ⟨Nat.le_of_ble_eq_true rfl, Nat.le_of_ble_eq_true rfl⟩ (fun r394 h393 => q_ob_is h393) (fun r394 h393 => m_X11_share h393) (fun r394 h393 => ?_)
  refine q_aload_n 2 dL_law_1486 rfl ?_
  refine q_aload_s 0 dL_law_1487 rfl ?_
  refine q_iload_n 3 dL_law_1488 rfl ?_
  refine q_iconst (x := (1 : Int32)) dL_law_1489 rfl ?_
  refine q_iadd dL_law_1490 ?_
  refine q_sld rfl dL_law_1491 (fun h395 => ?_)
  refine q_aload_s 0 dL_law_1492 rfl ?_
  refine q_iload_n 3 dL_law_1493 rfl ?_
  refine q_iconst (x := (2 : Int32)) dL_law_1494 rfl ?_
  refine q_iadd dL_law_1495 ?_
  refine q_sld rfl dL_law_1496 (fun h396 => ?_)
  refine q_aload_s 0 dL_law_1497 rfl ?_
  refine q_iload_n 3 dL_law_1498 rfl ?_
  refine q_iconst (x := (3 : Int32)) dL_law_1499 rfl ?_
  refine q_iadd dL_law_1500 ?_
  refine q_sld rfl dL_law_1501 (fun h397 => ?_)
  refine q_cVMJ (Y2 := Y_X12_share) (As := [.int (xs (a3 + (1 : Int32)).toNatClampNeg), .int (xs (a3 + (2 : Int32)).toNatClampNeg), .int (xs (a3 + (3 : Int32)).toNatClampNeg)]) (b := a2) (st := [.long r394.1]) cl_X12 mv_X12_share qw_1523 dL_law_1502 ⟨Nat.le_of_ble_eq_true rfl, Nat.le_of_ble_eq_true rfl⟩ rfl (fun _ _ => rfl) (Nat.le_of_ble_eq_true rfl) ⟨Nat.le_of_ble_eq_true rfl, Nat.le_of_ble_eq_true rfl⟩ (fun r399 h398 => q_ob_is h398) (fun r399 h398 => m_X12_share h398) (fun r399 h398 => ?_)
  refine q_lcmp_eq (tgt := 2161) dL_law_1505 dL_law_1506 (by decide) (fun c400 => ?_) (fun c400 => ?_)
  · exact v_L_law_b2161 (hk18)
  · refine q_iconst (x := (0 : Int32)) dL_law_1509 rfl ?_
    exact q_zretL dL_law_1510 rfl (Or.inl rfl) rfl (Nat.le_of_ble_eq_true rfl) rfl
set_option maxRecDepth 20000 in
theorem v_L_law_b1423 {L : Nat} {xs : Nat → Int32} {kk18 : Int32 → q_Mem → Option (Int32 × q_Mem)} {M : q_Mem} {a1 : Nat} {a2 : Nat} {a3 : Int32}  (hk18 : ∀ (a3 : Int32) (M : q_Mem), q_V Y_L_law (some (L, xs)) (fun x : Int32 × q_Mem => (some (.int x.1), x.2)) 131 39214 18 [(0, .float 0), (1, .ref a1), (2, .ref a2), (3, .int a3)] [] M (kk18 a3 M)): q_V Y_L_law (some (L, xs)) (fun x : Int32 × q_Mem => (some (.int x.1), x.2)) 131 39214 1423 [(0, .float 0), (1, .ref a1), (2, .ref a2), (3, .int a3)] [] M (f_L_law_b1423 L xs kk18 M a1 a2 a3 ) := by
  unfold f_L_law_b1423
  refine q_aload_n 1 dL_law_1423 rfl ?_
  refine q_aload_s 0 dL_law_1424 rfl ?_
  refine q_iload_n 3 dL_law_1425 rfl ?_
  refine q_iconst (x := (1 : Int32)) dL_law_1426 rfl ?_
  refine q_iadd dL_law_1427 ?_
  refine q_sld rfl dL_law_1428 (fun h379 => ?_)
  refine q_aload_s 0 dL_law_1429 rfl ?_
  refine q_iload_n 3 dL_law_1430 rfl ?_
  refine q_iconst (x := (2 : Int32)) dL_law_1431 rfl ?_
  refine q_iadd dL_law_1432 ?_
  refine q_sld rfl dL_law_1433 (fun h380 => ?_)
  refine q_aload_s 0 dL_law_1434 rfl ?_
  refine q_iload_n 3 dL_law_1435 rfl ?_
  refine q_iconst (x := (3 : Int32)) dL_law_1436 rfl ?_
  refine q_iadd dL_law_1437 ?_
  refine q_sld rfl dL_law_1438 (fun h381 => ?_)
  refine q_cVMJ (Y2 := Y_X11_pay) (As := [.int (xs (a3 + (1 : Int32)).toNatClampNeg), .int (xs (a3 + (2 : Int32)).toNatClampNeg), .int (xs (a3 + (3 : Int32)).toNatClampNeg)]) (b := a1) (st := []) cl_X11 mv_X11_pay qw_821 dL_law_1439 ⟨Nat.le_of_ble_eq_true rfl, Nat.le_of_ble_eq_true rfl⟩ rfl (fun _ _ => rfl) (Nat.le_of_ble_eq_true rfl) ⟨Nat.le_of_ble_eq_true rfl, Nat.le_of_ble_eq_true rfl⟩ (fun r383 h382 => q_ob_is h382) (fun r383 h382 => m_X11_pay h382) (fun r383 h382 => ?_)
  refine q_aload_n 2 dL_law_1442 rfl ?_
  refine q_aload_s 0 dL_law_1443 rfl ?_
  refine q_iload_n 3 dL_law_1444 rfl ?_
  refine q_iconst (x := (1 : Int32)) dL_law_1445 rfl ?_
  refine q_iadd dL_law_1446 ?_
  refine q_sld rfl dL_law_1447 (fun h384 => ?_)
  refine q_aload_s 0 dL_law_1448 rfl ?_
  refine q_iload_n 3 dL_law_1449 rfl ?_
  refine q_iconst (x := (2 : Int32)) dL_law_1450 rfl ?_
  refine q_iadd dL_law_1451 ?_
  refine q_sld rfl dL_law_1452 (fun h385 => ?_)
  refine q_aload_s 0 dL_law_1453 rfl ?_
  refine q_iload_n 3 dL_law_1454 rfl ?_
  refine q_iconst (x := (3 : Int32)) dL_law_1455 rfl ?_
  refine q_iadd dL_law_1456 ?_
  refine q_sld rfl dL_law_1457 (fun h386 => ?_)
  refine q_cVMJ (Y2 := Y_X12_pay) (As := [.int (xs (a3 + (1 : Int32)).toNatClampNeg), .int (xs (a3 + (2 : Int32)).toNatClampNeg), .int (xs (a3 + (3 : Int32)).toNatClampNeg)]) (b := a2) (st := [.long r383.1]) cl_X12 mv_X12_pay qw_1532 dL_law_1458 ⟨Nat.le_of_ble_eq_true rfl, Nat.le_of_ble_eq_true rfl⟩ rfl (fun _ _ => rfl) (Nat.le_of_ble_eq_true rfl) ⟨Nat.le_of_ble_eq_true rfl, Nat.le_of_ble_eq_true rfl⟩ (fun r388 h387 => q_ob_is h387) (fun r388 h387 => m_X12_pay h387) (fun r388 h387 => ?_)
  refine q_lcmp_eq (tgt := 2161) dL_law_1461 dL_law_1462 (by decide) (fun c389 => ?_) (fun c389 => ?_)
  · exact v_L_law_b2161 (hk18)
  · refine q_iconst (x := (0 : Int32)) dL_law_1465 rfl ?_
    exact q_zretL dL_law_1466 rfl (Or.inl rfl) rfl (Nat.le_of_ble_eq_true rfl) rfl
set_option maxRecDepth 20000 in
theorem v_L_law_b1389 {L : Nat} {xs : Nat → Int32} {kk18 : Int32 → q_Mem → Option (Int32 × q_Mem)} {M : q_Mem} {a1 : Nat} {a2 : Nat} {a3 : Int32}  (hk18 : ∀ (a3 : Int32) (M : q_Mem), q_V Y_L_law (some (L, xs)) (fun x : Int32 × q_Mem => (some (.int x.1), x.2)) 131 39214 18 [(0, .float 0), (1, .ref a1), (2, .ref a2), (3, .int a3)] [] M (kk18 a3 M)): q_V Y_L_law (some (L, xs)) (fun x : Int32 × q_Mem => (some (.int x.1), x.2)) 131 39214 1389 [(0, .float 0), (1, .ref a1), (2, .ref a2), (3, .int a3)] [] M (f_L_law_b1389 L xs kk18 M a1 a2 a3 ) := by
  unfold f_L_law_b1389
  refine q_aload_n 1 dL_law_1389 rfl ?_
  refine q_aload_s 0 dL_law_1390 rfl ?_
  refine q_iload_n 3 dL_law_1391 rfl ?_
  refine q_iconst (x := (1 : Int32)) dL_law_1392 rfl ?_
  refine q_iadd dL_law_1393 ?_
  refine q_sld rfl dL_law_1394 (fun h370 => ?_)
  refine q_aload_s 0 dL_law_1395 rfl ?_
  refine q_iload_n 3 dL_law_1396 rfl ?_
  refine q_iconst (x := (2 : Int32)) dL_law_1397 rfl ?_
  refine q_iadd dL_law_1398 ?_
  refine q_sld rfl dL_law_1399 (fun h371 => ?_)
  refine q_cVJ (Y2 := Y_X11_money) (As := [.int (xs (a3 + (1 : Int32)).toNatClampNeg), .int (xs (a3 + (2 : Int32)).toNatClampNeg)]) (b := a1) (st := []) cl_X11 mv_X11_money qw_813 dL_law_1400 ⟨Nat.le_of_ble_eq_true rfl, Nat.le_of_ble_eq_true rfl⟩ rfl (fun _ _ => rfl) (Nat.le_of_ble_eq_true rfl) ⟨Nat.le_of_ble_eq_true rfl, Nat.le_of_ble_eq_true rfl⟩ (fun v373 h372 => q_ob_is h372) (fun v373 h372 => m_X11_money h372) (fun v373 h372 => ?_)
  refine q_aload_n 2 dL_law_1403 rfl ?_
  refine q_aload_s 0 dL_law_1404 rfl ?_
  refine q_iload_n 3 dL_law_1405 rfl ?_
  refine q_iconst (x := (1 : Int32)) dL_law_1406 rfl ?_
  refine q_iadd dL_law_1407 ?_
  refine q_sld rfl dL_law_1408 (fun h374 => ?_)
  refine q_aload_s 0 dL_law_1409 rfl ?_
  refine q_iload_n 3 dL_law_1410 rfl ?_
  refine q_iconst (x := (2 : Int32)) dL_law_1411 rfl ?_
  refine q_iadd dL_law_1412 ?_
  refine q_sld rfl dL_law_1413 (fun h375 => ?_)
  refine q_cVJ (Y2 := Y_X12_money) (As := [.int (xs (a3 + (1 : Int32)).toNatClampNeg), .int (xs (a3 + (2 : Int32)).toNatClampNeg)]) (b := a2) (st := [.long v373]) cl_X12 mv_X12_money qw_1515 dL_law_1414 ⟨Nat.le_of_ble_eq_true rfl, Nat.le_of_ble_eq_true rfl⟩ rfl (fun _ _ => rfl) (Nat.le_of_ble_eq_true rfl) ⟨Nat.le_of_ble_eq_true rfl, Nat.le_of_ble_eq_true rfl⟩ (fun v377 h376 => q_ob_is h376) (fun v377 h376 => m_X12_money h376) (fun v377 h376 => ?_)
  refine q_lcmp_eq (tgt := 2161) dL_law_1417 dL_law_1418 (by decide) (fun c378 => ?_) (fun c378 => ?_)
  · exact v_L_law_b2161 (hk18)
  · refine q_iconst (x := (0 : Int32)) dL_law_1421 rfl ?_
    exact q_zretL dL_law_1422 rfl (Or.inl rfl) rfl (Nat.le_of_ble_eq_true rfl) rfl
set_option maxRecDepth 20000 in
theorem v_L_law_b1366 {L : Nat} {xs : Nat → Int32} {kk18 : Int32 → q_Mem → Option (Int32 × q_Mem)} {M : q_Mem} {a1 : Nat} {a2 : Nat} {a3 : Int32}  (hk18 : ∀ (a3 : Int32) (M : q_Mem), q_V Y_L_law (some (L, xs)) (fun x : Int32 × q_Mem => (some (.int x.1), x.2)) 131 39214 18 [(0, .float 0), (1, .ref a1), (2, .ref a2), (3, .int a3)] [] M (kk18 a3 M)): q_V Y_L_law (some (L, xs)) (fun x : Int32 × q_Mem => (some (.int x.1), x.2)) 131 39214 1366 [(0, .float 0), (1, .ref a1), (2, .ref a2), (3, .int a3)] [] M (f_L_law_b1366 L xs kk18 M a1 a2 a3 ) := by
  unfold f_L_law_b1366
  refine q_aload_n 1 dL_law_1366 rfl ?_
  refine q_aload_s 0 dL_law_1367 rfl ?_
  refine q_iload_n 3 dL_law_1368 rfl ?_
  refine q_iconst (x := (1 : Int32)) dL_law_1369 rfl ?_
  refine q_iadd dL_law_1370 ?_
  refine q_sld rfl dL_law_1371 (fun h363 => ?_)
  refine q_cVI (Y2 := Y_X11_force) (As := [.int (xs (a3 + (1 : Int32)).toNatClampNeg)]) (b := a1) (st := []) cl_X11 mv_X11_force qw_805 dL_law_1372 ⟨Nat.le_of_ble_eq_true rfl, Nat.le_of_ble_eq_true rfl⟩ rfl (fun _ _ => rfl) (Nat.le_of_ble_eq_true rfl) ⟨Nat.le_of_ble_eq_true rfl, Nat.le_of_ble_eq_true rfl⟩ (fun v365 h364 => q_ob_is h364) (fun v365 h364 => m_X11_force h364) (fun v365 h364 => ?_)
  refine q_aload_n 2 dL_law_1375 rfl ?_
  refine q_aload_s 0 dL_law_1376 rfl ?_
  refine q_iload_n 3 dL_law_1377 rfl ?_
  refine q_iconst (x := (1 : Int32)) dL_law_1378 rfl ?_
  refine q_iadd dL_law_1379 ?_
  refine q_sld rfl dL_law_1380 (fun h366 => ?_)
  refine q_cVI (Y2 := Y_X12_force) (As := [.int (xs (a3 + (1 : Int32)).toNatClampNeg)]) (b := a2) (st := [.int v365]) cl_X12 mv_X12_force qw_1507 dL_law_1381 ⟨Nat.le_of_ble_eq_true rfl, Nat.le_of_ble_eq_true rfl⟩ rfl (fun _ _ => rfl) (Nat.le_of_ble_eq_true rfl) ⟨Nat.le_of_ble_eq_true rfl, Nat.le_of_ble_eq_true rfl⟩ (fun v368 h367 => q_ob_is h367) (fun v368 h367 => m_X12_force h367) (fun v368 h367 => ?_)
  refine q_icmp_eq (tgt := 2161) dL_law_1384 (by decide) (fun c369 => ?_) (fun c369 => ?_)
  · exact v_L_law_b2161 (hk18)
  · refine q_iconst (x := (0 : Int32)) dL_law_1387 rfl ?_
    exact q_zretL dL_law_1388 rfl (Or.inl rfl) rfl (Nat.le_of_ble_eq_true rfl) rfl
set_option maxRecDepth 20000 in
theorem v_L_law_b1333 {L : Nat} {xs : Nat → Int32} {kk18 : Int32 → q_Mem → Option (Int32 × q_Mem)} {M : q_Mem} {a1 : Nat} {a2 : Nat} {a3 : Int32}  (hk18 : ∀ (a3 : Int32) (M : q_Mem), q_V Y_L_law (some (L, xs)) (fun x : Int32 × q_Mem => (some (.int x.1), x.2)) 131 39214 18 [(0, .float 0), (1, .ref a1), (2, .ref a2), (3, .int a3)] [] M (kk18 a3 M)): q_V Y_L_law (some (L, xs)) (fun x : Int32 × q_Mem => (some (.int x.1), x.2)) 131 39214 1333 [(0, .float 0), (1, .ref a1), (2, .ref a2), (3, .int a3)] [] M (f_L_law_b1333 L xs kk18 M a1 a2 a3 ) := by
  unfold f_L_law_b1333
  refine q_aload_n 1 dL_law_1333 rfl ?_
  refine q_aload_s 0 dL_law_1334 rfl ?_
  refine q_iload_n 3 dL_law_1335 rfl ?_
  refine q_iconst (x := (1 : Int32)) dL_law_1336 rfl ?_
  refine q_iadd dL_law_1337 ?_
  refine q_sld rfl dL_law_1338 (fun h354 => ?_)
  refine q_aload_s 0 dL_law_1339 rfl ?_
  refine q_iload_n 3 dL_law_1340 rfl ?_
  refine q_iconst (x := (2 : Int32)) dL_law_1341 rfl ?_
  refine q_iadd dL_law_1342 ?_
  refine q_sld rfl dL_law_1343 (fun h355 => ?_)
  refine q_cVI (Y2 := Y_X11_motionAt) (As := [.int (xs (a3 + (1 : Int32)).toNatClampNeg), .int (xs (a3 + (2 : Int32)).toNatClampNeg)]) (b := a1) (st := []) cl_X11 mv_X11_motionAt qw_788 dL_law_1344 ⟨Nat.le_of_ble_eq_true rfl, Nat.le_of_ble_eq_true rfl⟩ rfl (fun _ _ => rfl) (Nat.le_of_ble_eq_true rfl) ⟨Nat.le_of_ble_eq_true rfl, Nat.le_of_ble_eq_true rfl⟩ (fun v357 h356 => q_ob_is h356) (fun v357 h356 => m_X11_motionAt h356) (fun v357 h356 => ?_)
  refine q_aload_n 2 dL_law_1347 rfl ?_
  refine q_aload_s 0 dL_law_1348 rfl ?_
  refine q_iload_n 3 dL_law_1349 rfl ?_
  refine q_iconst (x := (1 : Int32)) dL_law_1350 rfl ?_
  refine q_iadd dL_law_1351 ?_
  refine q_sld rfl dL_law_1352 (fun h358 => ?_)
  refine q_aload_s 0 dL_law_1353 rfl ?_
  refine q_iload_n 3 dL_law_1354 rfl ?_
  refine q_iconst (x := (2 : Int32)) dL_law_1355 rfl ?_
  refine q_iadd dL_law_1356 ?_
  refine q_sld rfl dL_law_1357 (fun h359 => ?_)
  refine q_cVI (Y2 := Y_X12_motionAt) (As := [.int (xs (a3 + (1 : Int32)).toNatClampNeg), .int (xs (a3 + (2 : Int32)).toNatClampNeg)]) (b := a2) (st := [.int v357]) cl_X12 mv_X12_motionAt qw_1491 dL_law_1358 ⟨Nat.le_of_ble_eq_true rfl, Nat.le_of_ble_eq_true rfl⟩ rfl (fun _ _ => rfl) (Nat.le_of_ble_eq_true rfl) ⟨Nat.le_of_ble_eq_true rfl, Nat.le_of_ble_eq_true rfl⟩ (fun v361 h360 => q_ob_is h360) (fun v361 h360 => m_X12_motionAt h360) (fun v361 h360 => ?_)
  refine q_icmp_eq (tgt := 2161) dL_law_1361 (by decide) (fun c362 => ?_) (fun c362 => ?_)
  · exact v_L_law_b2161 (hk18)
  · refine q_iconst (x := (0 : Int32)) dL_law_1364 rfl ?_
    exact q_zretL dL_law_1365 rfl (Or.inl rfl) rfl (Nat.le_of_ble_eq_true rfl) rfl
set_option maxRecDepth 20000 in
theorem v_L_law_b1325 {L : Nat} {xs : Nat → Int32} {kk18 : Int32 → q_Mem → Option (Int32 × q_Mem)} {M : q_Mem} {a1 : Nat} {a2 : Nat} {a3 : Int32} {s0 : Int32} {s1 : Nat} {s2 : Int32} {s3 : Int32}  (hk18 : ∀ (a3 : Int32) (M : q_Mem), q_V Y_L_law (some (L, xs)) (fun x : Int32 × q_Mem => (some (.int x.1), x.2)) 131 39214 18 [(0, .float 0), (1, .ref a1), (2, .ref a2), (3, .int a3)] [] M (kk18 a3 M)): q_V Y_L_law (some (L, xs)) (fun x : Int32 × q_Mem => (some (.int x.1), x.2)) 131 39214 1325 [(0, .float 0), (1, .ref a1), (2, .ref a2), (3, .int a3)] [.int s3, .int s2, .ref s1, .int s0] M (f_L_law_b1325 L xs kk18 M a1 a2 a3 s0 s1 s2 s3) := by
  unfold f_L_law_b1325
  refine q_cVMI (Y2 := Y_X12_tear) (As := [.int s2, .int s3]) (b := s1) (st := [.int s0]) cl_X12 mv_X12_tear qw_1487 dL_law_1325 ⟨Nat.le_of_ble_eq_true rfl, Nat.le_of_ble_eq_true rfl⟩ rfl (fun _ _ => rfl) (Nat.le_of_ble_eq_true rfl) ⟨Nat.le_of_ble_eq_true rfl, Nat.le_of_ble_eq_true rfl⟩ (fun r617 h616 => q_ob_is h616) (fun r617 h616 => m_X12_tear h616) (fun r617 h616 => ?_)
  refine q_icmp_eq (tgt := 2161) dL_law_1328 (by decide) (fun c618 => ?_) (fun c618 => ?_)
  · exact v_L_law_b2161 (hk18)
  · refine q_iconst (x := (0 : Int32)) dL_law_1331 rfl ?_
    exact q_zretL dL_law_1332 rfl (Or.inl rfl) rfl (Nat.le_of_ble_eq_true rfl) rfl
set_option maxRecDepth 20000 in
theorem v_L_law_b1303 {L : Nat} {xs : Nat → Int32} {kk18 : Int32 → q_Mem → Option (Int32 × q_Mem)} {M : q_Mem} {a1 : Nat} {a2 : Nat} {a3 : Int32} {s0 : Nat} {s1 : Int32} {s2 : Int32}  (hk18 : ∀ (a3 : Int32) (M : q_Mem), q_V Y_L_law (some (L, xs)) (fun x : Int32 × q_Mem => (some (.int x.1), x.2)) 131 39214 18 [(0, .float 0), (1, .ref a1), (2, .ref a2), (3, .int a3)] [] M (kk18 a3 M)): q_V Y_L_law (some (L, xs)) (fun x : Int32 × q_Mem => (some (.int x.1), x.2)) 131 39214 1303 [(0, .float 0), (1, .ref a1), (2, .ref a2), (3, .int a3)] [.int s2, .int s1, .ref s0] M (f_L_law_b1303 L xs kk18 M a1 a2 a3 s0 s1 s2) := by
  unfold f_L_law_b1303
  refine q_cVMI (Y2 := Y_X11_tear) (As := [.int s1, .int s2]) (b := s0) (st := []) cl_X11 mv_X11_tear qw_784 dL_law_1303 ⟨Nat.le_of_ble_eq_true rfl, Nat.le_of_ble_eq_true rfl⟩ rfl (fun _ _ => rfl) (Nat.le_of_ble_eq_true rfl) ⟨Nat.le_of_ble_eq_true rfl, Nat.le_of_ble_eq_true rfl⟩ (fun r603 h602 => q_ob_is h602) (fun r603 h602 => m_X11_tear h602) (fun r603 h602 => ?_)
  refine q_aload_n 2 dL_law_1306 rfl ?_
  refine q_aload_s 0 dL_law_1307 rfl ?_
  refine q_iload_n 3 dL_law_1308 rfl ?_
  refine q_iconst (x := (1 : Int32)) dL_law_1309 rfl ?_
  refine q_iadd dL_law_1310 ?_
  refine q_sld rfl dL_law_1311 (fun h604 => ?_)
  refine q_aload_s 0 dL_law_1312 rfl ?_
  refine q_iload_n 3 dL_law_1313 rfl ?_
  refine q_iconst (x := (2 : Int32)) dL_law_1314 rfl ?_
  refine q_iadd dL_law_1315 ?_
  refine q_sld rfl dL_law_1316 (fun h605 => ?_)
  refine q_if_eq (tgt := 1324) dL_law_1317 (by decide) (fun c606 => ?_) (fun c606 => ?_)
  · refine q_iconst (x := (0 : Int32)) dL_law_1324 rfl ?_
    exact v_L_law_b1325 (hk18)
  · refine q_iconst (x := (1 : Int32)) dL_law_1320 rfl ?_
    refine q_goto (tgt := 1325) dL_law_1321 (by decide) ?_
    exact v_L_law_b1325 (hk18)
set_option maxRecDepth 20000 in
theorem v_L_law_b1284 {L : Nat} {xs : Nat → Int32} {kk18 : Int32 → q_Mem → Option (Int32 × q_Mem)} {M : q_Mem} {a1 : Nat} {a2 : Nat} {a3 : Int32}  (hk18 : ∀ (a3 : Int32) (M : q_Mem), q_V Y_L_law (some (L, xs)) (fun x : Int32 × q_Mem => (some (.int x.1), x.2)) 131 39214 18 [(0, .float 0), (1, .ref a1), (2, .ref a2), (3, .int a3)] [] M (kk18 a3 M)): q_V Y_L_law (some (L, xs)) (fun x : Int32 × q_Mem => (some (.int x.1), x.2)) 131 39214 1284 [(0, .float 0), (1, .ref a1), (2, .ref a2), (3, .int a3)] [] M (f_L_law_b1284 L xs kk18 M a1 a2 a3 ) := by
  unfold f_L_law_b1284
  refine q_aload_n 1 dL_law_1284 rfl ?_
  refine q_aload_s 0 dL_law_1285 rfl ?_
  refine q_iload_n 3 dL_law_1286 rfl ?_
  refine q_iconst (x := (1 : Int32)) dL_law_1287 rfl ?_
  refine q_iadd dL_law_1288 ?_
  refine q_sld rfl dL_law_1289 (fun h351 => ?_)
  refine q_aload_s 0 dL_law_1290 rfl ?_
  refine q_iload_n 3 dL_law_1291 rfl ?_
  refine q_iconst (x := (2 : Int32)) dL_law_1292 rfl ?_
  refine q_iadd dL_law_1293 ?_
  refine q_sld rfl dL_law_1294 (fun h352 => ?_)
  refine q_if_eq (tgt := 1302) dL_law_1295 (by decide) (fun c353 => ?_) (fun c353 => ?_)
  · refine q_iconst (x := (0 : Int32)) dL_law_1302 rfl ?_
    exact v_L_law_b1303 (hk18)
  · refine q_iconst (x := (1 : Int32)) dL_law_1298 rfl ?_
    refine q_goto (tgt := 1303) dL_law_1299 (by decide) ?_
    exact v_L_law_b1303 (hk18)
set_option maxRecDepth 20000 in
theorem v_L_law_b1241 {L : Nat} {xs : Nat → Int32} {kk18 : Int32 → q_Mem → Option (Int32 × q_Mem)} {M : q_Mem} {a1 : Nat} {a2 : Nat} {a3 : Int32}  (hk18 : ∀ (a3 : Int32) (M : q_Mem), q_V Y_L_law (some (L, xs)) (fun x : Int32 × q_Mem => (some (.int x.1), x.2)) 131 39214 18 [(0, .float 0), (1, .ref a1), (2, .ref a2), (3, .int a3)] [] M (kk18 a3 M)): q_V Y_L_law (some (L, xs)) (fun x : Int32 × q_Mem => (some (.int x.1), x.2)) 131 39214 1241 [(0, .float 0), (1, .ref a1), (2, .ref a2), (3, .int a3)] [] M (f_L_law_b1241 L xs kk18 M a1 a2 a3 ) := by
  unfold f_L_law_b1241
  refine q_aload_n 1 dL_law_1241 rfl ?_
  refine q_aload_s 0 dL_law_1242 rfl ?_
  refine q_iload_n 3 dL_law_1243 rfl ?_
  refine q_iconst (x := (1 : Int32)) dL_law_1244 rfl ?_
  refine q_iadd dL_law_1245 ?_
  refine q_sld rfl dL_law_1246 (fun h340 => ?_)
  refine q_aload_s 0 dL_law_1247 rfl ?_
  refine q_iload_n 3 dL_law_1248 rfl ?_
  refine q_iconst (x := (2 : Int32)) dL_law_1249 rfl ?_
  refine q_iadd dL_law_1250 ?_
  refine q_sld rfl dL_law_1251 (fun h341 => ?_)
  refine q_aload_s 0 dL_law_1252 rfl ?_
  refine q_iload_n 3 dL_law_1253 rfl ?_
  refine q_iconst (x := (3 : Int32)) dL_law_1254 rfl ?_
  refine q_iadd dL_law_1255 ?_
  refine q_sld rfl dL_law_1256 (fun h342 => ?_)
  refine q_cVMI (Y2 := Y_X11_vote) (As := [.int (xs (a3 + (1 : Int32)).toNatClampNeg), .int (xs (a3 + (2 : Int32)).toNatClampNeg), .int (xs (a3 + (3 : Int32)).toNatClampNeg)]) (b := a1) (st := []) cl_X11 mv_X11_vote qw_780 dL_law_1257 ⟨Nat.le_of_ble_eq_true rfl, Nat.le_of_ble_eq_true rfl⟩ rfl (fun _ _ => rfl) (Nat.le_of_ble_eq_true rfl) ⟨Nat.le_of_ble_eq_true rfl, Nat.le_of_ble_eq_true rfl⟩ (fun r344 h343 => q_ob_is h343) (fun r344 h343 => m_X11_vote h343) (fun r344 h343 => ?_)
  refine q_aload_n 2 dL_law_1260 rfl ?_
  refine q_aload_s 0 dL_law_1261 rfl ?_
  refine q_iload_n 3 dL_law_1262 rfl ?_
  refine q_iconst (x := (1 : Int32)) dL_law_1263 rfl ?_
  refine q_iadd dL_law_1264 ?_
  refine q_sld rfl dL_law_1265 (fun h345 => ?_)
  refine q_aload_s 0 dL_law_1266 rfl ?_
  refine q_iload_n 3 dL_law_1267 rfl ?_
  refine q_iconst (x := (2 : Int32)) dL_law_1268 rfl ?_
  refine q_iadd dL_law_1269 ?_
  refine q_sld rfl dL_law_1270 (fun h346 => ?_)
  refine q_aload_s 0 dL_law_1271 rfl ?_
  refine q_iload_n 3 dL_law_1272 rfl ?_
  refine q_iconst (x := (3 : Int32)) dL_law_1273 rfl ?_
  refine q_iadd dL_law_1274 ?_
  refine q_sld rfl dL_law_1275 (fun h347 => ?_)
  refine q_cVMI (Y2 := Y_X12_vote) (As := [.int (xs (a3 + (1 : Int32)).toNatClampNeg), .int (xs (a3 + (2 : Int32)).toNatClampNeg), .int (xs (a3 + (3 : Int32)).toNatClampNeg)]) (b := a2) (st := [.int r344.1]) cl_X12 mv_X12_vote qw_1483 dL_law_1276 ⟨Nat.le_of_ble_eq_true rfl, Nat.le_of_ble_eq_true rfl⟩ rfl (fun _ _ => rfl) (Nat.le_of_ble_eq_true rfl) ⟨Nat.le_of_ble_eq_true rfl, Nat.le_of_ble_eq_true rfl⟩ (fun r349 h348 => q_ob_is h348) (fun r349 h348 => m_X12_vote h348) (fun r349 h348 => ?_)
  refine q_icmp_eq (tgt := 2161) dL_law_1279 (by decide) (fun c350 => ?_) (fun c350 => ?_)
  · exact v_L_law_b2161 (hk18)
  · refine q_iconst (x := (0 : Int32)) dL_law_1282 rfl ?_
    exact q_zretL dL_law_1283 rfl (Or.inl rfl) rfl (Nat.le_of_ble_eq_true rfl) rfl
set_option maxRecDepth 20000 in
theorem v_L_law_b1233 {L : Nat} {xs : Nat → Int32} {kk18 : Int32 → q_Mem → Option (Int32 × q_Mem)} {M : q_Mem} {a1 : Nat} {a2 : Nat} {a3 : Int32} {s0 : Int32} {s1 : Nat} {s2 : Int32} {s3 : Int32} {s4 : Int32}  (hk18 : ∀ (a3 : Int32) (M : q_Mem), q_V Y_L_law (some (L, xs)) (fun x : Int32 × q_Mem => (some (.int x.1), x.2)) 131 39214 18 [(0, .float 0), (1, .ref a1), (2, .ref a2), (3, .int a3)] [] M (kk18 a3 M)): q_V Y_L_law (some (L, xs)) (fun x : Int32 × q_Mem => (some (.int x.1), x.2)) 131 39214 1233 [(0, .float 0), (1, .ref a1), (2, .ref a2), (3, .int a3)] [.int s4, .int s3, .int s2, .ref s1, .int s0] M (f_L_law_b1233 L xs kk18 M a1 a2 a3 s0 s1 s2 s3 s4) := by
  unfold f_L_law_b1233
  refine q_cVMI (Y2 := Y_X12_motion) (As := [.int s2, .int s3, .int s4]) (b := s1) (st := [.int s0]) cl_X12 mv_X12_motion qw_1479 dL_law_1233 ⟨Nat.le_of_ble_eq_true rfl, Nat.le_of_ble_eq_true rfl⟩ rfl (fun _ _ => rfl) (Nat.le_of_ble_eq_true rfl) ⟨Nat.le_of_ble_eq_true rfl, Nat.le_of_ble_eq_true rfl⟩ (fun r614 h613 => q_ob_is h613) (fun r614 h613 => m_X12_motion h613) (fun r614 h613 => ?_)
  refine q_icmp_eq (tgt := 2161) dL_law_1236 (by decide) (fun c615 => ?_) (fun c615 => ?_)
  · exact v_L_law_b2161 (hk18)
  · refine q_iconst (x := (0 : Int32)) dL_law_1239 rfl ?_
    exact q_zretL dL_law_1240 rfl (Or.inl rfl) rfl (Nat.le_of_ble_eq_true rfl) rfl
set_option maxRecDepth 20000 in
theorem v_L_law_b1206 {L : Nat} {xs : Nat → Int32} {kk18 : Int32 → q_Mem → Option (Int32 × q_Mem)} {M : q_Mem} {a1 : Nat} {a2 : Nat} {a3 : Int32} {s0 : Nat} {s1 : Int32} {s2 : Int32} {s3 : Int32}  (hk18 : ∀ (a3 : Int32) (M : q_Mem), q_V Y_L_law (some (L, xs)) (fun x : Int32 × q_Mem => (some (.int x.1), x.2)) 131 39214 18 [(0, .float 0), (1, .ref a1), (2, .ref a2), (3, .int a3)] [] M (kk18 a3 M)): q_V Y_L_law (some (L, xs)) (fun x : Int32 × q_Mem => (some (.int x.1), x.2)) 131 39214 1206 [(0, .float 0), (1, .ref a1), (2, .ref a2), (3, .int a3)] [.int s3, .int s2, .int s1, .ref s0] M (f_L_law_b1206 L xs kk18 M a1 a2 a3 s0 s1 s2 s3) := by
  unfold f_L_law_b1206
  refine q_cVMI (Y2 := Y_X11_motion) (As := [.int s1, .int s2, .int s3]) (b := s0) (st := []) cl_X11 mv_X11_motion qw_769 dL_law_1206 ⟨Nat.le_of_ble_eq_true rfl, Nat.le_of_ble_eq_true rfl⟩ rfl (fun _ _ => rfl) (Nat.le_of_ble_eq_true rfl) ⟨Nat.le_of_ble_eq_true rfl, Nat.le_of_ble_eq_true rfl⟩ (fun r597 h596 => q_ob_is h596) (fun r597 h596 => m_X11_motion h596) (fun r597 h596 => ?_)
  refine q_aload_n 2 dL_law_1209 rfl ?_
  refine q_aload_s 0 dL_law_1210 rfl ?_
  refine q_iload_n 3 dL_law_1211 rfl ?_
  refine q_iconst (x := (1 : Int32)) dL_law_1212 rfl ?_
  refine q_iadd dL_law_1213 ?_
  refine q_sld rfl dL_law_1214 (fun h598 => ?_)
  refine q_aload_s 0 dL_law_1215 rfl ?_
  refine q_iload_n 3 dL_law_1216 rfl ?_
  refine q_iconst (x := (2 : Int32)) dL_law_1217 rfl ?_
  refine q_iadd dL_law_1218 ?_
  refine q_sld rfl dL_law_1219 (fun h599 => ?_)
  refine q_aload_s 0 dL_law_1220 rfl ?_
  refine q_iload_n 3 dL_law_1221 rfl ?_
  refine q_iconst (x := (3 : Int32)) dL_law_1222 rfl ?_
  refine q_iadd dL_law_1223 ?_
  refine q_sld rfl dL_law_1224 (fun h600 => ?_)
  refine q_if_eq (tgt := 1232) dL_law_1225 (by decide) (fun c601 => ?_) (fun c601 => ?_)
  · refine q_iconst (x := (0 : Int32)) dL_law_1232 rfl ?_
    exact v_L_law_b1233 (hk18)
  · refine q_iconst (x := (1 : Int32)) dL_law_1228 rfl ?_
    refine q_goto (tgt := 1233) dL_law_1229 (by decide) ?_
    exact v_L_law_b1233 (hk18)
set_option maxRecDepth 20000 in
theorem v_L_law_b1182 {L : Nat} {xs : Nat → Int32} {kk18 : Int32 → q_Mem → Option (Int32 × q_Mem)} {M : q_Mem} {a1 : Nat} {a2 : Nat} {a3 : Int32}  (hk18 : ∀ (a3 : Int32) (M : q_Mem), q_V Y_L_law (some (L, xs)) (fun x : Int32 × q_Mem => (some (.int x.1), x.2)) 131 39214 18 [(0, .float 0), (1, .ref a1), (2, .ref a2), (3, .int a3)] [] M (kk18 a3 M)): q_V Y_L_law (some (L, xs)) (fun x : Int32 × q_Mem => (some (.int x.1), x.2)) 131 39214 1182 [(0, .float 0), (1, .ref a1), (2, .ref a2), (3, .int a3)] [] M (f_L_law_b1182 L xs kk18 M a1 a2 a3 ) := by
  unfold f_L_law_b1182
  refine q_aload_n 1 dL_law_1182 rfl ?_
  refine q_aload_s 0 dL_law_1183 rfl ?_
  refine q_iload_n 3 dL_law_1184 rfl ?_
  refine q_iconst (x := (1 : Int32)) dL_law_1185 rfl ?_
  refine q_iadd dL_law_1186 ?_
  refine q_sld rfl dL_law_1187 (fun h336 => ?_)
  refine q_aload_s 0 dL_law_1188 rfl ?_
  refine q_iload_n 3 dL_law_1189 rfl ?_
  refine q_iconst (x := (2 : Int32)) dL_law_1190 rfl ?_
  refine q_iadd dL_law_1191 ?_
  refine q_sld rfl dL_law_1192 (fun h337 => ?_)
  refine q_aload_s 0 dL_law_1193 rfl ?_
  refine q_iload_n 3 dL_law_1194 rfl ?_
  refine q_iconst (x := (3 : Int32)) dL_law_1195 rfl ?_
  refine q_iadd dL_law_1196 ?_
  refine q_sld rfl dL_law_1197 (fun h338 => ?_)
  refine q_if_eq (tgt := 1205) dL_law_1198 (by decide) (fun c339 => ?_) (fun c339 => ?_)
  · refine q_iconst (x := (0 : Int32)) dL_law_1205 rfl ?_
    exact v_L_law_b1206 (hk18)
  · refine q_iconst (x := (1 : Int32)) dL_law_1201 rfl ?_
    refine q_goto (tgt := 1206) dL_law_1202 (by decide) ?_
    exact v_L_law_b1206 (hk18)
set_option maxRecDepth 20000 in
theorem v_L_law_b1128 {L : Nat} {xs : Nat → Int32} {kk18 : Int32 → q_Mem → Option (Int32 × q_Mem)} {M : q_Mem} {a1 : Nat} {a2 : Nat} {a3 : Int32}  (hk18 : ∀ (a3 : Int32) (M : q_Mem), q_V Y_L_law (some (L, xs)) (fun x : Int32 × q_Mem => (some (.int x.1), x.2)) 131 39214 18 [(0, .float 0), (1, .ref a1), (2, .ref a2), (3, .int a3)] [] M (kk18 a3 M)): q_V Y_L_law (some (L, xs)) (fun x : Int32 × q_Mem => (some (.int x.1), x.2)) 131 39214 1128 [(0, .float 0), (1, .ref a1), (2, .ref a2), (3, .int a3)] [] M (f_L_law_b1128 L xs kk18 M a1 a2 a3 ) := by
  unfold f_L_law_b1128
  refine q_aload_n 1 dL_law_1128 rfl ?_
  refine q_aload_s 0 dL_law_1129 rfl ?_
  refine q_iload_n 3 dL_law_1130 rfl ?_
  refine q_iconst (x := (1 : Int32)) dL_law_1131 rfl ?_
  refine q_iadd dL_law_1132 ?_
  refine q_sld rfl dL_law_1133 (fun h323 => ?_)
  refine q_aload_s 0 dL_law_1134 rfl ?_
  refine q_iload_n 3 dL_law_1135 rfl ?_
  refine q_iconst (x := (2 : Int32)) dL_law_1136 rfl ?_
  refine q_iadd dL_law_1137 ?_
  refine q_sld rfl dL_law_1138 (fun h324 => ?_)
  refine q_aload_s 0 dL_law_1139 rfl ?_
  refine q_iload_n 3 dL_law_1140 rfl ?_
  refine q_iconst (x := (3 : Int32)) dL_law_1141 rfl ?_
  refine q_iadd dL_law_1142 ?_
  refine q_sld rfl dL_law_1143 (fun h325 => ?_)
  refine q_aload_s 0 dL_law_1144 rfl ?_
  refine q_iload_n 3 dL_law_1145 rfl ?_
  refine q_iconst (x := (4 : Int32)) dL_law_1146 rfl ?_
  refine q_iadd dL_law_1147 ?_
  refine q_sld rfl dL_law_1148 (fun h326 => ?_)
  refine q_cVMJ (Y2 := Y_X11_tells) (As := [.int (xs (a3 + (1 : Int32)).toNatClampNeg), .int (xs (a3 + (2 : Int32)).toNatClampNeg), .int (xs (a3 + (3 : Int32)).toNatClampNeg), .int (xs (a3 + (4 : Int32)).toNatClampNeg)]) (b := a1) (st := []) cl_X11 mv_X11_tells qw_731 dL_law_1149 ⟨Nat.le_of_ble_eq_true rfl, Nat.le_of_ble_eq_true rfl⟩ rfl (fun _ _ => rfl) (Nat.le_of_ble_eq_true rfl) ⟨Nat.le_of_ble_eq_true rfl, Nat.le_of_ble_eq_true rfl⟩ (fun r328 h327 => q_ob_is h327) (fun r328 h327 => m_X11_tells h327) (fun r328 h327 => ?_)
  refine q_aload_n 2 dL_law_1152 rfl ?_
  refine q_aload_s 0 dL_law_1153 rfl ?_
  refine q_iload_n 3 dL_law_1154 rfl ?_
  refine q_iconst (x := (1 : Int32)) dL_law_1155 rfl ?_
  refine q_iadd dL_law_1156 ?_
  refine q_sld rfl dL_law_1157 (fun h329 => ?_)
  refine q_aload_s 0 dL_law_1158 rfl ?_
  refine q_iload_n 3 dL_law_1159 rfl ?_
  refine q_iconst (x := (2 : Int32)) dL_law_1160 rfl ?_
  refine q_iadd dL_law_1161 ?_
  refine q_sld rfl dL_law_1162 (fun h330 => ?_)
  refine q_aload_s 0 dL_law_1163 rfl ?_
  refine q_iload_n 3 dL_law_1164 rfl ?_
  refine q_iconst (x := (3 : Int32)) dL_law_1165 rfl ?_
  refine q_iadd dL_law_1166 ?_
  refine q_sld rfl dL_law_1167 (fun h331 => ?_)
  refine q_aload_s 0 dL_law_1168 rfl ?_
  refine q_iload_n 3 dL_law_1169 rfl ?_
  refine q_iconst (x := (4 : Int32)) dL_law_1170 rfl ?_
  refine q_iadd dL_law_1171 ?_
  refine q_sld rfl dL_law_1172 (fun h332 => ?_)
  refine q_cVMJ (Y2 := Y_X12_tells) (As := [.int (xs (a3 + (1 : Int32)).toNatClampNeg), .int (xs (a3 + (2 : Int32)).toNatClampNeg), .int (xs (a3 + (3 : Int32)).toNatClampNeg), .int (xs (a3 + (4 : Int32)).toNatClampNeg)]) (b := a2) (st := [.long r328.1]) cl_X12 mv_X12_tells qw_1432 dL_law_1173 ⟨Nat.le_of_ble_eq_true rfl, Nat.le_of_ble_eq_true rfl⟩ rfl (fun _ _ => rfl) (Nat.le_of_ble_eq_true rfl) ⟨Nat.le_of_ble_eq_true rfl, Nat.le_of_ble_eq_true rfl⟩ (fun r334 h333 => q_ob_is h333) (fun r334 h333 => m_X12_tells h333) (fun r334 h333 => ?_)
  refine q_lcmp_eq (tgt := 2161) dL_law_1176 dL_law_1177 (by decide) (fun c335 => ?_) (fun c335 => ?_)
  · exact v_L_law_b2161 (hk18)
  · refine q_iconst (x := (0 : Int32)) dL_law_1180 rfl ?_
    exact q_zretL dL_law_1181 rfl (Or.inl rfl) rfl (Nat.le_of_ble_eq_true rfl) rfl
set_option maxRecDepth 20000 in
theorem v_L_law_b1105 {L : Nat} {xs : Nat → Int32} {kk18 : Int32 → q_Mem → Option (Int32 × q_Mem)} {M : q_Mem} {a1 : Nat} {a2 : Nat} {a3 : Int32}  (hk18 : ∀ (a3 : Int32) (M : q_Mem), q_V Y_L_law (some (L, xs)) (fun x : Int32 × q_Mem => (some (.int x.1), x.2)) 131 39214 18 [(0, .float 0), (1, .ref a1), (2, .ref a2), (3, .int a3)] [] M (kk18 a3 M)): q_V Y_L_law (some (L, xs)) (fun x : Int32 × q_Mem => (some (.int x.1), x.2)) 131 39214 1105 [(0, .float 0), (1, .ref a1), (2, .ref a2), (3, .int a3)] [] M (f_L_law_b1105 L xs kk18 M a1 a2 a3 ) := by
  unfold f_L_law_b1105
  refine q_aload_n 1 dL_law_1105 rfl ?_
  refine q_aload_s 0 dL_law_1106 rfl ?_
  refine q_iload_n 3 dL_law_1107 rfl ?_
  refine q_iconst (x := (1 : Int32)) dL_law_1108 rfl ?_
  refine q_iadd dL_law_1109 ?_
  refine q_sld rfl dL_law_1110 (fun h316 => ?_)
  refine q_cVMI (Y2 := Y_X11_fault) (As := [.int (xs (a3 + (1 : Int32)).toNatClampNeg)]) (b := a1) (st := []) cl_X11 mv_X11_fault qw_628 dL_law_1111 ⟨Nat.le_of_ble_eq_true rfl, Nat.le_of_ble_eq_true rfl⟩ rfl (fun _ _ => rfl) (Nat.le_of_ble_eq_true rfl) ⟨Nat.le_of_ble_eq_true rfl, Nat.le_of_ble_eq_true rfl⟩ (fun r318 h317 => q_ob_is h317) (fun r318 h317 => m_X11_fault h317) (fun r318 h317 => ?_)
  refine q_aload_n 2 dL_law_1114 rfl ?_
  refine q_aload_s 0 dL_law_1115 rfl ?_
  refine q_iload_n 3 dL_law_1116 rfl ?_
  refine q_iconst (x := (1 : Int32)) dL_law_1117 rfl ?_
  refine q_iadd dL_law_1118 ?_
  refine q_sld rfl dL_law_1119 (fun h319 => ?_)
  refine q_cVMI (Y2 := Y_X12_fault) (As := [.int (xs (a3 + (1 : Int32)).toNatClampNeg)]) (b := a2) (st := [.int r318.1]) cl_X12 mv_X12_fault qw_1391 dL_law_1120 ⟨Nat.le_of_ble_eq_true rfl, Nat.le_of_ble_eq_true rfl⟩ rfl (fun _ _ => rfl) (Nat.le_of_ble_eq_true rfl) ⟨Nat.le_of_ble_eq_true rfl, Nat.le_of_ble_eq_true rfl⟩ (fun r321 h320 => q_ob_is h320) (fun r321 h320 => m_X12_fault h320) (fun r321 h320 => ?_)
  refine q_icmp_eq (tgt := 2161) dL_law_1123 (by decide) (fun c322 => ?_) (fun c322 => ?_)
  · exact v_L_law_b2161 (hk18)
  · refine q_iconst (x := (0 : Int32)) dL_law_1126 rfl ?_
    exact q_zretL dL_law_1127 rfl (Or.inl rfl) rfl (Nat.le_of_ble_eq_true rfl) rfl
set_option maxRecDepth 20000 in
theorem v_L_law_b1082 {L : Nat} {xs : Nat → Int32} {kk18 : Int32 → q_Mem → Option (Int32 × q_Mem)} {M : q_Mem} {a1 : Nat} {a2 : Nat} {a3 : Int32}  (hk18 : ∀ (a3 : Int32) (M : q_Mem), q_V Y_L_law (some (L, xs)) (fun x : Int32 × q_Mem => (some (.int x.1), x.2)) 131 39214 18 [(0, .float 0), (1, .ref a1), (2, .ref a2), (3, .int a3)] [] M (kk18 a3 M)): q_V Y_L_law (some (L, xs)) (fun x : Int32 × q_Mem => (some (.int x.1), x.2)) 131 39214 1082 [(0, .float 0), (1, .ref a1), (2, .ref a2), (3, .int a3)] [] M (f_L_law_b1082 L xs kk18 M a1 a2 a3 ) := by
  unfold f_L_law_b1082
  refine q_aload_n 1 dL_law_1082 rfl ?_
  refine q_aload_s 0 dL_law_1083 rfl ?_
  refine q_iload_n 3 dL_law_1084 rfl ?_
  refine q_iconst (x := (1 : Int32)) dL_law_1085 rfl ?_
  refine q_iadd dL_law_1086 ?_
  refine q_sld rfl dL_law_1087 (fun h309 => ?_)
  refine q_cVMI (Y2 := Y_X11_erase) (As := [.int (xs (a3 + (1 : Int32)).toNatClampNeg)]) (b := a1) (st := []) cl_X11 mv_X11_erase qw_624 dL_law_1088 ⟨Nat.le_of_ble_eq_true rfl, Nat.le_of_ble_eq_true rfl⟩ rfl (fun _ _ => rfl) (Nat.le_of_ble_eq_true rfl) ⟨Nat.le_of_ble_eq_true rfl, Nat.le_of_ble_eq_true rfl⟩ (fun r311 h310 => q_ob_is h310) (fun r311 h310 => m_X11_erase h310) (fun r311 h310 => ?_)
  refine q_aload_n 2 dL_law_1091 rfl ?_
  refine q_aload_s 0 dL_law_1092 rfl ?_
  refine q_iload_n 3 dL_law_1093 rfl ?_
  refine q_iconst (x := (1 : Int32)) dL_law_1094 rfl ?_
  refine q_iadd dL_law_1095 ?_
  refine q_sld rfl dL_law_1096 (fun h312 => ?_)
  refine q_cVMI (Y2 := Y_X12_erase) (As := [.int (xs (a3 + (1 : Int32)).toNatClampNeg)]) (b := a2) (st := [.int r311.1]) cl_X12 mv_X12_erase qw_1387 dL_law_1097 ⟨Nat.le_of_ble_eq_true rfl, Nat.le_of_ble_eq_true rfl⟩ rfl (fun _ _ => rfl) (Nat.le_of_ble_eq_true rfl) ⟨Nat.le_of_ble_eq_true rfl, Nat.le_of_ble_eq_true rfl⟩ (fun r314 h313 => q_ob_is h313) (fun r314 h313 => m_X12_erase h313) (fun r314 h313 => ?_)
  refine q_icmp_eq (tgt := 2161) dL_law_1100 (by decide) (fun c315 => ?_) (fun c315 => ?_)
  · exact v_L_law_b2161 (hk18)
  · refine q_iconst (x := (0 : Int32)) dL_law_1103 rfl ?_
    exact q_zretL dL_law_1104 rfl (Or.inl rfl) rfl (Nat.le_of_ble_eq_true rfl) rfl
set_option maxRecDepth 20000 in
theorem v_L_law_b1049 {L : Nat} {xs : Nat → Int32} {kk18 : Int32 → q_Mem → Option (Int32 × q_Mem)} {M : q_Mem} {a1 : Nat} {a2 : Nat} {a3 : Int32}  (hk18 : ∀ (a3 : Int32) (M : q_Mem), q_V Y_L_law (some (L, xs)) (fun x : Int32 × q_Mem => (some (.int x.1), x.2)) 131 39214 18 [(0, .float 0), (1, .ref a1), (2, .ref a2), (3, .int a3)] [] M (kk18 a3 M)): q_V Y_L_law (some (L, xs)) (fun x : Int32 × q_Mem => (some (.int x.1), x.2)) 131 39214 1049 [(0, .float 0), (1, .ref a1), (2, .ref a2), (3, .int a3)] [] M (f_L_law_b1049 L xs kk18 M a1 a2 a3 ) := by
  unfold f_L_law_b1049
  refine q_aload_n 1 dL_law_1049 rfl ?_
  refine q_aload_s 0 dL_law_1050 rfl ?_
  refine q_iload_n 3 dL_law_1051 rfl ?_
  refine q_iconst (x := (1 : Int32)) dL_law_1052 rfl ?_
  refine q_iadd dL_law_1053 ?_
  refine q_sld rfl dL_law_1054 (fun h300 => ?_)
  refine q_aload_s 0 dL_law_1055 rfl ?_
  refine q_iload_n 3 dL_law_1056 rfl ?_
  refine q_iconst (x := (2 : Int32)) dL_law_1057 rfl ?_
  refine q_iadd dL_law_1058 ?_
  refine q_sld rfl dL_law_1059 (fun h301 => ?_)
  refine q_cVMI (Y2 := Y_X11_write) (As := [.int (xs (a3 + (1 : Int32)).toNatClampNeg), .int (xs (a3 + (2 : Int32)).toNatClampNeg)]) (b := a1) (st := []) cl_X11 mv_X11_write qw_620 dL_law_1060 ⟨Nat.le_of_ble_eq_true rfl, Nat.le_of_ble_eq_true rfl⟩ rfl (fun _ _ => rfl) (Nat.le_of_ble_eq_true rfl) ⟨Nat.le_of_ble_eq_true rfl, Nat.le_of_ble_eq_true rfl⟩ (fun r303 h302 => q_ob_is h302) (fun r303 h302 => m_X11_write h302) (fun r303 h302 => ?_)
  refine q_aload_n 2 dL_law_1063 rfl ?_
  refine q_aload_s 0 dL_law_1064 rfl ?_
  refine q_iload_n 3 dL_law_1065 rfl ?_
  refine q_iconst (x := (1 : Int32)) dL_law_1066 rfl ?_
  refine q_iadd dL_law_1067 ?_
  refine q_sld rfl dL_law_1068 (fun h304 => ?_)
  refine q_aload_s 0 dL_law_1069 rfl ?_
  refine q_iload_n 3 dL_law_1070 rfl ?_
  refine q_iconst (x := (2 : Int32)) dL_law_1071 rfl ?_
  refine q_iadd dL_law_1072 ?_
  refine q_sld rfl dL_law_1073 (fun h305 => ?_)
  refine q_cVMI (Y2 := Y_X12_write) (As := [.int (xs (a3 + (1 : Int32)).toNatClampNeg), .int (xs (a3 + (2 : Int32)).toNatClampNeg)]) (b := a2) (st := [.int r303.1]) cl_X12 mv_X12_write qw_1380 dL_law_1074 ⟨Nat.le_of_ble_eq_true rfl, Nat.le_of_ble_eq_true rfl⟩ rfl (fun _ _ => rfl) (Nat.le_of_ble_eq_true rfl) ⟨Nat.le_of_ble_eq_true rfl, Nat.le_of_ble_eq_true rfl⟩ (fun r307 h306 => q_ob_is h306) (fun r307 h306 => m_X12_write h306) (fun r307 h306 => ?_)
  refine q_icmp_eq (tgt := 2161) dL_law_1077 (by decide) (fun c308 => ?_) (fun c308 => ?_)
  · exact v_L_law_b2161 (hk18)
  · refine q_iconst (x := (0 : Int32)) dL_law_1080 rfl ?_
    exact q_zretL dL_law_1081 rfl (Or.inl rfl) rfl (Nat.le_of_ble_eq_true rfl) rfl
set_option maxRecDepth 20000 in
theorem v_L_law_b1005 {L : Nat} {xs : Nat → Int32} {kk18 : Int32 → q_Mem → Option (Int32 × q_Mem)} {M : q_Mem} {a1 : Nat} {a2 : Nat} {a3 : Int32}  (hk18 : ∀ (a3 : Int32) (M : q_Mem), q_V Y_L_law (some (L, xs)) (fun x : Int32 × q_Mem => (some (.int x.1), x.2)) 131 39214 18 [(0, .float 0), (1, .ref a1), (2, .ref a2), (3, .int a3)] [] M (kk18 a3 M)): q_V Y_L_law (some (L, xs)) (fun x : Int32 × q_Mem => (some (.int x.1), x.2)) 131 39214 1005 [(0, .float 0), (1, .ref a1), (2, .ref a2), (3, .int a3)] [] M (f_L_law_b1005 L xs kk18 M a1 a2 a3 ) := by
  unfold f_L_law_b1005
  refine q_aload_n 1 dL_law_1005 rfl ?_
  refine q_aload_s 0 dL_law_1006 rfl ?_
  refine q_iload_n 3 dL_law_1007 rfl ?_
  refine q_iconst (x := (1 : Int32)) dL_law_1008 rfl ?_
  refine q_iadd dL_law_1009 ?_
  refine q_sld rfl dL_law_1010 (fun h289 => ?_)
  refine q_aload_s 0 dL_law_1011 rfl ?_
  refine q_iload_n 3 dL_law_1012 rfl ?_
  refine q_iconst (x := (2 : Int32)) dL_law_1013 rfl ?_
  refine q_iadd dL_law_1014 ?_
  refine q_sld rfl dL_law_1015 (fun h290 => ?_)
  refine q_aload_s 0 dL_law_1016 rfl ?_
  refine q_iload_n 3 dL_law_1017 rfl ?_
  refine q_iconst (x := (3 : Int32)) dL_law_1018 rfl ?_
  refine q_iadd dL_law_1019 ?_
  refine q_sld rfl dL_law_1020 (fun h291 => ?_)
  refine q_cVMJ (Y2 := Y_X11_lead) (As := [.int (xs (a3 + (1 : Int32)).toNatClampNeg), .int (xs (a3 + (2 : Int32)).toNatClampNeg), .int (xs (a3 + (3 : Int32)).toNatClampNeg)]) (b := a1) (st := []) cl_X11 mv_X11_lead qw_616 dL_law_1021 ⟨Nat.le_of_ble_eq_true rfl, Nat.le_of_ble_eq_true rfl⟩ rfl (fun _ _ => rfl) (Nat.le_of_ble_eq_true rfl) ⟨Nat.le_of_ble_eq_true rfl, Nat.le_of_ble_eq_true rfl⟩ (fun r293 h292 => q_ob_is h292) (fun r293 h292 => m_X11_lead h292) (fun r293 h292 => ?_)
  refine q_aload_n 2 dL_law_1024 rfl ?_
  refine q_aload_s 0 dL_law_1025 rfl ?_
  refine q_iload_n 3 dL_law_1026 rfl ?_
  refine q_iconst (x := (1 : Int32)) dL_law_1027 rfl ?_
  refine q_iadd dL_law_1028 ?_
  refine q_sld rfl dL_law_1029 (fun h294 => ?_)
  refine q_aload_s 0 dL_law_1030 rfl ?_
  refine q_iload_n 3 dL_law_1031 rfl ?_
  refine q_iconst (x := (2 : Int32)) dL_law_1032 rfl ?_
  refine q_iadd dL_law_1033 ?_
  refine q_sld rfl dL_law_1034 (fun h295 => ?_)
  refine q_aload_s 0 dL_law_1035 rfl ?_
  refine q_iload_n 3 dL_law_1036 rfl ?_
  refine q_iconst (x := (3 : Int32)) dL_law_1037 rfl ?_
  refine q_iadd dL_law_1038 ?_
  refine q_sld rfl dL_law_1039 (fun h296 => ?_)
  refine q_cVMJ (Y2 := Y_X12_lead) (As := [.int (xs (a3 + (1 : Int32)).toNatClampNeg), .int (xs (a3 + (2 : Int32)).toNatClampNeg), .int (xs (a3 + (3 : Int32)).toNatClampNeg)]) (b := a2) (st := [.long r293.1]) cl_X12 mv_X12_lead qw_1376 dL_law_1040 ⟨Nat.le_of_ble_eq_true rfl, Nat.le_of_ble_eq_true rfl⟩ rfl (fun _ _ => rfl) (Nat.le_of_ble_eq_true rfl) ⟨Nat.le_of_ble_eq_true rfl, Nat.le_of_ble_eq_true rfl⟩ (fun r298 h297 => q_ob_is h297) (fun r298 h297 => m_X12_lead h297) (fun r298 h297 => ?_)
  refine q_lcmp_eq (tgt := 2161) dL_law_1043 dL_law_1044 (by decide) (fun c299 => ?_) (fun c299 => ?_)
  · exact v_L_law_b2161 (hk18)
  · refine q_iconst (x := (0 : Int32)) dL_law_1047 rfl ?_
    exact q_zretL dL_law_1048 rfl (Or.inl rfl) rfl (Nat.le_of_ble_eq_true rfl) rfl
set_option maxRecDepth 20000 in
theorem v_L_law_b972 {L : Nat} {xs : Nat → Int32} {kk18 : Int32 → q_Mem → Option (Int32 × q_Mem)} {M : q_Mem} {a1 : Nat} {a2 : Nat} {a3 : Int32}  (hk18 : ∀ (a3 : Int32) (M : q_Mem), q_V Y_L_law (some (L, xs)) (fun x : Int32 × q_Mem => (some (.int x.1), x.2)) 131 39214 18 [(0, .float 0), (1, .ref a1), (2, .ref a2), (3, .int a3)] [] M (kk18 a3 M)): q_V Y_L_law (some (L, xs)) (fun x : Int32 × q_Mem => (some (.int x.1), x.2)) 131 39214 972 [(0, .float 0), (1, .ref a1), (2, .ref a2), (3, .int a3)] [] M (f_L_law_b972 L xs kk18 M a1 a2 a3 ) := by
  unfold f_L_law_b972
  refine q_aload_n 1 dL_law_972 rfl ?_
  refine q_aload_s 0 dL_law_973 rfl ?_
  refine q_iload_n 3 dL_law_974 rfl ?_
  refine q_iconst (x := (1 : Int32)) dL_law_975 rfl ?_
  refine q_iadd dL_law_976 ?_
  refine q_sld rfl dL_law_977 (fun h280 => ?_)
  refine q_aload_s 0 dL_law_978 rfl ?_
  refine q_iload_n 3 dL_law_979 rfl ?_
  refine q_iconst (x := (2 : Int32)) dL_law_980 rfl ?_
  refine q_iadd dL_law_981 ?_
  refine q_sld rfl dL_law_982 (fun h281 => ?_)
  refine q_cVI (Y2 := Y_X11_lot) (As := [.int (xs (a3 + (1 : Int32)).toNatClampNeg), .int (xs (a3 + (2 : Int32)).toNatClampNeg)]) (b := a1) (st := []) cl_X11 mv_X11_lot qw_606 dL_law_983 ⟨Nat.le_of_ble_eq_true rfl, Nat.le_of_ble_eq_true rfl⟩ rfl (fun _ _ => rfl) (Nat.le_of_ble_eq_true rfl) ⟨Nat.le_of_ble_eq_true rfl, Nat.le_of_ble_eq_true rfl⟩ (fun v283 h282 => q_ob_is h282) (fun v283 h282 => m_X11_lot h282) (fun v283 h282 => ?_)
  refine q_aload_n 2 dL_law_986 rfl ?_
  refine q_aload_s 0 dL_law_987 rfl ?_
  refine q_iload_n 3 dL_law_988 rfl ?_
  refine q_iconst (x := (1 : Int32)) dL_law_989 rfl ?_
  refine q_iadd dL_law_990 ?_
  refine q_sld rfl dL_law_991 (fun h284 => ?_)
  refine q_aload_s 0 dL_law_992 rfl ?_
  refine q_iload_n 3 dL_law_993 rfl ?_
  refine q_iconst (x := (2 : Int32)) dL_law_994 rfl ?_
  refine q_iadd dL_law_995 ?_
  refine q_sld rfl dL_law_996 (fun h285 => ?_)
  refine q_cVI (Y2 := Y_X12_lot) (As := [.int (xs (a3 + (1 : Int32)).toNatClampNeg), .int (xs (a3 + (2 : Int32)).toNatClampNeg)]) (b := a2) (st := [.int v283]) cl_X12 mv_X12_lot qw_1371 dL_law_997 ⟨Nat.le_of_ble_eq_true rfl, Nat.le_of_ble_eq_true rfl⟩ rfl (fun _ _ => rfl) (Nat.le_of_ble_eq_true rfl) ⟨Nat.le_of_ble_eq_true rfl, Nat.le_of_ble_eq_true rfl⟩ (fun v287 h286 => q_ob_is h286) (fun v287 h286 => m_X12_lot h286) (fun v287 h286 => ?_)
  refine q_icmp_eq (tgt := 2161) dL_law_1000 (by decide) (fun c288 => ?_) (fun c288 => ?_)
  · exact v_L_law_b2161 (hk18)
  · refine q_iconst (x := (0 : Int32)) dL_law_1003 rfl ?_
    exact q_zretL dL_law_1004 rfl (Or.inl rfl) rfl (Nat.le_of_ble_eq_true rfl) rfl
set_option maxRecDepth 20000 in
theorem v_L_law_b959 {L : Nat} {xs : Nat → Int32} {kk18 : Int32 → q_Mem → Option (Int32 × q_Mem)} {M : q_Mem} {a1 : Nat} {a2 : Nat} {a3 : Int32}  (hk18 : ∀ (a3 : Int32) (M : q_Mem), q_V Y_L_law (some (L, xs)) (fun x : Int32 × q_Mem => (some (.int x.1), x.2)) 131 39214 18 [(0, .float 0), (1, .ref a1), (2, .ref a2), (3, .int a3)] [] M (kk18 a3 M)): q_V Y_L_law (some (L, xs)) (fun x : Int32 × q_Mem => (some (.int x.1), x.2)) 131 39214 959 [(0, .float 0), (1, .ref a1), (2, .ref a2), (3, .int a3)] [] M (f_L_law_b959 L xs kk18 M a1 a2 a3 ) := by
  unfold f_L_law_b959
  refine q_aload_n 1 dL_law_959 rfl ?_
  refine q_cVI (Y2 := Y_X11_lean) (As := []) (b := a1) (st := []) cl_X11 mv_X11_lean qw_598 dL_law_960 ⟨Nat.le_of_ble_eq_true rfl, Nat.le_of_ble_eq_true rfl⟩ rfl (fun _ _ => rfl) (Nat.le_of_ble_eq_true rfl) ⟨Nat.le_of_ble_eq_true rfl, Nat.le_of_ble_eq_true rfl⟩ (fun v276 h275 => q_ob_is h275) (fun v276 h275 => m_X11_lean h275) (fun v276 h275 => ?_)
  refine q_aload_n 2 dL_law_963 rfl ?_
  refine q_cVI (Y2 := Y_X12_lean) (As := []) (b := a2) (st := [.int v276]) cl_X12 mv_X12_lean qw_1367 dL_law_964 ⟨Nat.le_of_ble_eq_true rfl, Nat.le_of_ble_eq_true rfl⟩ rfl (fun _ _ => rfl) (Nat.le_of_ble_eq_true rfl) ⟨Nat.le_of_ble_eq_true rfl, Nat.le_of_ble_eq_true rfl⟩ (fun v278 h277 => q_ob_is h277) (fun v278 h277 => m_X12_lean h277) (fun v278 h277 => ?_)
  refine q_icmp_eq (tgt := 2161) dL_law_967 (by decide) (fun c279 => ?_) (fun c279 => ?_)
  · exact v_L_law_b2161 (hk18)
  · refine q_iconst (x := (0 : Int32)) dL_law_970 rfl ?_
    exact q_zretL dL_law_971 rfl (Or.inl rfl) rfl (Nat.le_of_ble_eq_true rfl) rfl
set_option maxRecDepth 20000 in
theorem v_L_law_b916 {L : Nat} {xs : Nat → Int32} {kk18 : Int32 → q_Mem → Option (Int32 × q_Mem)} {M : q_Mem} {a1 : Nat} {a2 : Nat} {a3 : Int32}  (hk18 : ∀ (a3 : Int32) (M : q_Mem), q_V Y_L_law (some (L, xs)) (fun x : Int32 × q_Mem => (some (.int x.1), x.2)) 131 39214 18 [(0, .float 0), (1, .ref a1), (2, .ref a2), (3, .int a3)] [] M (kk18 a3 M)): q_V Y_L_law (some (L, xs)) (fun x : Int32 × q_Mem => (some (.int x.1), x.2)) 131 39214 916 [(0, .float 0), (1, .ref a1), (2, .ref a2), (3, .int a3)] [] M (f_L_law_b916 L xs kk18 M a1 a2 a3 ) := by
  unfold f_L_law_b916
  refine q_aload_n 1 dL_law_916 rfl ?_
  refine q_aload_s 0 dL_law_917 rfl ?_
  refine q_iload_n 3 dL_law_918 rfl ?_
  refine q_iconst (x := (1 : Int32)) dL_law_919 rfl ?_
  refine q_iadd dL_law_920 ?_
  refine q_sld rfl dL_law_921 (fun h264 => ?_)
  refine q_aload_s 0 dL_law_922 rfl ?_
  refine q_iload_n 3 dL_law_923 rfl ?_
  refine q_iconst (x := (2 : Int32)) dL_law_924 rfl ?_
  refine q_iadd dL_law_925 ?_
  refine q_sld rfl dL_law_926 (fun h265 => ?_)
  refine q_aload_s 0 dL_law_927 rfl ?_
  refine q_iload_n 3 dL_law_928 rfl ?_
  refine q_iconst (x := (3 : Int32)) dL_law_929 rfl ?_
  refine q_iadd dL_law_930 ?_
  refine q_sld rfl dL_law_931 (fun h266 => ?_)
  refine q_cVMI (Y2 := Y_X11_grade) (As := [.int (xs (a3 + (1 : Int32)).toNatClampNeg), .int (xs (a3 + (2 : Int32)).toNatClampNeg), .int (xs (a3 + (3 : Int32)).toNatClampNeg)]) (b := a1) (st := []) cl_X11 mv_X11_grade qw_594 dL_law_932 ⟨Nat.le_of_ble_eq_true rfl, Nat.le_of_ble_eq_true rfl⟩ rfl (fun _ _ => rfl) (Nat.le_of_ble_eq_true rfl) ⟨Nat.le_of_ble_eq_true rfl, Nat.le_of_ble_eq_true rfl⟩ (fun r268 h267 => q_ob_is h267) (fun r268 h267 => m_X11_grade h267) (fun r268 h267 => ?_)
  refine q_aload_n 2 dL_law_935 rfl ?_
  refine q_aload_s 0 dL_law_936 rfl ?_
  refine q_iload_n 3 dL_law_937 rfl ?_
  refine q_iconst (x := (1 : Int32)) dL_law_938 rfl ?_
  refine q_iadd dL_law_939 ?_
  refine q_sld rfl dL_law_940 (fun h269 => ?_)
  refine q_aload_s 0 dL_law_941 rfl ?_
  refine q_iload_n 3 dL_law_942 rfl ?_
  refine q_iconst (x := (2 : Int32)) dL_law_943 rfl ?_
  refine q_iadd dL_law_944 ?_
  refine q_sld rfl dL_law_945 (fun h270 => ?_)
  refine q_aload_s 0 dL_law_946 rfl ?_
  refine q_iload_n 3 dL_law_947 rfl ?_
  refine q_iconst (x := (3 : Int32)) dL_law_948 rfl ?_
  refine q_iadd dL_law_949 ?_
  refine q_sld rfl dL_law_950 (fun h271 => ?_)
  refine q_cVMI (Y2 := Y_X12_grade) (As := [.int (xs (a3 + (1 : Int32)).toNatClampNeg), .int (xs (a3 + (2 : Int32)).toNatClampNeg), .int (xs (a3 + (3 : Int32)).toNatClampNeg)]) (b := a2) (st := [.int r268.1]) cl_X12 mv_X12_grade qw_1363 dL_law_951 ⟨Nat.le_of_ble_eq_true rfl, Nat.le_of_ble_eq_true rfl⟩ rfl (fun _ _ => rfl) (Nat.le_of_ble_eq_true rfl) ⟨Nat.le_of_ble_eq_true rfl, Nat.le_of_ble_eq_true rfl⟩ (fun r273 h272 => q_ob_is h272) (fun r273 h272 => m_X12_grade h272) (fun r273 h272 => ?_)
  refine q_icmp_eq (tgt := 2161) dL_law_954 (by decide) (fun c274 => ?_) (fun c274 => ?_)
  · exact v_L_law_b2161 (hk18)
  · refine q_iconst (x := (0 : Int32)) dL_law_957 rfl ?_
    exact q_zretL dL_law_958 rfl (Or.inl rfl) rfl (Nat.le_of_ble_eq_true rfl) rfl
set_option maxRecDepth 20000 in
theorem v_L_law_b873 {L : Nat} {xs : Nat → Int32} {kk18 : Int32 → q_Mem → Option (Int32 × q_Mem)} {M : q_Mem} {a1 : Nat} {a2 : Nat} {a3 : Int32}  (hk18 : ∀ (a3 : Int32) (M : q_Mem), q_V Y_L_law (some (L, xs)) (fun x : Int32 × q_Mem => (some (.int x.1), x.2)) 131 39214 18 [(0, .float 0), (1, .ref a1), (2, .ref a2), (3, .int a3)] [] M (kk18 a3 M)): q_V Y_L_law (some (L, xs)) (fun x : Int32 × q_Mem => (some (.int x.1), x.2)) 131 39214 873 [(0, .float 0), (1, .ref a1), (2, .ref a2), (3, .int a3)] [] M (f_L_law_b873 L xs kk18 M a1 a2 a3 ) := by
  unfold f_L_law_b873
  refine q_aload_n 1 dL_law_873 rfl ?_
  refine q_aload_s 0 dL_law_874 rfl ?_
  refine q_iload_n 3 dL_law_875 rfl ?_
  refine q_iconst (x := (1 : Int32)) dL_law_876 rfl ?_
  refine q_iadd dL_law_877 ?_
  refine q_sld rfl dL_law_878 (fun h253 => ?_)
  refine q_aload_s 0 dL_law_879 rfl ?_
  refine q_iload_n 3 dL_law_880 rfl ?_
  refine q_iconst (x := (2 : Int32)) dL_law_881 rfl ?_
  refine q_iadd dL_law_882 ?_
  refine q_sld rfl dL_law_883 (fun h254 => ?_)
  refine q_aload_s 0 dL_law_884 rfl ?_
  refine q_iload_n 3 dL_law_885 rfl ?_
  refine q_iconst (x := (3 : Int32)) dL_law_886 rfl ?_
  refine q_iadd dL_law_887 ?_
  refine q_sld rfl dL_law_888 (fun h255 => ?_)
  refine q_cVMI (Y2 := Y_X11_sell) (As := [.int (xs (a3 + (1 : Int32)).toNatClampNeg), .int (xs (a3 + (2 : Int32)).toNatClampNeg), .int (xs (a3 + (3 : Int32)).toNatClampNeg)]) (b := a1) (st := []) cl_X11 mv_X11_sell qw_589 dL_law_889 ⟨Nat.le_of_ble_eq_true rfl, Nat.le_of_ble_eq_true rfl⟩ rfl (fun _ _ => rfl) (Nat.le_of_ble_eq_true rfl) ⟨Nat.le_of_ble_eq_true rfl, Nat.le_of_ble_eq_true rfl⟩ (fun r257 h256 => q_ob_is h256) (fun r257 h256 => m_X11_sell h256) (fun r257 h256 => ?_)
  refine q_aload_n 2 dL_law_892 rfl ?_
  refine q_aload_s 0 dL_law_893 rfl ?_
  refine q_iload_n 3 dL_law_894 rfl ?_
  refine q_iconst (x := (1 : Int32)) dL_law_895 rfl ?_
  refine q_iadd dL_law_896 ?_
  refine q_sld rfl dL_law_897 (fun h258 => ?_)
  refine q_aload_s 0 dL_law_898 rfl ?_
  refine q_iload_n 3 dL_law_899 rfl ?_
  refine q_iconst (x := (2 : Int32)) dL_law_900 rfl ?_
  refine q_iadd dL_law_901 ?_
  refine q_sld rfl dL_law_902 (fun h259 => ?_)
  refine q_aload_s 0 dL_law_903 rfl ?_
  refine q_iload_n 3 dL_law_904 rfl ?_
  refine q_iconst (x := (3 : Int32)) dL_law_905 rfl ?_
  refine q_iadd dL_law_906 ?_
  refine q_sld rfl dL_law_907 (fun h260 => ?_)
  refine q_cVMI (Y2 := Y_X12_sell) (As := [.int (xs (a3 + (1 : Int32)).toNatClampNeg), .int (xs (a3 + (2 : Int32)).toNatClampNeg), .int (xs (a3 + (3 : Int32)).toNatClampNeg)]) (b := a2) (st := [.int r257.1]) cl_X12 mv_X12_sell qw_1358 dL_law_908 ⟨Nat.le_of_ble_eq_true rfl, Nat.le_of_ble_eq_true rfl⟩ rfl (fun _ _ => rfl) (Nat.le_of_ble_eq_true rfl) ⟨Nat.le_of_ble_eq_true rfl, Nat.le_of_ble_eq_true rfl⟩ (fun r262 h261 => q_ob_is h261) (fun r262 h261 => m_X12_sell h261) (fun r262 h261 => ?_)
  refine q_icmp_eq (tgt := 2161) dL_law_911 (by decide) (fun c263 => ?_) (fun c263 => ?_)
  · exact v_L_law_b2161 (hk18)
  · refine q_iconst (x := (0 : Int32)) dL_law_914 rfl ?_
    exact q_zretL dL_law_915 rfl (Or.inl rfl) rfl (Nat.le_of_ble_eq_true rfl) rfl
set_option maxRecDepth 20000 in
theorem v_L_law_b850 {L : Nat} {xs : Nat → Int32} {kk18 : Int32 → q_Mem → Option (Int32 × q_Mem)} {M : q_Mem} {a1 : Nat} {a2 : Nat} {a3 : Int32}  (hk18 : ∀ (a3 : Int32) (M : q_Mem), q_V Y_L_law (some (L, xs)) (fun x : Int32 × q_Mem => (some (.int x.1), x.2)) 131 39214 18 [(0, .float 0), (1, .ref a1), (2, .ref a2), (3, .int a3)] [] M (kk18 a3 M)): q_V Y_L_law (some (L, xs)) (fun x : Int32 × q_Mem => (some (.int x.1), x.2)) 131 39214 850 [(0, .float 0), (1, .ref a1), (2, .ref a2), (3, .int a3)] [] M (f_L_law_b850 L xs kk18 M a1 a2 a3 ) := by
  unfold f_L_law_b850
  refine q_aload_n 1 dL_law_850 rfl ?_
  refine q_aload_s 0 dL_law_851 rfl ?_
  refine q_iload_n 3 dL_law_852 rfl ?_
  refine q_iconst (x := (1 : Int32)) dL_law_853 rfl ?_
  refine q_iadd dL_law_854 ?_
  refine q_sld rfl dL_law_855 (fun h246 => ?_)
  refine q_cVMI (Y2 := Y_X11_box) (As := [.int (xs (a3 + (1 : Int32)).toNatClampNeg)]) (b := a1) (st := []) cl_X11 mv_X11_box qw_585 dL_law_856 ⟨Nat.le_of_ble_eq_true rfl, Nat.le_of_ble_eq_true rfl⟩ rfl (fun _ _ => rfl) (Nat.le_of_ble_eq_true rfl) ⟨Nat.le_of_ble_eq_true rfl, Nat.le_of_ble_eq_true rfl⟩ (fun r248 h247 => q_ob_is h247) (fun r248 h247 => m_X11_box h247) (fun r248 h247 => ?_)
  refine q_aload_n 2 dL_law_859 rfl ?_
  refine q_aload_s 0 dL_law_860 rfl ?_
  refine q_iload_n 3 dL_law_861 rfl ?_
  refine q_iconst (x := (1 : Int32)) dL_law_862 rfl ?_
  refine q_iadd dL_law_863 ?_
  refine q_sld rfl dL_law_864 (fun h249 => ?_)
  refine q_cVMI (Y2 := Y_X12_box) (As := [.int (xs (a3 + (1 : Int32)).toNatClampNeg)]) (b := a2) (st := [.int r248.1]) cl_X12 mv_X12_box qw_1354 dL_law_865 ⟨Nat.le_of_ble_eq_true rfl, Nat.le_of_ble_eq_true rfl⟩ rfl (fun _ _ => rfl) (Nat.le_of_ble_eq_true rfl) ⟨Nat.le_of_ble_eq_true rfl, Nat.le_of_ble_eq_true rfl⟩ (fun r251 h250 => q_ob_is h250) (fun r251 h250 => m_X12_box h250) (fun r251 h250 => ?_)
  refine q_icmp_eq (tgt := 2161) dL_law_868 (by decide) (fun c252 => ?_) (fun c252 => ?_)
  · exact v_L_law_b2161 (hk18)
  · refine q_iconst (x := (0 : Int32)) dL_law_871 rfl ?_
    exact q_zretL dL_law_872 rfl (Or.inl rfl) rfl (Nat.le_of_ble_eq_true rfl) rfl
set_option maxRecDepth 20000 in
theorem v_L_law_b817 {L : Nat} {xs : Nat → Int32} {kk18 : Int32 → q_Mem → Option (Int32 × q_Mem)} {M : q_Mem} {a1 : Nat} {a2 : Nat} {a3 : Int32}  (hk18 : ∀ (a3 : Int32) (M : q_Mem), q_V Y_L_law (some (L, xs)) (fun x : Int32 × q_Mem => (some (.int x.1), x.2)) 131 39214 18 [(0, .float 0), (1, .ref a1), (2, .ref a2), (3, .int a3)] [] M (kk18 a3 M)): q_V Y_L_law (some (L, xs)) (fun x : Int32 × q_Mem => (some (.int x.1), x.2)) 131 39214 817 [(0, .float 0), (1, .ref a1), (2, .ref a2), (3, .int a3)] [] M (f_L_law_b817 L xs kk18 M a1 a2 a3 ) := by
  unfold f_L_law_b817
  refine q_aload_n 1 dL_law_817 rfl ?_
  refine q_aload_s 0 dL_law_818 rfl ?_
  refine q_iload_n 3 dL_law_819 rfl ?_
  refine q_iconst (x := (1 : Int32)) dL_law_820 rfl ?_
  refine q_iadd dL_law_821 ?_
  refine q_sld rfl dL_law_822 (fun h237 => ?_)
  refine q_aload_s 0 dL_law_823 rfl ?_
  refine q_iload_n 3 dL_law_824 rfl ?_
  refine q_iconst (x := (2 : Int32)) dL_law_825 rfl ?_
  refine q_iadd dL_law_826 ?_
  refine q_sld rfl dL_law_827 (fun h238 => ?_)
  refine q_cVMI (Y2 := Y_X11_out) (As := [.int (xs (a3 + (1 : Int32)).toNatClampNeg), .int (xs (a3 + (2 : Int32)).toNatClampNeg)]) (b := a1) (st := []) cl_X11 mv_X11_out qw_580 dL_law_828 ⟨Nat.le_of_ble_eq_true rfl, Nat.le_of_ble_eq_true rfl⟩ rfl (fun _ _ => rfl) (Nat.le_of_ble_eq_true rfl) ⟨Nat.le_of_ble_eq_true rfl, Nat.le_of_ble_eq_true rfl⟩ (fun r240 h239 => q_ob_is h239) (fun r240 h239 => m_X11_out h239) (fun r240 h239 => ?_)
  refine q_aload_n 2 dL_law_831 rfl ?_
  refine q_aload_s 0 dL_law_832 rfl ?_
  refine q_iload_n 3 dL_law_833 rfl ?_
  refine q_iconst (x := (1 : Int32)) dL_law_834 rfl ?_
  refine q_iadd dL_law_835 ?_
  refine q_sld rfl dL_law_836 (fun h241 => ?_)
  refine q_aload_s 0 dL_law_837 rfl ?_
  refine q_iload_n 3 dL_law_838 rfl ?_
  refine q_iconst (x := (2 : Int32)) dL_law_839 rfl ?_
  refine q_iadd dL_law_840 ?_
  refine q_sld rfl dL_law_841 (fun h242 => ?_)
  refine q_cVMI (Y2 := Y_X12_out) (As := [.int (xs (a3 + (1 : Int32)).toNatClampNeg), .int (xs (a3 + (2 : Int32)).toNatClampNeg)]) (b := a2) (st := [.int r240.1]) cl_X12 mv_X12_out qw_1349 dL_law_842 ⟨Nat.le_of_ble_eq_true rfl, Nat.le_of_ble_eq_true rfl⟩ rfl (fun _ _ => rfl) (Nat.le_of_ble_eq_true rfl) ⟨Nat.le_of_ble_eq_true rfl, Nat.le_of_ble_eq_true rfl⟩ (fun r244 h243 => q_ob_is h243) (fun r244 h243 => m_X12_out h243) (fun r244 h243 => ?_)
  refine q_icmp_eq (tgt := 2161) dL_law_845 (by decide) (fun c245 => ?_) (fun c245 => ?_)
  · exact v_L_law_b2161 (hk18)
  · refine q_iconst (x := (0 : Int32)) dL_law_848 rfl ?_
    exact q_zretL dL_law_849 rfl (Or.inl rfl) rfl (Nat.le_of_ble_eq_true rfl) rfl
set_option maxRecDepth 20000 in
theorem v_L_law_b773 {L : Nat} {xs : Nat → Int32} {kk18 : Int32 → q_Mem → Option (Int32 × q_Mem)} {M : q_Mem} {a1 : Nat} {a2 : Nat} {a3 : Int32}  (hk18 : ∀ (a3 : Int32) (M : q_Mem), q_V Y_L_law (some (L, xs)) (fun x : Int32 × q_Mem => (some (.int x.1), x.2)) 131 39214 18 [(0, .float 0), (1, .ref a1), (2, .ref a2), (3, .int a3)] [] M (kk18 a3 M)): q_V Y_L_law (some (L, xs)) (fun x : Int32 × q_Mem => (some (.int x.1), x.2)) 131 39214 773 [(0, .float 0), (1, .ref a1), (2, .ref a2), (3, .int a3)] [] M (f_L_law_b773 L xs kk18 M a1 a2 a3 ) := by
  unfold f_L_law_b773
  refine q_aload_n 1 dL_law_773 rfl ?_
  refine q_aload_s 0 dL_law_774 rfl ?_
  refine q_iload_n 3 dL_law_775 rfl ?_
  refine q_iconst (x := (1 : Int32)) dL_law_776 rfl ?_
  refine q_iadd dL_law_777 ?_
  refine q_sld rfl dL_law_778 (fun h226 => ?_)
  refine q_aload_s 0 dL_law_779 rfl ?_
  refine q_iload_n 3 dL_law_780 rfl ?_
  refine q_iconst (x := (2 : Int32)) dL_law_781 rfl ?_
  refine q_iadd dL_law_782 ?_
  refine q_sld rfl dL_law_783 (fun h227 => ?_)
  refine q_aload_s 0 dL_law_784 rfl ?_
  refine q_iload_n 3 dL_law_785 rfl ?_
  refine q_iconst (x := (3 : Int32)) dL_law_786 rfl ?_
  refine q_iadd dL_law_787 ?_
  refine q_sld rfl dL_law_788 (fun h228 => ?_)
  refine q_cVMJ (Y2 := Y_X11_about) (As := [.int (xs (a3 + (1 : Int32)).toNatClampNeg), .int (xs (a3 + (2 : Int32)).toNatClampNeg), .int (xs (a3 + (3 : Int32)).toNatClampNeg)]) (b := a1) (st := []) cl_X11 mv_X11_about qw_533 dL_law_789 ⟨Nat.le_of_ble_eq_true rfl, Nat.le_of_ble_eq_true rfl⟩ rfl (fun _ _ => rfl) (Nat.le_of_ble_eq_true rfl) ⟨Nat.le_of_ble_eq_true rfl, Nat.le_of_ble_eq_true rfl⟩ (fun r230 h229 => q_ob_is h229) (fun r230 h229 => m_X11_about h229) (fun r230 h229 => ?_)
  refine q_aload_n 2 dL_law_792 rfl ?_
  refine q_aload_s 0 dL_law_793 rfl ?_
  refine q_iload_n 3 dL_law_794 rfl ?_
  refine q_iconst (x := (1 : Int32)) dL_law_795 rfl ?_
  refine q_iadd dL_law_796 ?_
  refine q_sld rfl dL_law_797 (fun h231 => ?_)
  refine q_aload_s 0 dL_law_798 rfl ?_
  refine q_iload_n 3 dL_law_799 rfl ?_
  refine q_iconst (x := (2 : Int32)) dL_law_800 rfl ?_
  refine q_iadd dL_law_801 ?_
  refine q_sld rfl dL_law_802 (fun h232 => ?_)
  refine q_aload_s 0 dL_law_803 rfl ?_
  refine q_iload_n 3 dL_law_804 rfl ?_
  refine q_iconst (x := (3 : Int32)) dL_law_805 rfl ?_
  refine q_iadd dL_law_806 ?_
  refine q_sld rfl dL_law_807 (fun h233 => ?_)
  refine q_cVMJ (Y2 := Y_X12_about) (As := [.int (xs (a3 + (1 : Int32)).toNatClampNeg), .int (xs (a3 + (2 : Int32)).toNatClampNeg), .int (xs (a3 + (3 : Int32)).toNatClampNeg)]) (b := a2) (st := [.long r230.1]) cl_X12 mv_X12_about qw_1312 dL_law_808 ⟨Nat.le_of_ble_eq_true rfl, Nat.le_of_ble_eq_true rfl⟩ rfl (fun _ _ => rfl) (Nat.le_of_ble_eq_true rfl) ⟨Nat.le_of_ble_eq_true rfl, Nat.le_of_ble_eq_true rfl⟩ (fun r235 h234 => q_ob_is h234) (fun r235 h234 => m_X12_about h234) (fun r235 h234 => ?_)
  refine q_lcmp_eq (tgt := 2161) dL_law_811 dL_law_812 (by decide) (fun c236 => ?_) (fun c236 => ?_)
  · exact v_L_law_b2161 (hk18)
  · refine q_iconst (x := (0 : Int32)) dL_law_815 rfl ?_
    exact q_zretL dL_law_816 rfl (Or.inl rfl) rfl (Nat.le_of_ble_eq_true rfl) rfl
set_option maxRecDepth 20000 in
theorem v_L_law_b740 {L : Nat} {xs : Nat → Int32} {kk18 : Int32 → q_Mem → Option (Int32 × q_Mem)} {M : q_Mem} {a1 : Nat} {a2 : Nat} {a3 : Int32}  (hk18 : ∀ (a3 : Int32) (M : q_Mem), q_V Y_L_law (some (L, xs)) (fun x : Int32 × q_Mem => (some (.int x.1), x.2)) 131 39214 18 [(0, .float 0), (1, .ref a1), (2, .ref a2), (3, .int a3)] [] M (kk18 a3 M)): q_V Y_L_law (some (L, xs)) (fun x : Int32 × q_Mem => (some (.int x.1), x.2)) 131 39214 740 [(0, .float 0), (1, .ref a1), (2, .ref a2), (3, .int a3)] [] M (f_L_law_b740 L xs kk18 M a1 a2 a3 ) := by
  unfold f_L_law_b740
  refine q_aload_n 1 dL_law_740 rfl ?_
  refine q_aload_s 0 dL_law_741 rfl ?_
  refine q_iload_n 3 dL_law_742 rfl ?_
  refine q_iconst (x := (1 : Int32)) dL_law_743 rfl ?_
  refine q_iadd dL_law_744 ?_
  refine q_sld rfl dL_law_745 (fun h217 => ?_)
  refine q_aload_s 0 dL_law_746 rfl ?_
  refine q_iload_n 3 dL_law_747 rfl ?_
  refine q_iconst (x := (2 : Int32)) dL_law_748 rfl ?_
  refine q_iadd dL_law_749 ?_
  refine q_sld rfl dL_law_750 (fun h218 => ?_)
  refine q_cVMI (Y2 := Y_X11_fill) (As := [.int (xs (a3 + (1 : Int32)).toNatClampNeg), .int (xs (a3 + (2 : Int32)).toNatClampNeg)]) (b := a1) (st := []) cl_X11 mv_X11_fill qw_529 dL_law_751 ⟨Nat.le_of_ble_eq_true rfl, Nat.le_of_ble_eq_true rfl⟩ rfl (fun _ _ => rfl) (Nat.le_of_ble_eq_true rfl) ⟨Nat.le_of_ble_eq_true rfl, Nat.le_of_ble_eq_true rfl⟩ (fun r220 h219 => q_ob_is h219) (fun r220 h219 => m_X11_fill h219) (fun r220 h219 => ?_)
  refine q_aload_n 2 dL_law_754 rfl ?_
  refine q_aload_s 0 dL_law_755 rfl ?_
  refine q_iload_n 3 dL_law_756 rfl ?_
  refine q_iconst (x := (1 : Int32)) dL_law_757 rfl ?_
  refine q_iadd dL_law_758 ?_
  refine q_sld rfl dL_law_759 (fun h221 => ?_)
  refine q_aload_s 0 dL_law_760 rfl ?_
  refine q_iload_n 3 dL_law_761 rfl ?_
  refine q_iconst (x := (2 : Int32)) dL_law_762 rfl ?_
  refine q_iadd dL_law_763 ?_
  refine q_sld rfl dL_law_764 (fun h222 => ?_)
  refine q_cVMI (Y2 := Y_X12_fill) (As := [.int (xs (a3 + (1 : Int32)).toNatClampNeg), .int (xs (a3 + (2 : Int32)).toNatClampNeg)]) (b := a2) (st := [.int r220.1]) cl_X12 mv_X12_fill qw_1308 dL_law_765 ⟨Nat.le_of_ble_eq_true rfl, Nat.le_of_ble_eq_true rfl⟩ rfl (fun _ _ => rfl) (Nat.le_of_ble_eq_true rfl) ⟨Nat.le_of_ble_eq_true rfl, Nat.le_of_ble_eq_true rfl⟩ (fun r224 h223 => q_ob_is h223) (fun r224 h223 => m_X12_fill h223) (fun r224 h223 => ?_)
  refine q_icmp_eq (tgt := 2161) dL_law_768 (by decide) (fun c225 => ?_) (fun c225 => ?_)
  · exact v_L_law_b2161 (hk18)
  · refine q_iconst (x := (0 : Int32)) dL_law_771 rfl ?_
    exact q_zretL dL_law_772 rfl (Or.inl rfl) rfl (Nat.le_of_ble_eq_true rfl) rfl
set_option maxRecDepth 20000 in
theorem v_L_law_b707 {L : Nat} {xs : Nat → Int32} {kk18 : Int32 → q_Mem → Option (Int32 × q_Mem)} {M : q_Mem} {a1 : Nat} {a2 : Nat} {a3 : Int32}  (hk18 : ∀ (a3 : Int32) (M : q_Mem), q_V Y_L_law (some (L, xs)) (fun x : Int32 × q_Mem => (some (.int x.1), x.2)) 131 39214 18 [(0, .float 0), (1, .ref a1), (2, .ref a2), (3, .int a3)] [] M (kk18 a3 M)): q_V Y_L_law (some (L, xs)) (fun x : Int32 × q_Mem => (some (.int x.1), x.2)) 131 39214 707 [(0, .float 0), (1, .ref a1), (2, .ref a2), (3, .int a3)] [] M (f_L_law_b707 L xs kk18 M a1 a2 a3 ) := by
  unfold f_L_law_b707
  refine q_aload_n 1 dL_law_707 rfl ?_
  refine q_aload_s 0 dL_law_708 rfl ?_
  refine q_iload_n 3 dL_law_709 rfl ?_
  refine q_iconst (x := (1 : Int32)) dL_law_710 rfl ?_
  refine q_iadd dL_law_711 ?_
  refine q_sld rfl dL_law_712 (fun h208 => ?_)
  refine q_aload_s 0 dL_law_713 rfl ?_
  refine q_iload_n 3 dL_law_714 rfl ?_
  refine q_iconst (x := (2 : Int32)) dL_law_715 rfl ?_
  refine q_iadd dL_law_716 ?_
  refine q_sld rfl dL_law_717 (fun h209 => ?_)
  refine q_cVMI (Y2 := Y_X11_churn) (As := [.int (xs (a3 + (1 : Int32)).toNatClampNeg), .int (xs (a3 + (2 : Int32)).toNatClampNeg)]) (b := a1) (st := []) cl_X11 mv_X11_churn qw_525 dL_law_718 ⟨Nat.le_of_ble_eq_true rfl, Nat.le_of_ble_eq_true rfl⟩ rfl (fun _ _ => rfl) (Nat.le_of_ble_eq_true rfl) ⟨Nat.le_of_ble_eq_true rfl, Nat.le_of_ble_eq_true rfl⟩ (fun r211 h210 => q_ob_is h210) (fun r211 h210 => m_X11_churn h210) (fun r211 h210 => ?_)
  refine q_aload_n 2 dL_law_721 rfl ?_
  refine q_aload_s 0 dL_law_722 rfl ?_
  refine q_iload_n 3 dL_law_723 rfl ?_
  refine q_iconst (x := (1 : Int32)) dL_law_724 rfl ?_
  refine q_iadd dL_law_725 ?_
  refine q_sld rfl dL_law_726 (fun h212 => ?_)
  refine q_aload_s 0 dL_law_727 rfl ?_
  refine q_iload_n 3 dL_law_728 rfl ?_
  refine q_iconst (x := (2 : Int32)) dL_law_729 rfl ?_
  refine q_iadd dL_law_730 ?_
  refine q_sld rfl dL_law_731 (fun h213 => ?_)
  refine q_cVMI (Y2 := Y_X12_churn) (As := [.int (xs (a3 + (1 : Int32)).toNatClampNeg), .int (xs (a3 + (2 : Int32)).toNatClampNeg)]) (b := a2) (st := [.int r211.1]) cl_X12 mv_X12_churn qw_1304 dL_law_732 ⟨Nat.le_of_ble_eq_true rfl, Nat.le_of_ble_eq_true rfl⟩ rfl (fun _ _ => rfl) (Nat.le_of_ble_eq_true rfl) ⟨Nat.le_of_ble_eq_true rfl, Nat.le_of_ble_eq_true rfl⟩ (fun r215 h214 => q_ob_is h214) (fun r215 h214 => m_X12_churn h214) (fun r215 h214 => ?_)
  refine q_icmp_eq (tgt := 2161) dL_law_735 (by decide) (fun c216 => ?_) (fun c216 => ?_)
  · exact v_L_law_b2161 (hk18)
  · refine q_iconst (x := (0 : Int32)) dL_law_738 rfl ?_
    exact q_zretL dL_law_739 rfl (Or.inl rfl) rfl (Nat.le_of_ble_eq_true rfl) rfl
set_option maxRecDepth 20000 in
theorem v_L_law_b663 {L : Nat} {xs : Nat → Int32} {kk18 : Int32 → q_Mem → Option (Int32 × q_Mem)} {M : q_Mem} {a1 : Nat} {a2 : Nat} {a3 : Int32}  (hk18 : ∀ (a3 : Int32) (M : q_Mem), q_V Y_L_law (some (L, xs)) (fun x : Int32 × q_Mem => (some (.int x.1), x.2)) 131 39214 18 [(0, .float 0), (1, .ref a1), (2, .ref a2), (3, .int a3)] [] M (kk18 a3 M)): q_V Y_L_law (some (L, xs)) (fun x : Int32 × q_Mem => (some (.int x.1), x.2)) 131 39214 663 [(0, .float 0), (1, .ref a1), (2, .ref a2), (3, .int a3)] [] M (f_L_law_b663 L xs kk18 M a1 a2 a3 ) := by
  unfold f_L_law_b663
  refine q_aload_n 1 dL_law_663 rfl ?_
  refine q_aload_s 0 dL_law_664 rfl ?_
  refine q_iload_n 3 dL_law_665 rfl ?_
  refine q_iconst (x := (1 : Int32)) dL_law_666 rfl ?_
  refine q_iadd dL_law_667 ?_
  refine q_sld rfl dL_law_668 (fun h197 => ?_)
  refine q_aload_s 0 dL_law_669 rfl ?_
  refine q_iload_n 3 dL_law_670 rfl ?_
  refine q_iconst (x := (2 : Int32)) dL_law_671 rfl ?_
  refine q_iadd dL_law_672 ?_
  refine q_sld rfl dL_law_673 (fun h198 => ?_)
  refine q_aload_s 0 dL_law_674 rfl ?_
  refine q_iload_n 3 dL_law_675 rfl ?_
  refine q_iconst (x := (3 : Int32)) dL_law_676 rfl ?_
  refine q_iadd dL_law_677 ?_
  refine q_sld rfl dL_law_678 (fun h199 => ?_)
  refine q_cVMJ (Y2 := Y_X11_fat) (As := [.int (xs (a3 + (1 : Int32)).toNatClampNeg), .int (xs (a3 + (2 : Int32)).toNatClampNeg), .int (xs (a3 + (3 : Int32)).toNatClampNeg)]) (b := a1) (st := []) cl_X11 mv_X11_fat qw_508 dL_law_679 ⟨Nat.le_of_ble_eq_true rfl, Nat.le_of_ble_eq_true rfl⟩ rfl (fun _ _ => rfl) (Nat.le_of_ble_eq_true rfl) ⟨Nat.le_of_ble_eq_true rfl, Nat.le_of_ble_eq_true rfl⟩ (fun r201 h200 => q_ob_is h200) (fun r201 h200 => m_X11_fat h200) (fun r201 h200 => ?_)
  refine q_aload_n 2 dL_law_682 rfl ?_
  refine q_aload_s 0 dL_law_683 rfl ?_
  refine q_iload_n 3 dL_law_684 rfl ?_
  refine q_iconst (x := (1 : Int32)) dL_law_685 rfl ?_
  refine q_iadd dL_law_686 ?_
  refine q_sld rfl dL_law_687 (fun h202 => ?_)
  refine q_aload_s 0 dL_law_688 rfl ?_
  refine q_iload_n 3 dL_law_689 rfl ?_
  refine q_iconst (x := (2 : Int32)) dL_law_690 rfl ?_
  refine q_iadd dL_law_691 ?_
  refine q_sld rfl dL_law_692 (fun h203 => ?_)
  refine q_aload_s 0 dL_law_693 rfl ?_
  refine q_iload_n 3 dL_law_694 rfl ?_
  refine q_iconst (x := (3 : Int32)) dL_law_695 rfl ?_
  refine q_iadd dL_law_696 ?_
  refine q_sld rfl dL_law_697 (fun h204 => ?_)
  refine q_cVMJ (Y2 := Y_X12_fat) (As := [.int (xs (a3 + (1 : Int32)).toNatClampNeg), .int (xs (a3 + (2 : Int32)).toNatClampNeg), .int (xs (a3 + (3 : Int32)).toNatClampNeg)]) (b := a2) (st := [.long r201.1]) cl_X12 mv_X12_fat qw_1292 dL_law_698 ⟨Nat.le_of_ble_eq_true rfl, Nat.le_of_ble_eq_true rfl⟩ rfl (fun _ _ => rfl) (Nat.le_of_ble_eq_true rfl) ⟨Nat.le_of_ble_eq_true rfl, Nat.le_of_ble_eq_true rfl⟩ (fun r206 h205 => q_ob_is h205) (fun r206 h205 => m_X12_fat h205) (fun r206 h205 => ?_)
  refine q_lcmp_eq (tgt := 2161) dL_law_701 dL_law_702 (by decide) (fun c207 => ?_) (fun c207 => ?_)
  · exact v_L_law_b2161 (hk18)
  · refine q_iconst (x := (0 : Int32)) dL_law_705 rfl ?_
    exact q_zretL dL_law_706 rfl (Or.inl rfl) rfl (Nat.le_of_ble_eq_true rfl) rfl
set_option maxRecDepth 20000 in
theorem v_L_law_b630 {L : Nat} {xs : Nat → Int32} {kk18 : Int32 → q_Mem → Option (Int32 × q_Mem)} {M : q_Mem} {a1 : Nat} {a2 : Nat} {a3 : Int32}  (hk18 : ∀ (a3 : Int32) (M : q_Mem), q_V Y_L_law (some (L, xs)) (fun x : Int32 × q_Mem => (some (.int x.1), x.2)) 131 39214 18 [(0, .float 0), (1, .ref a1), (2, .ref a2), (3, .int a3)] [] M (kk18 a3 M)): q_V Y_L_law (some (L, xs)) (fun x : Int32 × q_Mem => (some (.int x.1), x.2)) 131 39214 630 [(0, .float 0), (1, .ref a1), (2, .ref a2), (3, .int a3)] [] M (f_L_law_b630 L xs kk18 M a1 a2 a3 ) := by
  unfold f_L_law_b630
  refine q_aload_n 1 dL_law_630 rfl ?_
  refine q_aload_s 0 dL_law_631 rfl ?_
  refine q_iload_n 3 dL_law_632 rfl ?_
  refine q_iconst (x := (1 : Int32)) dL_law_633 rfl ?_
  refine q_iadd dL_law_634 ?_
  refine q_sld rfl dL_law_635 (fun h188 => ?_)
  refine q_aload_s 0 dL_law_636 rfl ?_
  refine q_iload_n 3 dL_law_637 rfl ?_
  refine q_iconst (x := (2 : Int32)) dL_law_638 rfl ?_
  refine q_iadd dL_law_639 ?_
  refine q_sld rfl dL_law_640 (fun h189 => ?_)
  refine q_cVMI (Y2 := Y_X11_canRate) (As := [.int (xs (a3 + (1 : Int32)).toNatClampNeg), .int (xs (a3 + (2 : Int32)).toNatClampNeg)]) (b := a1) (st := []) cl_X11 mv_X11_canRate qw_487 dL_law_641 ⟨Nat.le_of_ble_eq_true rfl, Nat.le_of_ble_eq_true rfl⟩ rfl (fun _ _ => rfl) (Nat.le_of_ble_eq_true rfl) ⟨Nat.le_of_ble_eq_true rfl, Nat.le_of_ble_eq_true rfl⟩ (fun r191 h190 => q_ob_is h190) (fun r191 h190 => m_X11_canRate h190) (fun r191 h190 => ?_)
  refine q_aload_n 2 dL_law_644 rfl ?_
  refine q_aload_s 0 dL_law_645 rfl ?_
  refine q_iload_n 3 dL_law_646 rfl ?_
  refine q_iconst (x := (1 : Int32)) dL_law_647 rfl ?_
  refine q_iadd dL_law_648 ?_
  refine q_sld rfl dL_law_649 (fun h192 => ?_)
  refine q_aload_s 0 dL_law_650 rfl ?_
  refine q_iload_n 3 dL_law_651 rfl ?_
  refine q_iconst (x := (2 : Int32)) dL_law_652 rfl ?_
  refine q_iadd dL_law_653 ?_
  refine q_sld rfl dL_law_654 (fun h193 => ?_)
  refine q_cVMI (Y2 := Y_X12_canRate) (As := [.int (xs (a3 + (1 : Int32)).toNatClampNeg), .int (xs (a3 + (2 : Int32)).toNatClampNeg)]) (b := a2) (st := [.int r191.1]) cl_X12 mv_X12_canRate qw_1276 dL_law_655 ⟨Nat.le_of_ble_eq_true rfl, Nat.le_of_ble_eq_true rfl⟩ rfl (fun _ _ => rfl) (Nat.le_of_ble_eq_true rfl) ⟨Nat.le_of_ble_eq_true rfl, Nat.le_of_ble_eq_true rfl⟩ (fun r195 h194 => q_ob_is h194) (fun r195 h194 => m_X12_canRate h194) (fun r195 h194 => ?_)
  refine q_icmp_eq (tgt := 2161) dL_law_658 (by decide) (fun c196 => ?_) (fun c196 => ?_)
  · exact v_L_law_b2161 (hk18)
  · refine q_iconst (x := (0 : Int32)) dL_law_661 rfl ?_
    exact q_zretL dL_law_662 rfl (Or.inl rfl) rfl (Nat.le_of_ble_eq_true rfl) rfl
set_option maxRecDepth 20000 in
theorem v_L_law_b597 {L : Nat} {xs : Nat → Int32} {kk18 : Int32 → q_Mem → Option (Int32 × q_Mem)} {M : q_Mem} {a1 : Nat} {a2 : Nat} {a3 : Int32}  (hk18 : ∀ (a3 : Int32) (M : q_Mem), q_V Y_L_law (some (L, xs)) (fun x : Int32 × q_Mem => (some (.int x.1), x.2)) 131 39214 18 [(0, .float 0), (1, .ref a1), (2, .ref a2), (3, .int a3)] [] M (kk18 a3 M)): q_V Y_L_law (some (L, xs)) (fun x : Int32 × q_Mem => (some (.int x.1), x.2)) 131 39214 597 [(0, .float 0), (1, .ref a1), (2, .ref a2), (3, .int a3)] [] M (f_L_law_b597 L xs kk18 M a1 a2 a3 ) := by
  unfold f_L_law_b597
  refine q_aload_n 1 dL_law_597 rfl ?_
  refine q_aload_s 0 dL_law_598 rfl ?_
  refine q_iload_n 3 dL_law_599 rfl ?_
  refine q_iconst (x := (1 : Int32)) dL_law_600 rfl ?_
  refine q_iadd dL_law_601 ?_
  refine q_sld rfl dL_law_602 (fun h179 => ?_)
  refine q_aload_s 0 dL_law_603 rfl ?_
  refine q_iload_n 3 dL_law_604 rfl ?_
  refine q_iconst (x := (2 : Int32)) dL_law_605 rfl ?_
  refine q_iadd dL_law_606 ?_
  refine q_sld rfl dL_law_607 (fun h180 => ?_)
  refine q_cVI (Y2 := Y_X11_rate) (As := [.int (xs (a3 + (1 : Int32)).toNatClampNeg), .int (xs (a3 + (2 : Int32)).toNatClampNeg)]) (b := a1) (st := []) cl_X11 mv_X11_rate qw_454 dL_law_608 ⟨Nat.le_of_ble_eq_true rfl, Nat.le_of_ble_eq_true rfl⟩ rfl (fun _ _ => rfl) (Nat.le_of_ble_eq_true rfl) ⟨Nat.le_of_ble_eq_true rfl, Nat.le_of_ble_eq_true rfl⟩ (fun v182 h181 => q_ob_is h181) (fun v182 h181 => m_X11_rate h181) (fun v182 h181 => ?_)
  refine q_aload_n 2 dL_law_611 rfl ?_
  refine q_aload_s 0 dL_law_612 rfl ?_
  refine q_iload_n 3 dL_law_613 rfl ?_
  refine q_iconst (x := (1 : Int32)) dL_law_614 rfl ?_
  refine q_iadd dL_law_615 ?_
  refine q_sld rfl dL_law_616 (fun h183 => ?_)
  refine q_aload_s 0 dL_law_617 rfl ?_
  refine q_iload_n 3 dL_law_618 rfl ?_
  refine q_iconst (x := (2 : Int32)) dL_law_619 rfl ?_
  refine q_iadd dL_law_620 ?_
  refine q_sld rfl dL_law_621 (fun h184 => ?_)
  refine q_cVI (Y2 := Y_X12_rate) (As := [.int (xs (a3 + (1 : Int32)).toNatClampNeg), .int (xs (a3 + (2 : Int32)).toNatClampNeg)]) (b := a2) (st := [.int v182]) cl_X12 mv_X12_rate qw_1252 dL_law_622 ⟨Nat.le_of_ble_eq_true rfl, Nat.le_of_ble_eq_true rfl⟩ rfl (fun _ _ => rfl) (Nat.le_of_ble_eq_true rfl) ⟨Nat.le_of_ble_eq_true rfl, Nat.le_of_ble_eq_true rfl⟩ (fun v186 h185 => q_ob_is h185) (fun v186 h185 => m_X12_rate h185) (fun v186 h185 => ?_)
  refine q_icmp_eq (tgt := 2161) dL_law_625 (by decide) (fun c187 => ?_) (fun c187 => ?_)
  · exact v_L_law_b2161 (hk18)
  · refine q_iconst (x := (0 : Int32)) dL_law_628 rfl ?_
    exact q_zretL dL_law_629 rfl (Or.inl rfl) rfl (Nat.le_of_ble_eq_true rfl) rfl
set_option maxRecDepth 20000 in
theorem v_L_law_b574 {L : Nat} {xs : Nat → Int32} {kk18 : Int32 → q_Mem → Option (Int32 × q_Mem)} {M : q_Mem} {a1 : Nat} {a2 : Nat} {a3 : Int32}  (hk18 : ∀ (a3 : Int32) (M : q_Mem), q_V Y_L_law (some (L, xs)) (fun x : Int32 × q_Mem => (some (.int x.1), x.2)) 131 39214 18 [(0, .float 0), (1, .ref a1), (2, .ref a2), (3, .int a3)] [] M (kk18 a3 M)): q_V Y_L_law (some (L, xs)) (fun x : Int32 × q_Mem => (some (.int x.1), x.2)) 131 39214 574 [(0, .float 0), (1, .ref a1), (2, .ref a2), (3, .int a3)] [] M (f_L_law_b574 L xs kk18 M a1 a2 a3 ) := by
  unfold f_L_law_b574
  refine q_aload_n 1 dL_law_574 rfl ?_
  refine q_aload_s 0 dL_law_575 rfl ?_
  refine q_iload_n 3 dL_law_576 rfl ?_
  refine q_iconst (x := (1 : Int32)) dL_law_577 rfl ?_
  refine q_iadd dL_law_578 ?_
  refine q_sld rfl dL_law_579 (fun h172 => ?_)
  refine q_cVMI (Y2 := Y_X11_period) (As := [.int (xs (a3 + (1 : Int32)).toNatClampNeg)]) (b := a1) (st := []) cl_X11 mv_X11_period qw_450 dL_law_580 ⟨Nat.le_of_ble_eq_true rfl, Nat.le_of_ble_eq_true rfl⟩ rfl (fun _ _ => rfl) (Nat.le_of_ble_eq_true rfl) ⟨Nat.le_of_ble_eq_true rfl, Nat.le_of_ble_eq_true rfl⟩ (fun r174 h173 => q_ob_is h173) (fun r174 h173 => m_X11_period h173) (fun r174 h173 => ?_)
  refine q_aload_n 2 dL_law_583 rfl ?_
  refine q_aload_s 0 dL_law_584 rfl ?_
  refine q_iload_n 3 dL_law_585 rfl ?_
  refine q_iconst (x := (1 : Int32)) dL_law_586 rfl ?_
  refine q_iadd dL_law_587 ?_
  refine q_sld rfl dL_law_588 (fun h175 => ?_)
  refine q_cVMI (Y2 := Y_X12_period) (As := [.int (xs (a3 + (1 : Int32)).toNatClampNeg)]) (b := a2) (st := [.int r174.1]) cl_X12 mv_X12_period qw_1248 dL_law_589 ⟨Nat.le_of_ble_eq_true rfl, Nat.le_of_ble_eq_true rfl⟩ rfl (fun _ _ => rfl) (Nat.le_of_ble_eq_true rfl) ⟨Nat.le_of_ble_eq_true rfl, Nat.le_of_ble_eq_true rfl⟩ (fun r177 h176 => q_ob_is h176) (fun r177 h176 => m_X12_period h176) (fun r177 h176 => ?_)
  refine q_icmp_eq (tgt := 2161) dL_law_592 (by decide) (fun c178 => ?_) (fun c178 => ?_)
  · exact v_L_law_b2161 (hk18)
  · refine q_iconst (x := (0 : Int32)) dL_law_595 rfl ?_
    exact q_zretL dL_law_596 rfl (Or.inl rfl) rfl (Nat.le_of_ble_eq_true rfl) rfl
set_option maxRecDepth 20000 in
theorem v_L_law_b541 {L : Nat} {xs : Nat → Int32} {kk18 : Int32 → q_Mem → Option (Int32 × q_Mem)} {M : q_Mem} {a1 : Nat} {a2 : Nat} {a3 : Int32}  (hk18 : ∀ (a3 : Int32) (M : q_Mem), q_V Y_L_law (some (L, xs)) (fun x : Int32 × q_Mem => (some (.int x.1), x.2)) 131 39214 18 [(0, .float 0), (1, .ref a1), (2, .ref a2), (3, .int a3)] [] M (kk18 a3 M)): q_V Y_L_law (some (L, xs)) (fun x : Int32 × q_Mem => (some (.int x.1), x.2)) 131 39214 541 [(0, .float 0), (1, .ref a1), (2, .ref a2), (3, .int a3)] [] M (f_L_law_b541 L xs kk18 M a1 a2 a3 ) := by
  unfold f_L_law_b541
  refine q_aload_n 1 dL_law_541 rfl ?_
  refine q_aload_s 0 dL_law_542 rfl ?_
  refine q_iload_n 3 dL_law_543 rfl ?_
  refine q_iconst (x := (1 : Int32)) dL_law_544 rfl ?_
  refine q_iadd dL_law_545 ?_
  refine q_sld rfl dL_law_546 (fun h163 => ?_)
  refine q_aload_s 0 dL_law_547 rfl ?_
  refine q_iload_n 3 dL_law_548 rfl ?_
  refine q_iconst (x := (2 : Int32)) dL_law_549 rfl ?_
  refine q_iadd dL_law_550 ?_
  refine q_sld rfl dL_law_551 (fun h164 => ?_)
  refine q_cVMI (Y2 := Y_X11_bias) (As := [.int (xs (a3 + (1 : Int32)).toNatClampNeg), .int (xs (a3 + (2 : Int32)).toNatClampNeg)]) (b := a1) (st := []) cl_X11 mv_X11_bias qw_446 dL_law_552 ⟨Nat.le_of_ble_eq_true rfl, Nat.le_of_ble_eq_true rfl⟩ rfl (fun _ _ => rfl) (Nat.le_of_ble_eq_true rfl) ⟨Nat.le_of_ble_eq_true rfl, Nat.le_of_ble_eq_true rfl⟩ (fun r166 h165 => q_ob_is h165) (fun r166 h165 => m_X11_bias h165) (fun r166 h165 => ?_)
  refine q_aload_n 2 dL_law_555 rfl ?_
  refine q_aload_s 0 dL_law_556 rfl ?_
  refine q_iload_n 3 dL_law_557 rfl ?_
  refine q_iconst (x := (1 : Int32)) dL_law_558 rfl ?_
  refine q_iadd dL_law_559 ?_
  refine q_sld rfl dL_law_560 (fun h167 => ?_)
  refine q_aload_s 0 dL_law_561 rfl ?_
  refine q_iload_n 3 dL_law_562 rfl ?_
  refine q_iconst (x := (2 : Int32)) dL_law_563 rfl ?_
  refine q_iadd dL_law_564 ?_
  refine q_sld rfl dL_law_565 (fun h168 => ?_)
  refine q_cVMI (Y2 := Y_X12_bias) (As := [.int (xs (a3 + (1 : Int32)).toNatClampNeg), .int (xs (a3 + (2 : Int32)).toNatClampNeg)]) (b := a2) (st := [.int r166.1]) cl_X12 mv_X12_bias qw_1244 dL_law_566 ⟨Nat.le_of_ble_eq_true rfl, Nat.le_of_ble_eq_true rfl⟩ rfl (fun _ _ => rfl) (Nat.le_of_ble_eq_true rfl) ⟨Nat.le_of_ble_eq_true rfl, Nat.le_of_ble_eq_true rfl⟩ (fun r170 h169 => q_ob_is h169) (fun r170 h169 => m_X12_bias h169) (fun r170 h169 => ?_)
  refine q_icmp_eq (tgt := 2161) dL_law_569 (by decide) (fun c171 => ?_) (fun c171 => ?_)
  · exact v_L_law_b2161 (hk18)
  · refine q_iconst (x := (0 : Int32)) dL_law_572 rfl ?_
    exact q_zretL dL_law_573 rfl (Or.inl rfl) rfl (Nat.le_of_ble_eq_true rfl) rfl
set_option maxRecDepth 20000 in
theorem v_L_law_b498 {L : Nat} {xs : Nat → Int32} {kk18 : Int32 → q_Mem → Option (Int32 × q_Mem)} {M : q_Mem} {a1 : Nat} {a2 : Nat} {a3 : Int32}  (hk18 : ∀ (a3 : Int32) (M : q_Mem), q_V Y_L_law (some (L, xs)) (fun x : Int32 × q_Mem => (some (.int x.1), x.2)) 131 39214 18 [(0, .float 0), (1, .ref a1), (2, .ref a2), (3, .int a3)] [] M (kk18 a3 M)): q_V Y_L_law (some (L, xs)) (fun x : Int32 × q_Mem => (some (.int x.1), x.2)) 131 39214 498 [(0, .float 0), (1, .ref a1), (2, .ref a2), (3, .int a3)] [] M (f_L_law_b498 L xs kk18 M a1 a2 a3 ) := by
  unfold f_L_law_b498
  refine q_aload_n 1 dL_law_498 rfl ?_
  refine q_aload_s 0 dL_law_499 rfl ?_
  refine q_iload_n 3 dL_law_500 rfl ?_
  refine q_iconst (x := (1 : Int32)) dL_law_501 rfl ?_
  refine q_iadd dL_law_502 ?_
  refine q_sld rfl dL_law_503 (fun h152 => ?_)
  refine q_aload_s 0 dL_law_504 rfl ?_
  refine q_iload_n 3 dL_law_505 rfl ?_
  refine q_iconst (x := (2 : Int32)) dL_law_506 rfl ?_
  refine q_iadd dL_law_507 ?_
  refine q_sld rfl dL_law_508 (fun h153 => ?_)
  refine q_aload_s 0 dL_law_509 rfl ?_
  refine q_iload_n 3 dL_law_510 rfl ?_
  refine q_iconst (x := (3 : Int32)) dL_law_511 rfl ?_
  refine q_iadd dL_law_512 ?_
  refine q_sld rfl dL_law_513 (fun h154 => ?_)
  refine q_cVMI (Y2 := Y_X11_right) (As := [.int (xs (a3 + (1 : Int32)).toNatClampNeg), .int (xs (a3 + (2 : Int32)).toNatClampNeg), .int (xs (a3 + (3 : Int32)).toNatClampNeg)]) (b := a1) (st := []) cl_X11 mv_X11_right qw_438 dL_law_514 ⟨Nat.le_of_ble_eq_true rfl, Nat.le_of_ble_eq_true rfl⟩ rfl (fun _ _ => rfl) (Nat.le_of_ble_eq_true rfl) ⟨Nat.le_of_ble_eq_true rfl, Nat.le_of_ble_eq_true rfl⟩ (fun r156 h155 => q_ob_is h155) (fun r156 h155 => m_X11_right h155) (fun r156 h155 => ?_)
  refine q_aload_n 2 dL_law_517 rfl ?_
  refine q_aload_s 0 dL_law_518 rfl ?_
  refine q_iload_n 3 dL_law_519 rfl ?_
  refine q_iconst (x := (1 : Int32)) dL_law_520 rfl ?_
  refine q_iadd dL_law_521 ?_
  refine q_sld rfl dL_law_522 (fun h157 => ?_)
  refine q_aload_s 0 dL_law_523 rfl ?_
  refine q_iload_n 3 dL_law_524 rfl ?_
  refine q_iconst (x := (2 : Int32)) dL_law_525 rfl ?_
  refine q_iadd dL_law_526 ?_
  refine q_sld rfl dL_law_527 (fun h158 => ?_)
  refine q_aload_s 0 dL_law_528 rfl ?_
  refine q_iload_n 3 dL_law_529 rfl ?_
  refine q_iconst (x := (3 : Int32)) dL_law_530 rfl ?_
  refine q_iadd dL_law_531 ?_
  refine q_sld rfl dL_law_532 (fun h159 => ?_)
  refine q_cVMI (Y2 := Y_X12_right) (As := [.int (xs (a3 + (1 : Int32)).toNatClampNeg), .int (xs (a3 + (2 : Int32)).toNatClampNeg), .int (xs (a3 + (3 : Int32)).toNatClampNeg)]) (b := a2) (st := [.int r156.1]) cl_X12 mv_X12_right qw_1240 dL_law_533 ⟨Nat.le_of_ble_eq_true rfl, Nat.le_of_ble_eq_true rfl⟩ rfl (fun _ _ => rfl) (Nat.le_of_ble_eq_true rfl) ⟨Nat.le_of_ble_eq_true rfl, Nat.le_of_ble_eq_true rfl⟩ (fun r161 h160 => q_ob_is h160) (fun r161 h160 => m_X12_right h160) (fun r161 h160 => ?_)
  refine q_icmp_eq (tgt := 2161) dL_law_536 (by decide) (fun c162 => ?_) (fun c162 => ?_)
  · exact v_L_law_b2161 (hk18)
  · refine q_iconst (x := (0 : Int32)) dL_law_539 rfl ?_
    exact q_zretL dL_law_540 rfl (Or.inl rfl) rfl (Nat.le_of_ble_eq_true rfl) rfl
set_option maxRecDepth 20000 in
theorem v_L_law_b435 {L : Nat} {xs : Nat → Int32} {kk18 : Int32 → q_Mem → Option (Int32 × q_Mem)} {M : q_Mem} {a1 : Nat} {a2 : Nat} {a3 : Int32}  (hk18 : ∀ (a3 : Int32) (M : q_Mem), q_V Y_L_law (some (L, xs)) (fun x : Int32 × q_Mem => (some (.int x.1), x.2)) 131 39214 18 [(0, .float 0), (1, .ref a1), (2, .ref a2), (3, .int a3)] [] M (kk18 a3 M)): q_V Y_L_law (some (L, xs)) (fun x : Int32 × q_Mem => (some (.int x.1), x.2)) 131 39214 435 [(0, .float 0), (1, .ref a1), (2, .ref a2), (3, .int a3)] [] M (f_L_law_b435 L xs kk18 M a1 a2 a3 ) := by
  unfold f_L_law_b435
  refine q_aload_n 1 dL_law_435 rfl ?_
  refine q_aload_s 0 dL_law_436 rfl ?_
  refine q_iload_n 3 dL_law_437 rfl ?_
  refine q_iconst (x := (1 : Int32)) dL_law_438 rfl ?_
  refine q_iadd dL_law_439 ?_
  refine q_sld rfl dL_law_440 (fun h137 => ?_)
  refine q_aload_s 0 dL_law_441 rfl ?_
  refine q_iload_n 3 dL_law_442 rfl ?_
  refine q_iconst (x := (2 : Int32)) dL_law_443 rfl ?_
  refine q_iadd dL_law_444 ?_
  refine q_sld rfl dL_law_445 (fun h138 => ?_)
  refine q_aload_s 0 dL_law_446 rfl ?_
  refine q_iload_n 3 dL_law_447 rfl ?_
  refine q_iconst (x := (3 : Int32)) dL_law_448 rfl ?_
  refine q_iadd dL_law_449 ?_
  refine q_sld rfl dL_law_450 (fun h139 => ?_)
  refine q_aload_s 0 dL_law_451 rfl ?_
  refine q_iload_n 3 dL_law_452 rfl ?_
  refine q_iconst (x := (4 : Int32)) dL_law_453 rfl ?_
  refine q_iadd dL_law_454 ?_
  refine q_sld rfl dL_law_455 (fun h140 => ?_)
  refine q_aload_s 0 dL_law_456 rfl ?_
  refine q_iload_n 3 dL_law_457 rfl ?_
  refine q_iconst (x := (5 : Int32)) dL_law_458 rfl ?_
  refine q_iadd dL_law_459 ?_
  refine q_sld rfl dL_law_460 (fun h141 => ?_)
  refine q_cVMI (Y2 := Y_X11_test) (As := [.int (xs (a3 + (1 : Int32)).toNatClampNeg), .int (xs (a3 + (2 : Int32)).toNatClampNeg), .int (xs (a3 + (3 : Int32)).toNatClampNeg), .int (xs (a3 + (4 : Int32)).toNatClampNeg), .int (xs (a3 + (5 : Int32)).toNatClampNeg)]) (b := a1) (st := []) cl_X11 mv_X11_test qw_431 dL_law_461 ⟨Nat.le_of_ble_eq_true rfl, Nat.le_of_ble_eq_true rfl⟩ rfl (fun _ _ => rfl) (Nat.le_of_ble_eq_true rfl) ⟨Nat.le_of_ble_eq_true rfl, Nat.le_of_ble_eq_true rfl⟩ (fun r143 h142 => q_ob_is h142) (fun r143 h142 => m_X11_test h142) (fun r143 h142 => ?_)
  refine q_aload_n 2 dL_law_464 rfl ?_
  refine q_aload_s 0 dL_law_465 rfl ?_
  refine q_iload_n 3 dL_law_466 rfl ?_
  refine q_iconst (x := (1 : Int32)) dL_law_467 rfl ?_
  refine q_iadd dL_law_468 ?_
  refine q_sld rfl dL_law_469 (fun h144 => ?_)
  refine q_aload_s 0 dL_law_470 rfl ?_
  refine q_iload_n 3 dL_law_471 rfl ?_
  refine q_iconst (x := (2 : Int32)) dL_law_472 rfl ?_
  refine q_iadd dL_law_473 ?_
  refine q_sld rfl dL_law_474 (fun h145 => ?_)
  refine q_aload_s 0 dL_law_475 rfl ?_
  refine q_iload_n 3 dL_law_476 rfl ?_
  refine q_iconst (x := (3 : Int32)) dL_law_477 rfl ?_
  refine q_iadd dL_law_478 ?_
  refine q_sld rfl dL_law_479 (fun h146 => ?_)
  refine q_aload_s 0 dL_law_480 rfl ?_
  refine q_iload_n 3 dL_law_481 rfl ?_
  refine q_iconst (x := (4 : Int32)) dL_law_482 rfl ?_
  refine q_iadd dL_law_483 ?_
  refine q_sld rfl dL_law_484 (fun h147 => ?_)
  refine q_aload_s 0 dL_law_485 rfl ?_
  refine q_iload_n 3 dL_law_486 rfl ?_
  refine q_iconst (x := (5 : Int32)) dL_law_487 rfl ?_
  refine q_iadd dL_law_488 ?_
  refine q_sld rfl dL_law_489 (fun h148 => ?_)
  refine q_cVMI (Y2 := Y_X12_test) (As := [.int (xs (a3 + (1 : Int32)).toNatClampNeg), .int (xs (a3 + (2 : Int32)).toNatClampNeg), .int (xs (a3 + (3 : Int32)).toNatClampNeg), .int (xs (a3 + (4 : Int32)).toNatClampNeg), .int (xs (a3 + (5 : Int32)).toNatClampNeg)]) (b := a2) (st := [.int r143.1]) cl_X12 mv_X12_test qw_1236 dL_law_490 ⟨Nat.le_of_ble_eq_true rfl, Nat.le_of_ble_eq_true rfl⟩ rfl (fun _ _ => rfl) (Nat.le_of_ble_eq_true rfl) ⟨Nat.le_of_ble_eq_true rfl, Nat.le_of_ble_eq_true rfl⟩ (fun r150 h149 => q_ob_is h149) (fun r150 h149 => m_X12_test h149) (fun r150 h149 => ?_)
  refine q_icmp_eq (tgt := 2161) dL_law_493 (by decide) (fun c151 => ?_) (fun c151 => ?_)
  · exact v_L_law_b2161 (hk18)
  · refine q_iconst (x := (0 : Int32)) dL_law_496 rfl ?_
    exact q_zretL dL_law_497 rfl (Or.inl rfl) rfl (Nat.le_of_ble_eq_true rfl) rfl
set_option maxRecDepth 20000 in
theorem v_L_law_b392 {L : Nat} {xs : Nat → Int32} {kk18 : Int32 → q_Mem → Option (Int32 × q_Mem)} {M : q_Mem} {a1 : Nat} {a2 : Nat} {a3 : Int32}  (hk18 : ∀ (a3 : Int32) (M : q_Mem), q_V Y_L_law (some (L, xs)) (fun x : Int32 × q_Mem => (some (.int x.1), x.2)) 131 39214 18 [(0, .float 0), (1, .ref a1), (2, .ref a2), (3, .int a3)] [] M (kk18 a3 M)): q_V Y_L_law (some (L, xs)) (fun x : Int32 × q_Mem => (some (.int x.1), x.2)) 131 39214 392 [(0, .float 0), (1, .ref a1), (2, .ref a2), (3, .int a3)] [] M (f_L_law_b392 L xs kk18 M a1 a2 a3 ) := by
  unfold f_L_law_b392
  refine q_aload_n 1 dL_law_392 rfl ?_
  refine q_aload_s 0 dL_law_393 rfl ?_
  refine q_iload_n 3 dL_law_394 rfl ?_
  refine q_iconst (x := (1 : Int32)) dL_law_395 rfl ?_
  refine q_iadd dL_law_396 ?_
  refine q_sld rfl dL_law_397 (fun h126 => ?_)
  refine q_aload_s 0 dL_law_398 rfl ?_
  refine q_iload_n 3 dL_law_399 rfl ?_
  refine q_iconst (x := (2 : Int32)) dL_law_400 rfl ?_
  refine q_iadd dL_law_401 ?_
  refine q_sld rfl dL_law_402 (fun h127 => ?_)
  refine q_aload_s 0 dL_law_403 rfl ?_
  refine q_iload_n 3 dL_law_404 rfl ?_
  refine q_iconst (x := (3 : Int32)) dL_law_405 rfl ?_
  refine q_iadd dL_law_406 ?_
  refine q_sld rfl dL_law_407 (fun h128 => ?_)
  refine q_cVMI (Y2 := Y_X11_can) (As := [.int (xs (a3 + (1 : Int32)).toNatClampNeg), .int (xs (a3 + (2 : Int32)).toNatClampNeg), .int (xs (a3 + (3 : Int32)).toNatClampNeg)]) (b := a1) (st := []) cl_X11 mv_X11_can qw_424 dL_law_408 ⟨Nat.le_of_ble_eq_true rfl, Nat.le_of_ble_eq_true rfl⟩ rfl (fun _ _ => rfl) (Nat.le_of_ble_eq_true rfl) ⟨Nat.le_of_ble_eq_true rfl, Nat.le_of_ble_eq_true rfl⟩ (fun r130 h129 => q_ob_is h129) (fun r130 h129 => m_X11_can h129) (fun r130 h129 => ?_)
  refine q_aload_n 2 dL_law_411 rfl ?_
  refine q_aload_s 0 dL_law_412 rfl ?_
  refine q_iload_n 3 dL_law_413 rfl ?_
  refine q_iconst (x := (1 : Int32)) dL_law_414 rfl ?_
  refine q_iadd dL_law_415 ?_
  refine q_sld rfl dL_law_416 (fun h131 => ?_)
  refine q_aload_s 0 dL_law_417 rfl ?_
  refine q_iload_n 3 dL_law_418 rfl ?_
  refine q_iconst (x := (2 : Int32)) dL_law_419 rfl ?_
  refine q_iadd dL_law_420 ?_
  refine q_sld rfl dL_law_421 (fun h132 => ?_)
  refine q_aload_s 0 dL_law_422 rfl ?_
  refine q_iload_n 3 dL_law_423 rfl ?_
  refine q_iconst (x := (3 : Int32)) dL_law_424 rfl ?_
  refine q_iadd dL_law_425 ?_
  refine q_sld rfl dL_law_426 (fun h133 => ?_)
  refine q_cVMI (Y2 := Y_X12_can) (As := [.int (xs (a3 + (1 : Int32)).toNatClampNeg), .int (xs (a3 + (2 : Int32)).toNatClampNeg), .int (xs (a3 + (3 : Int32)).toNatClampNeg)]) (b := a2) (st := [.int r130.1]) cl_X12 mv_X12_can qw_1229 dL_law_427 ⟨Nat.le_of_ble_eq_true rfl, Nat.le_of_ble_eq_true rfl⟩ rfl (fun _ _ => rfl) (Nat.le_of_ble_eq_true rfl) ⟨Nat.le_of_ble_eq_true rfl, Nat.le_of_ble_eq_true rfl⟩ (fun r135 h134 => q_ob_is h134) (fun r135 h134 => m_X12_can h134) (fun r135 h134 => ?_)
  refine q_icmp_eq (tgt := 2161) dL_law_430 (by decide) (fun c136 => ?_) (fun c136 => ?_)
  · exact v_L_law_b2161 (hk18)
  · refine q_iconst (x := (0 : Int32)) dL_law_433 rfl ?_
    exact q_zretL dL_law_434 rfl (Or.inl rfl) rfl (Nat.le_of_ble_eq_true rfl) rfl
set_option maxRecDepth 20000 in
theorem v_L_law_b384 {L : Nat} {xs : Nat → Int32} {kk18 : Int32 → q_Mem → Option (Int32 × q_Mem)} {M : q_Mem} {a1 : Nat} {a2 : Nat} {a3 : Int32} {s0 : Int32} {s1 : Nat} {s2 : Int32} {s3 : Int32} {s4 : Int32}  (hk18 : ∀ (a3 : Int32) (M : q_Mem), q_V Y_L_law (some (L, xs)) (fun x : Int32 × q_Mem => (some (.int x.1), x.2)) 131 39214 18 [(0, .float 0), (1, .ref a1), (2, .ref a2), (3, .int a3)] [] M (kk18 a3 M)): q_V Y_L_law (some (L, xs)) (fun x : Int32 × q_Mem => (some (.int x.1), x.2)) 131 39214 384 [(0, .float 0), (1, .ref a1), (2, .ref a2), (3, .int a3)] [.int s4, .int s3, .int s2, .ref s1, .int s0] M (f_L_law_b384 L xs kk18 M a1 a2 a3 s0 s1 s2 s3 s4) := by
  unfold f_L_law_b384
  refine q_cVMI (Y2 := Y_X12_change) (As := [.int s2, .int s3, .int s4]) (b := s1) (st := [.int s0]) cl_X12 mv_X12_change qw_1221 dL_law_384 ⟨Nat.le_of_ble_eq_true rfl, Nat.le_of_ble_eq_true rfl⟩ rfl (fun _ _ => rfl) (Nat.le_of_ble_eq_true rfl) ⟨Nat.le_of_ble_eq_true rfl, Nat.le_of_ble_eq_true rfl⟩ (fun r611 h610 => q_ob_is h610) (fun r611 h610 => m_X12_change h610) (fun r611 h610 => ?_)
  refine q_icmp_eq (tgt := 2161) dL_law_387 (by decide) (fun c612 => ?_) (fun c612 => ?_)
  · exact v_L_law_b2161 (hk18)
  · refine q_iconst (x := (0 : Int32)) dL_law_390 rfl ?_
    exact q_zretL dL_law_391 rfl (Or.inl rfl) rfl (Nat.le_of_ble_eq_true rfl) rfl
set_option maxRecDepth 20000 in
theorem v_L_law_b357 {L : Nat} {xs : Nat → Int32} {kk18 : Int32 → q_Mem → Option (Int32 × q_Mem)} {M : q_Mem} {a1 : Nat} {a2 : Nat} {a3 : Int32} {s0 : Nat} {s1 : Int32} {s2 : Int32} {s3 : Int32}  (hk18 : ∀ (a3 : Int32) (M : q_Mem), q_V Y_L_law (some (L, xs)) (fun x : Int32 × q_Mem => (some (.int x.1), x.2)) 131 39214 18 [(0, .float 0), (1, .ref a1), (2, .ref a2), (3, .int a3)] [] M (kk18 a3 M)): q_V Y_L_law (some (L, xs)) (fun x : Int32 × q_Mem => (some (.int x.1), x.2)) 131 39214 357 [(0, .float 0), (1, .ref a1), (2, .ref a2), (3, .int a3)] [.int s3, .int s2, .int s1, .ref s0] M (f_L_law_b357 L xs kk18 M a1 a2 a3 s0 s1 s2 s3) := by
  unfold f_L_law_b357
  refine q_cVMI (Y2 := Y_X11_change) (As := [.int s1, .int s2, .int s3]) (b := s0) (st := []) cl_X11 mv_X11_change qw_416 dL_law_357 ⟨Nat.le_of_ble_eq_true rfl, Nat.le_of_ble_eq_true rfl⟩ rfl (fun _ _ => rfl) (Nat.le_of_ble_eq_true rfl) ⟨Nat.le_of_ble_eq_true rfl, Nat.le_of_ble_eq_true rfl⟩ (fun r591 h590 => q_ob_is h590) (fun r591 h590 => m_X11_change h590) (fun r591 h590 => ?_)
  refine q_aload_n 2 dL_law_360 rfl ?_
  refine q_aload_s 0 dL_law_361 rfl ?_
  refine q_iload_n 3 dL_law_362 rfl ?_
  refine q_iconst (x := (1 : Int32)) dL_law_363 rfl ?_
  refine q_iadd dL_law_364 ?_
  refine q_sld rfl dL_law_365 (fun h592 => ?_)
  refine q_aload_s 0 dL_law_366 rfl ?_
  refine q_iload_n 3 dL_law_367 rfl ?_
  refine q_iconst (x := (2 : Int32)) dL_law_368 rfl ?_
  refine q_iadd dL_law_369 ?_
  refine q_sld rfl dL_law_370 (fun h593 => ?_)
  refine q_aload_s 0 dL_law_371 rfl ?_
  refine q_iload_n 3 dL_law_372 rfl ?_
  refine q_iconst (x := (3 : Int32)) dL_law_373 rfl ?_
  refine q_iadd dL_law_374 ?_
  refine q_sld rfl dL_law_375 (fun h594 => ?_)
  refine q_if_eq (tgt := 383) dL_law_376 (by decide) (fun c595 => ?_) (fun c595 => ?_)
  · refine q_iconst (x := (0 : Int32)) dL_law_383 rfl ?_
    exact v_L_law_b384 (hk18)
  · refine q_iconst (x := (1 : Int32)) dL_law_379 rfl ?_
    refine q_goto (tgt := 384) dL_law_380 (by decide) ?_
    exact v_L_law_b384 (hk18)
set_option maxRecDepth 20000 in
theorem v_L_law_b333 {L : Nat} {xs : Nat → Int32} {kk18 : Int32 → q_Mem → Option (Int32 × q_Mem)} {M : q_Mem} {a1 : Nat} {a2 : Nat} {a3 : Int32}  (hk18 : ∀ (a3 : Int32) (M : q_Mem), q_V Y_L_law (some (L, xs)) (fun x : Int32 × q_Mem => (some (.int x.1), x.2)) 131 39214 18 [(0, .float 0), (1, .ref a1), (2, .ref a2), (3, .int a3)] [] M (kk18 a3 M)): q_V Y_L_law (some (L, xs)) (fun x : Int32 × q_Mem => (some (.int x.1), x.2)) 131 39214 333 [(0, .float 0), (1, .ref a1), (2, .ref a2), (3, .int a3)] [] M (f_L_law_b333 L xs kk18 M a1 a2 a3 ) := by
  unfold f_L_law_b333
  refine q_aload_n 1 dL_law_333 rfl ?_
  refine q_aload_s 0 dL_law_334 rfl ?_
  refine q_iload_n 3 dL_law_335 rfl ?_
  refine q_iconst (x := (1 : Int32)) dL_law_336 rfl ?_
  refine q_iadd dL_law_337 ?_
  refine q_sld rfl dL_law_338 (fun h122 => ?_)
  refine q_aload_s 0 dL_law_339 rfl ?_
  refine q_iload_n 3 dL_law_340 rfl ?_
  refine q_iconst (x := (2 : Int32)) dL_law_341 rfl ?_
  refine q_iadd dL_law_342 ?_
  refine q_sld rfl dL_law_343 (fun h123 => ?_)
  refine q_aload_s 0 dL_law_344 rfl ?_
  refine q_iload_n 3 dL_law_345 rfl ?_
  refine q_iconst (x := (3 : Int32)) dL_law_346 rfl ?_
  refine q_iadd dL_law_347 ?_
  refine q_sld rfl dL_law_348 (fun h124 => ?_)
  refine q_if_eq (tgt := 356) dL_law_349 (by decide) (fun c125 => ?_) (fun c125 => ?_)
  · refine q_iconst (x := (0 : Int32)) dL_law_356 rfl ?_
    exact v_L_law_b357 (hk18)
  · refine q_iconst (x := (1 : Int32)) dL_law_352 rfl ?_
    refine q_goto (tgt := 357) dL_law_353 (by decide) ?_
    exact v_L_law_b357 (hk18)
set_option maxRecDepth 20000 in
theorem v_L_law_b325 {L : Nat} {xs : Nat → Int32} {kk18 : Int32 → q_Mem → Option (Int32 × q_Mem)} {M : q_Mem} {a1 : Nat} {a2 : Nat} {a3 : Int32} {s0 : Int32} {s1 : Nat} {s2 : Int32} {s3 : Int32} {s4 : Int32} {s5 : Int32}  (hk18 : ∀ (a3 : Int32) (M : q_Mem), q_V Y_L_law (some (L, xs)) (fun x : Int32 × q_Mem => (some (.int x.1), x.2)) 131 39214 18 [(0, .float 0), (1, .ref a1), (2, .ref a2), (3, .int a3)] [] M (kk18 a3 M)): q_V Y_L_law (some (L, xs)) (fun x : Int32 × q_Mem => (some (.int x.1), x.2)) 131 39214 325 [(0, .float 0), (1, .ref a1), (2, .ref a2), (3, .int a3)] [.int s5, .int s4, .int s3, .int s2, .ref s1, .int s0] M (f_L_law_b325 L xs kk18 M a1 a2 a3 s0 s1 s2 s3 s4 s5) := by
  unfold f_L_law_b325
  refine q_cVMI (Y2 := Y_X12_farm) (As := [.int s2, .int s3, .int s4, .int s5]) (b := s1) (st := [.int s0]) cl_X12 mv_X12_farm qw_1210 dL_law_325 ⟨Nat.le_of_ble_eq_true rfl, Nat.le_of_ble_eq_true rfl⟩ rfl (fun _ _ => rfl) (Nat.le_of_ble_eq_true rfl) ⟨Nat.le_of_ble_eq_true rfl, Nat.le_of_ble_eq_true rfl⟩ (fun r608 h607 => q_ob_is h607) (fun r608 h607 => m_X12_farm h607) (fun r608 h607 => ?_)
  refine q_icmp_eq (tgt := 2161) dL_law_328 (by decide) (fun c609 => ?_) (fun c609 => ?_)
  · exact v_L_law_b2161 (hk18)
  · refine q_iconst (x := (0 : Int32)) dL_law_331 rfl ?_
    exact q_zretL dL_law_332 rfl (Or.inl rfl) rfl (Nat.le_of_ble_eq_true rfl) rfl
set_option maxRecDepth 20000 in
theorem v_L_law_b293 {L : Nat} {xs : Nat → Int32} {kk18 : Int32 → q_Mem → Option (Int32 × q_Mem)} {M : q_Mem} {a1 : Nat} {a2 : Nat} {a3 : Int32} {s0 : Nat} {s1 : Int32} {s2 : Int32} {s3 : Int32} {s4 : Int32}  (hk18 : ∀ (a3 : Int32) (M : q_Mem), q_V Y_L_law (some (L, xs)) (fun x : Int32 × q_Mem => (some (.int x.1), x.2)) 131 39214 18 [(0, .float 0), (1, .ref a1), (2, .ref a2), (3, .int a3)] [] M (kk18 a3 M)): q_V Y_L_law (some (L, xs)) (fun x : Int32 × q_Mem => (some (.int x.1), x.2)) 131 39214 293 [(0, .float 0), (1, .ref a1), (2, .ref a2), (3, .int a3)] [.int s4, .int s3, .int s2, .int s1, .ref s0] M (f_L_law_b293 L xs kk18 M a1 a2 a3 s0 s1 s2 s3 s4) := by
  unfold f_L_law_b293
  refine q_cVMI (Y2 := Y_X11_farm) (As := [.int s1, .int s2, .int s3, .int s4]) (b := s0) (st := []) cl_X11 mv_X11_farm qw_401 dL_law_293 ⟨Nat.le_of_ble_eq_true rfl, Nat.le_of_ble_eq_true rfl⟩ rfl (fun _ _ => rfl) (Nat.le_of_ble_eq_true rfl) ⟨Nat.le_of_ble_eq_true rfl, Nat.le_of_ble_eq_true rfl⟩ (fun r584 h583 => q_ob_is h583) (fun r584 h583 => m_X11_farm h583) (fun r584 h583 => ?_)
  refine q_aload_n 2 dL_law_296 rfl ?_
  refine q_aload_s 0 dL_law_297 rfl ?_
  refine q_iload_n 3 dL_law_298 rfl ?_
  refine q_iconst (x := (1 : Int32)) dL_law_299 rfl ?_
  refine q_iadd dL_law_300 ?_
  refine q_sld rfl dL_law_301 (fun h585 => ?_)
  refine q_aload_s 0 dL_law_302 rfl ?_
  refine q_iload_n 3 dL_law_303 rfl ?_
  refine q_iconst (x := (2 : Int32)) dL_law_304 rfl ?_
  refine q_iadd dL_law_305 ?_
  refine q_sld rfl dL_law_306 (fun h586 => ?_)
  refine q_aload_s 0 dL_law_307 rfl ?_
  refine q_iload_n 3 dL_law_308 rfl ?_
  refine q_iconst (x := (3 : Int32)) dL_law_309 rfl ?_
  refine q_iadd dL_law_310 ?_
  refine q_sld rfl dL_law_311 (fun h587 => ?_)
  refine q_aload_s 0 dL_law_312 rfl ?_
  refine q_iload_n 3 dL_law_313 rfl ?_
  refine q_iconst (x := (4 : Int32)) dL_law_314 rfl ?_
  refine q_iadd dL_law_315 ?_
  refine q_sld rfl dL_law_316 (fun h588 => ?_)
  refine q_if_eq (tgt := 324) dL_law_317 (by decide) (fun c589 => ?_) (fun c589 => ?_)
  · refine q_iconst (x := (0 : Int32)) dL_law_324 rfl ?_
    exact v_L_law_b325 (hk18)
  · refine q_iconst (x := (1 : Int32)) dL_law_320 rfl ?_
    refine q_goto (tgt := 325) dL_law_321 (by decide) ?_
    exact v_L_law_b325 (hk18)
set_option maxRecDepth 20000 in
theorem v_L_law_b264 {L : Nat} {xs : Nat → Int32} {kk18 : Int32 → q_Mem → Option (Int32 × q_Mem)} {M : q_Mem} {a1 : Nat} {a2 : Nat} {a3 : Int32}  (hk18 : ∀ (a3 : Int32) (M : q_Mem), q_V Y_L_law (some (L, xs)) (fun x : Int32 × q_Mem => (some (.int x.1), x.2)) 131 39214 18 [(0, .float 0), (1, .ref a1), (2, .ref a2), (3, .int a3)] [] M (kk18 a3 M)): q_V Y_L_law (some (L, xs)) (fun x : Int32 × q_Mem => (some (.int x.1), x.2)) 131 39214 264 [(0, .float 0), (1, .ref a1), (2, .ref a2), (3, .int a3)] [] M (f_L_law_b264 L xs kk18 M a1 a2 a3 ) := by
  unfold f_L_law_b264
  refine q_aload_n 1 dL_law_264 rfl ?_
  refine q_aload_s 0 dL_law_265 rfl ?_
  refine q_iload_n 3 dL_law_266 rfl ?_
  refine q_iconst (x := (1 : Int32)) dL_law_267 rfl ?_
  refine q_iadd dL_law_268 ?_
  refine q_sld rfl dL_law_269 (fun h117 => ?_)
  refine q_aload_s 0 dL_law_270 rfl ?_
  refine q_iload_n 3 dL_law_271 rfl ?_
  refine q_iconst (x := (2 : Int32)) dL_law_272 rfl ?_
  refine q_iadd dL_law_273 ?_
  refine q_sld rfl dL_law_274 (fun h118 => ?_)
  refine q_aload_s 0 dL_law_275 rfl ?_
  refine q_iload_n 3 dL_law_276 rfl ?_
  refine q_iconst (x := (3 : Int32)) dL_law_277 rfl ?_
  refine q_iadd dL_law_278 ?_
  refine q_sld rfl dL_law_279 (fun h119 => ?_)
  refine q_aload_s 0 dL_law_280 rfl ?_
  refine q_iload_n 3 dL_law_281 rfl ?_
  refine q_iconst (x := (4 : Int32)) dL_law_282 rfl ?_
  refine q_iadd dL_law_283 ?_
  refine q_sld rfl dL_law_284 (fun h120 => ?_)
  refine q_if_eq (tgt := 292) dL_law_285 (by decide) (fun c121 => ?_) (fun c121 => ?_)
  · refine q_iconst (x := (0 : Int32)) dL_law_292 rfl ?_
    exact v_L_law_b293 (hk18)
  · refine q_iconst (x := (1 : Int32)) dL_law_288 rfl ?_
    refine q_goto (tgt := 293) dL_law_289 (by decide) ?_
    exact v_L_law_b293 (hk18)
set_option maxRecDepth 20000 in
theorem v_L_law_b18 {L : Nat} {xs : Nat → Int32} {a1 : Nat} {a2 : Nat}  : ∀ (n : Nat) (a3 : Int32) (M : q_Mem), q_V Y_L_law (some (L, xs)) (fun x : Int32 × q_Mem => (some (.int x.1), x.2)) 131 39214 18 [(0, .float 0), (1, .ref a1), (2, .ref a2), (3, .int a3)] [] M (f_L_law_b18 L xs a1 a2 n a3 M) := by
  intro n
  induction n with
  | zero => intro a3 M; exact q_none
  | succ n ih =>
    intro a3 M
    rw [f_L_law_b18.eq_2]
    refine q_iload_n 3 dL_law_18 rfl ?_
    refine q_aload_s 0 dL_law_19 rfl ?_
    refine q_slen rfl dL_law_20 ?_
    refine q_bipush (x := (6 : Int32)) dL_law_21 rfl ?_
    refine q_isub dL_law_23 ?_
    refine q_icmp_gt (tgt := 2167) dL_law_24 (by decide) (fun c116 => ?_) (fun c116 => ?_)
    · refine q_iconst (x := (1 : Int32)) dL_law_2167 rfl ?_
      exact q_zretL dL_law_2168 rfl (Or.inr rfl) rfl (Nat.le_of_ble_eq_true rfl) rfl
    · refine q_aload_s 0 dL_law_27 rfl ?_
      refine q_iload_n 3 dL_law_28 rfl ?_
      refine q_sld rfl dL_law_29 (fun h5 => ?_)
      refine q_bipush (x := (63 : Int32)) dL_law_30 rfl ?_
      refine q_iand dL_law_32 ?_
      refine q_ifV (fun c6 => ?_) (fun c6 => ?_)
      · refine q_tabOut (tgt := 2161) dL_law_33 (Or.inl (q_lt c6 rfl)) (by decide) ?_
        exact v_L_law_b2161 (ih)
      · have b7 := q_nlt (b := 0) c6 rfl
        refine q_ifV (fun c8 => ?_) (fun c8 => ?_)
        · refine q_tabIn (tgt := 264) 0 dL_law_33 c8 (by decide) (by decide) rfl (by decide) ?_
          exact v_L_law_b264 (ih)
        · have b9 := q_step (c := 1) b7 c8 rfl (by decide)
          refine q_ifV (fun c10 => ?_) (fun c10 => ?_)
          · refine q_tabIn (tgt := 333) 1 dL_law_33 c10 (by decide) (by decide) rfl (by decide) ?_
            exact v_L_law_b333 (ih)
          · have b11 := q_step (c := 2) b9 c10 rfl (by decide)
            refine q_ifV (fun c12 => ?_) (fun c12 => ?_)
            · refine q_tabIn (tgt := 392) 2 dL_law_33 c12 (by decide) (by decide) rfl (by decide) ?_
              exact v_L_law_b392 (ih)
            · have b13 := q_step (c := 3) b11 c12 rfl (by decide)
              refine q_ifV (fun c14 => ?_) (fun c14 => ?_)
              · refine q_tabIn (tgt := 435) 3 dL_law_33 c14 (by decide) (by decide) rfl (by decide) ?_
                exact v_L_law_b435 (ih)
              · have b15 := q_step (c := 4) b13 c14 rfl (by decide)
                refine q_ifV (fun c16 => ?_) (fun c16 => ?_)
                · refine q_tabIn (tgt := 498) 4 dL_law_33 c16 (by decide) (by decide) rfl (by decide) ?_
                  exact v_L_law_b498 (ih)
                · have b17 := q_step (c := 5) b15 c16 rfl (by decide)
                  refine q_ifV (fun c18 => ?_) (fun c18 => ?_)
                  · refine q_tabIn (tgt := 541) 5 dL_law_33 c18 (by decide) (by decide) rfl (by decide) ?_
                    exact v_L_law_b541 (ih)
                  · have b19 := q_step (c := 6) b17 c18 rfl (by decide)
                    refine q_ifV (fun c20 => ?_) (fun c20 => ?_)
                    · refine q_tabIn (tgt := 574) 6 dL_law_33 c20 (by decide) (by decide) rfl (by decide) ?_
                      exact v_L_law_b574 (ih)
                    · have b21 := q_step (c := 7) b19 c20 rfl (by decide)
                      refine q_ifV (fun c22 => ?_) (fun c22 => ?_)
                      · refine q_tabIn (tgt := 597) 7 dL_law_33 c22 (by decide) (by decide) rfl (by decide) ?_
                        exact v_L_law_b597 (ih)
                      · have b23 := q_step (c := 8) b21 c22 rfl (by decide)
                        refine q_ifV (fun c24 => ?_) (fun c24 => ?_)
                        · refine q_tabIn (tgt := 630) 8 dL_law_33 c24 (by decide) (by decide) rfl (by decide) ?_
                          exact v_L_law_b630 (ih)
                        · have b25 := q_step (c := 9) b23 c24 rfl (by decide)
                          refine q_ifV (fun c26 => ?_) (fun c26 => ?_)
                          · refine q_tabIn (tgt := 663) 9 dL_law_33 c26 (by decide) (by decide) rfl (by decide) ?_
                            exact v_L_law_b663 (ih)
                          · have b27 := q_step (c := 10) b25 c26 rfl (by decide)
                            refine q_ifV (fun c28 => ?_) (fun c28 => ?_)
                            · refine q_tabIn (tgt := 707) 10 dL_law_33 c28 (by decide) (by decide) rfl (by decide) ?_
                              exact v_L_law_b707 (ih)
                            · have b29 := q_step (c := 11) b27 c28 rfl (by decide)
                              refine q_ifV (fun c30 => ?_) (fun c30 => ?_)
                              · refine q_tabIn (tgt := 740) 11 dL_law_33 c30 (by decide) (by decide) rfl (by decide) ?_
                                exact v_L_law_b740 (ih)
                              · have b31 := q_step (c := 12) b29 c30 rfl (by decide)
                                refine q_ifV (fun c32 => ?_) (fun c32 => ?_)
                                · refine q_tabIn (tgt := 773) 12 dL_law_33 c32 (by decide) (by decide) rfl (by decide) ?_
                                  exact v_L_law_b773 (ih)
                                · have b33 := q_step (c := 13) b31 c32 rfl (by decide)
                                  refine q_ifV (fun c34 => ?_) (fun c34 => ?_)
                                  · refine q_tabIn (tgt := 817) 13 dL_law_33 c34 (by decide) (by decide) rfl (by decide) ?_
                                    exact v_L_law_b817 (ih)
                                  · have b35 := q_step (c := 14) b33 c34 rfl (by decide)
                                    refine q_ifV (fun c36 => ?_) (fun c36 => ?_)
                                    · refine q_tabIn (tgt := 850) 14 dL_law_33 c36 (by decide) (by decide) rfl (by decide) ?_
                                      exact v_L_law_b850 (ih)
                                    · have b37 := q_step (c := 15) b35 c36 rfl (by decide)
                                      refine q_ifV (fun c38 => ?_) (fun c38 => ?_)
                                      · refine q_tabIn (tgt := 873) 15 dL_law_33 c38 (by decide) (by decide) rfl (by decide) ?_
                                        exact v_L_law_b873 (ih)
                                      · have b39 := q_step (c := 16) b37 c38 rfl (by decide)
                                        refine q_ifV (fun c40 => ?_) (fun c40 => ?_)
                                        · refine q_tabIn (tgt := 916) 16 dL_law_33 c40 (by decide) (by decide) rfl (by decide) ?_
                                          exact v_L_law_b916 (ih)
                                        · have b41 := q_step (c := 17) b39 c40 rfl (by decide)
                                          refine q_ifV (fun c42 => ?_) (fun c42 => ?_)
                                          · refine q_tabIn (tgt := 959) 17 dL_law_33 c42 (by decide) (by decide) rfl (by decide) ?_
                                            exact v_L_law_b959 (ih)
                                          · have b43 := q_step (c := 18) b41 c42 rfl (by decide)
                                            refine q_ifV (fun c44 => ?_) (fun c44 => ?_)
                                            · refine q_tabIn (tgt := 972) 18 dL_law_33 c44 (by decide) (by decide) rfl (by decide) ?_
                                              exact v_L_law_b972 (ih)
                                            · have b45 := q_step (c := 19) b43 c44 rfl (by decide)
                                              refine q_ifV (fun c46 => ?_) (fun c46 => ?_)
                                              · refine q_tabIn (tgt := 1005) 19 dL_law_33 c46 (by decide) (by decide) rfl (by decide) ?_
                                                exact v_L_law_b1005 (ih)
                                              · have b47 := q_step (c := 20) b45 c46 rfl (by decide)
                                                refine q_ifV (fun c48 => ?_) (fun c48 => ?_)
                                                · refine q_tabIn (tgt := 1049) 20 dL_law_33 c48 (by decide) (by decide) rfl (by decide) ?_
                                                  exact v_L_law_b1049 (ih)
                                                · have b49 := q_step (c := 21) b47 c48 rfl (by decide)
                                                  refine q_ifV (fun c50 => ?_) (fun c50 => ?_)
                                                  · refine q_tabIn (tgt := 1082) 21 dL_law_33 c50 (by decide) (by decide) rfl (by decide) ?_
                                                    exact v_L_law_b1082 (ih)
                                                  · have b51 := q_step (c := 22) b49 c50 rfl (by decide)
                                                    refine q_ifV (fun c52 => ?_) (fun c52 => ?_)
                                                    · refine q_tabIn (tgt := 1105) 22 dL_law_33 c52 (by decide) (by decide) rfl (by decide) ?_
                                                      exact v_L_law_b1105 (ih)
                                                    · have b53 := q_step (c := 23) b51 c52 rfl (by decide)
                                                      refine q_ifV (fun c54 => ?_) (fun c54 => ?_)
                                                      · refine q_tabIn (tgt := 1128) 23 dL_law_33 c54 (by decide) (by decide) rfl (by decide) ?_
                                                        exact v_L_law_b1128 (ih)
                                                      · have b55 := q_step (c := 24) b53 c54 rfl (by decide)
                                                        refine q_ifV (fun c56 => ?_) (fun c56 => ?_)
                                                        · refine q_tabIn (tgt := 1182) 24 dL_law_33 c56 (by decide) (by decide) rfl (by decide) ?_
                                                          exact v_L_law_b1182 (ih)
                                                        · have b57 := q_step (c := 25) b55 c56 rfl (by decide)
                                                          refine q_ifV (fun c58 => ?_) (fun c58 => ?_)
                                                          · refine q_tabIn (tgt := 1241) 25 dL_law_33 c58 (by decide) (by decide) rfl (by decide) ?_
                                                            exact v_L_law_b1241 (ih)
                                                          · have b59 := q_step (c := 26) b57 c58 rfl (by decide)
                                                            refine q_ifV (fun c60 => ?_) (fun c60 => ?_)
                                                            · refine q_tabIn (tgt := 1284) 26 dL_law_33 c60 (by decide) (by decide) rfl (by decide) ?_
                                                              exact v_L_law_b1284 (ih)
                                                            · have b61 := q_step (c := 27) b59 c60 rfl (by decide)
                                                              refine q_ifV (fun c62 => ?_) (fun c62 => ?_)
                                                              · refine q_tabIn (tgt := 1333) 27 dL_law_33 c62 (by decide) (by decide) rfl (by decide) ?_
                                                                exact v_L_law_b1333 (ih)
                                                              · have b63 := q_step (c := 28) b61 c62 rfl (by decide)
                                                                refine q_ifV (fun c64 => ?_) (fun c64 => ?_)
                                                                · refine q_tabIn (tgt := 1366) 28 dL_law_33 c64 (by decide) (by decide) rfl (by decide) ?_
                                                                  exact v_L_law_b1366 (ih)
                                                                · have b65 := q_step (c := 29) b63 c64 rfl (by decide)
                                                                  refine q_ifV (fun c66 => ?_) (fun c66 => ?_)
                                                                  · refine q_tabIn (tgt := 1389) 29 dL_law_33 c66 (by decide) (by decide) rfl (by decide) ?_
                                                                    exact v_L_law_b1389 (ih)
                                                                  · have b67 := q_step (c := 30) b65 c66 rfl (by decide)
                                                                    refine q_ifV (fun c68 => ?_) (fun c68 => ?_)
                                                                    · refine q_tabIn (tgt := 1423) 30 dL_law_33 c68 (by decide) (by decide) rfl (by decide) ?_
                                                                      exact v_L_law_b1423 (ih)
                                                                    · have b69 := q_step (c := 31) b67 c68 rfl (by decide)
                                                                      refine q_ifV (fun c70 => ?_) (fun c70 => ?_)
                                                                      · refine q_tabIn (tgt := 1467) 31 dL_law_33 c70 (by decide) (by decide) rfl (by decide) ?_
                                                                        exact v_L_law_b1467 (ih)
                                                                      · have b71 := q_step (c := 32) b69 c70 rfl (by decide)
                                                                        refine q_ifV (fun c72 => ?_) (fun c72 => ?_)
                                                                        · refine q_tabIn (tgt := 1511) 32 dL_law_33 c72 (by decide) (by decide) rfl (by decide) ?_
                                                                          exact v_L_law_b1511 (ih)
                                                                        · have b73 := q_step (c := 33) b71 c72 rfl (by decide)
                                                                          refine q_ifV (fun c74 => ?_) (fun c74 => ?_)
                                                                          · refine q_tabIn (tgt := 1554) 33 dL_law_33 c74 (by decide) (by decide) rfl (by decide) ?_
                                                                            exact v_L_law_b1554 (ih)
                                                                          · have b75 := q_step (c := 34) b73 c74 rfl (by decide)
                                                                            refine q_ifV (fun c76 => ?_) (fun c76 => ?_)
                                                                            · refine q_tabIn (tgt := 1577) 34 dL_law_33 c76 (by decide) (by decide) rfl (by decide) ?_
                                                                              exact v_L_law_b1577 (ih)
                                                                            · have b77 := q_step (c := 35) b75 c76 rfl (by decide)
                                                                              refine q_ifV (fun c78 => ?_) (fun c78 => ?_)
                                                                              · refine q_tabIn (tgt := 1600) 35 dL_law_33 c78 (by decide) (by decide) rfl (by decide) ?_
                                                                                exact v_L_law_b1600 (ih)
                                                                              · have b79 := q_step (c := 36) b77 c78 rfl (by decide)
                                                                                refine q_ifV (fun c80 => ?_) (fun c80 => ?_)
                                                                                · refine q_tabIn (tgt := 1633) 36 dL_law_33 c80 (by decide) (by decide) rfl (by decide) ?_
                                                                                  exact v_L_law_b1633 (ih)
                                                                                · have b81 := q_step (c := 37) b79 c80 rfl (by decide)
                                                                                  refine q_ifV (fun c82 => ?_) (fun c82 => ?_)
                                                                                  · refine q_tabIn (tgt := 1676) 37 dL_law_33 c82 (by decide) (by decide) rfl (by decide) ?_
                                                                                    exact v_L_law_b1676 (ih)
                                                                                  · have b83 := q_step (c := 38) b81 c82 rfl (by decide)
                                                                                    refine q_ifV (fun c84 => ?_) (fun c84 => ?_)
                                                                                    · refine q_tabIn (tgt := 1689) 38 dL_law_33 c84 (by decide) (by decide) rfl (by decide) ?_
                                                                                      exact v_L_law_b1689 (ih)
                                                                                    · have b85 := q_step (c := 39) b83 c84 rfl (by decide)
                                                                                      refine q_ifV (fun c86 => ?_) (fun c86 => ?_)
                                                                                      · refine q_tabIn (tgt := 1713) 39 dL_law_33 c86 (by decide) (by decide) rfl (by decide) ?_
                                                                                        exact v_L_law_b1713 (ih)
                                                                                      · have b87 := q_step (c := 40) b85 c86 rfl (by decide)
                                                                                        refine q_ifV (fun c88 => ?_) (fun c88 => ?_)
                                                                                        · refine q_tabIn (tgt := 1746) 40 dL_law_33 c88 (by decide) (by decide) rfl (by decide) ?_
                                                                                          exact v_L_law_b1746 (ih)
                                                                                        · have b89 := q_step (c := 41) b87 c88 rfl (by decide)
                                                                                          refine q_ifV (fun c90 => ?_) (fun c90 => ?_)
                                                                                          · refine q_tabIn (tgt := 1779) 41 dL_law_33 c90 (by decide) (by decide) rfl (by decide) ?_
                                                                                            exact v_L_law_b1779 (ih)
                                                                                          · have b91 := q_step (c := 42) b89 c90 rfl (by decide)
                                                                                            refine q_ifV (fun c92 => ?_) (fun c92 => ?_)
                                                                                            · refine q_tabIn (tgt := 1822) 42 dL_law_33 c92 (by decide) (by decide) rfl (by decide) ?_
                                                                                              exact v_L_law_b1822 (ih)
                                                                                            · have b93 := q_step (c := 43) b91 c92 rfl (by decide)
                                                                                              refine q_ifV (fun c94 => ?_) (fun c94 => ?_)
                                                                                              · refine q_tabIn (tgt := 1855) 43 dL_law_33 c94 (by decide) (by decide) rfl (by decide) ?_
                                                                                                exact v_L_law_b1855 (ih)
                                                                                              · have b95 := q_step (c := 44) b93 c94 rfl (by decide)
                                                                                                refine q_ifV (fun c96 => ?_) (fun c96 => ?_)
                                                                                                · refine q_tabIn (tgt := 1898) 44 dL_law_33 c96 (by decide) (by decide) rfl (by decide) ?_
                                                                                                  exact v_L_law_b1898 (ih)
                                                                                                · have b97 := q_step (c := 45) b95 c96 rfl (by decide)
                                                                                                  refine q_ifV (fun c98 => ?_) (fun c98 => ?_)
                                                                                                  · refine q_tabIn (tgt := 1921) 45 dL_law_33 c98 (by decide) (by decide) rfl (by decide) ?_
                                                                                                    exact v_L_law_b1921 (ih)
                                                                                                  · have b99 := q_step (c := 46) b97 c98 rfl (by decide)
                                                                                                    refine q_ifV (fun c100 => ?_) (fun c100 => ?_)
                                                                                                    · refine q_tabIn (tgt := 1945) 46 dL_law_33 c100 (by decide) (by decide) rfl (by decide) ?_
                                                                                                      exact v_L_law_b1945 (ih)
                                                                                                    · have b101 := q_step (c := 47) b99 c100 rfl (by decide)
                                                                                                      refine q_ifV (fun c102 => ?_) (fun c102 => ?_)
                                                                                                      · refine q_tabIn (tgt := 1978) 47 dL_law_33 c102 (by decide) (by decide) rfl (by decide) ?_
                                                                                                        exact v_L_law_b1978 (ih)
                                                                                                      · have b103 := q_step (c := 48) b101 c102 rfl (by decide)
                                                                                                        refine q_ifV (fun c104 => ?_) (fun c104 => ?_)
                                                                                                        · refine q_tabIn (tgt := 2021) 48 dL_law_33 c104 (by decide) (by decide) rfl (by decide) ?_
                                                                                                          exact v_L_law_b2021 (ih)
                                                                                                        · have b105 := q_step (c := 49) b103 c104 rfl (by decide)
                                                                                                          refine q_ifV (fun c106 => ?_) (fun c106 => ?_)
                                                                                                          · refine q_tabIn (tgt := 2055) 49 dL_law_33 c106 (by decide) (by decide) rfl (by decide) ?_
                                                                                                            exact v_L_law_b2055 (ih)
                                                                                                          · have b107 := q_step (c := 50) b105 c106 rfl (by decide)
                                                                                                            refine q_ifV (fun c108 => ?_) (fun c108 => ?_)
                                                                                                            · refine q_tabIn (tgt := 2078) 50 dL_law_33 c108 (by decide) (by decide) rfl (by decide) ?_
                                                                                                              exact v_L_law_b2078 (ih)
                                                                                                            · have b109 := q_step (c := 51) b107 c108 rfl (by decide)
                                                                                                              refine q_ifV (fun c110 => ?_) (fun c110 => ?_)
                                                                                                              · refine q_tabIn (tgt := 2101) 51 dL_law_33 c110 (by decide) (by decide) rfl (by decide) ?_
                                                                                                                exact v_L_law_b2101 (ih)
                                                                                                              · have b111 := q_step (c := 52) b109 c110 rfl (by decide)
                                                                                                                refine q_ifV (fun c112 => ?_) (fun c112 => ?_)
                                                                                                                · refine q_tabIn (tgt := 2124) 52 dL_law_33 c112 (by decide) (by decide) rfl (by decide) ?_
                                                                                                                  exact v_L_law_b2124 (ih)
                                                                                                                · have b113 := q_step (c := 53) b111 c112 rfl (by decide)
                                                                                                                  refine q_ifV (fun c114 => ?_) (fun c114 => ?_)
                                                                                                                  · refine q_tabIn (tgt := 2147) 53 dL_law_33 c114 (by decide) (by decide) rfl (by decide) ?_
                                                                                                                    exact v_L_law_b2147 (ih)
                                                                                                                  · have b115 := q_step (c := 54) b113 c114 rfl (by decide)
                                                                                                                    refine q_tabOut (tgt := 2161) dL_law_33 (Or.inr (Int.lt_of_lt_of_le (by decide) b115)) (by decide) ?_
                                                                                                                    exact v_L_law_b2161 (ih)
set_option maxRecDepth 20000 in
theorem v_L_law (L : Nat) (xs : Nat → Int32) (M : q_Mem) : q_V Y_L_law (some (L, xs)) (fun x : Int32 × q_Mem => (some (.int x.1), x.2)) 0 0 0 [(0, .float 0)] [] M (f_L_law L xs M) := by
  unfold f_L_law
  refine q_new cl_X11 qw_18 qw_19 qw_1 q_dv_X11 (Nat.le_of_ble_eq_true rfl) (Nat.le_of_ble_eq_true rfl) dL_law_0 ?_
  refine q_dup dL_law_3 rfl ?_
  refine q_cI2 (Y2 := Y_X11_init) (As := []) (b := M.1) (st := [.ref M.1]) (k' := 108) (n' := 22311) mi_X11_init qw_20 dL_law_4 ⟨Nat.le_of_ble_eq_true rfl, Nat.le_of_ble_eq_true rfl⟩ rfl (fun _ _ => rfl) (Nat.le_of_ble_eq_true rfl) rfl rfl ⟨Nat.le_of_ble_eq_true rfl, Nat.le_of_ble_eq_true rfl⟩ (fun M2 h1 => m_X11_init h1) (fun M2 h1 => ?_)
  refine q_astore_n (ls' := [(1, .ref M.1), (0, .float 0)]) dL_law_7 (by decide) rfl ?_
  refine q_new cl_X12 qw_1111 qw_1112 qw_13 q_dv_X12 (Nat.le_of_ble_eq_true rfl) (Nat.le_of_ble_eq_true rfl) dL_law_8 ?_
  refine q_dup dL_law_11 rfl ?_
  refine q_cI2 (Y2 := Y_X12_init) (As := []) (b := M2.1) (st := [.ref M2.1]) (k' := 131) (n' := 39214) mi_X12_init qw_1113 dL_law_12 ⟨Nat.le_of_ble_eq_true rfl, Nat.le_of_ble_eq_true rfl⟩ rfl (fun _ _ => rfl) (Nat.le_of_ble_eq_true rfl) rfl rfl ⟨Nat.le_of_ble_eq_true rfl, Nat.le_of_ble_eq_true rfl⟩ (fun M4 h3 => m_X12_init h3) (fun M4 h3 => ?_)
  refine q_astore_n (ls' := [(2, .ref M2.1), (1, .ref M.1), (0, .float 0)]) dL_law_15 (by decide) rfl ?_
  refine q_iconst (x := (0 : Int32)) dL_law_16 rfl ?_
  refine q_istore_n (ls' := [(3, .int (0 : Int32)), (2, .ref M2.1), (1, .ref M.1), (0, .float 0)]) dL_law_17 (by decide) rfl ?_
  refine q_sub (ls' := [(0, .float 0), (1, .ref M.1), (2, .ref M2.1), (3, .int (0 : Int32))]) [3, 2, 1, 0] rfl ?_
  exact v_L_law_b18 _ _ _
