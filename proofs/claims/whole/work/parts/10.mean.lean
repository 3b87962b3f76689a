/-! ===== the methods as functions, printed by program out of their bytes ===== -/
def fuel : Nat := 100000
/-! FreeLances.within -/
def mF_within (x0 : Int32) (x1 : Int32) (x2 : Int32) (M : Mem) : Option (Int32 × Mem) :=
  if x1 ≤ x0 then
    if x0 ≤ x2 then
      some (1, M)
    else
      some (0, M)
  else
    some (0, M)
/-! FreeLances.finding -/
def mF_finding (x1 : Int32) (M : Mem) : Option (Int32 × Mem) :=
  ixx x1 6 fun k1 =>
  ixx x1 6 fun k3 =>
  let M2 : Mem := up M 26 0 0 k3 ((M 26 0 0 k1) + 1)
  some ((-1000000) - x1, M2)
/-! FreeLances$Town.begin -/
def mT_begin (w0 : Nat) (i0 : Nat) (x1 : Int32) (x2 : Int32) (M : Mem) : Option Mem :=
  let M1 : Mem := up M 3 w0 i0 0 x1
  let M2 : Mem := up M1 3 w0 i0 1 x2
  let M3 : Mem := up M2 3 w0 i0 2 100
  let M4 : Mem := up M3 3 w0 i0 3 0
  some M4
/-! FreeLances.town -/
def mF_town (x1 : Int32) (x2 : Int32) (M : Mem) : Option (Int32 × Mem) :=
  (mF_within x1 0 99999 M).bind fun q1 =>
  if q1.1 = 0 then
    (mF_finding 1 q1.2).bind fun q2 =>
    some (q2.1, q2.2)
  else
    (mF_within x2 0 99999 q1.2).bind fun q3 =>
    if q3.1 = 0 then
      (mF_finding 1 q3.2).bind fun q4 =>
      some (q4.1, q4.2)
    else
      if (q3.2 1 0 0 2) < 8 then
        ixx (q3.2 1 0 0 2) 8 fun k5 =>
        (mT_begin 0 k5 x1 x2 q3.2).bind fun q6 =>
        let M7 : Mem := up q6 1 0 0 2 ((q6 1 0 0 2) + 1)
        some (q6 1 0 0 2, M7)
      else
        (mF_finding 4 q3.2).bind fun q8 =>
        some (q8.1, q8.2)
/-! FreeLances.isTown -/
def mF_isTown (x1 : Int32) (M : Mem) : Option (Int32 × Mem) :=
  (mF_within x1 0 ((M 1 0 0 2) - 1) M).bind fun q1 =>
  if q1.1 = 0 ∨ q1.1 = 1 then
    some (q1.1, q1.2)
  else
    none
/-! FreeLances$World.way -/
def mW_way (w0 : Nat) (x1 : Int32) (x2 : Int32) (M : Mem) : Option (Int32 × Mem) :=
  ixx ((x1 * 8) + x2) 64 fun k1 =>
  some (M 4 w0 0 k1, M)
/-! FreeLances$World.join -/
def mW_join_15b (j3 : Nat → Int32 → Int32 → Int32 → Int32 → Mem → Option Mem) (j15 : Nat → Int32 → Int32 → Int32 → Int32 → Int32 → Mem → Option Mem) (w0 : Nat) (x1 : Int32) (x2 : Int32) (x3 : Int32) (x4 : Int32) (x5 : Int32) (M : Mem) : Option Mem :=
  if x5 < (M 1 w0 0 2) then
    (mW_way w0 x4 x1 M).bind fun q1 =>
    (mW_way w0 x2 x5 q1.2).bind fun q2 =>
    (mW_way w0 x4 x2 q2.2).bind fun q3 =>
    (mW_way w0 x1 x5 q3.2).bind fun q4 =>
    ixx ((x4 * 8) + x5) 64 fun k5 =>
    let t6 : Int32 := if ((q3.1 + x3) + q4.1) < ((q1.1 + x3) + q2.1) then ((q3.1 + x3) + q4.1) else ((q1.1 + x3) + q2.1)
    let t7 : Int32 := if t6 < (q4.2 4 w0 0 k5) then t6 else (q4.2 4 w0 0 k5)
    ixx ((x4 * 8) + x5) 64 fun k9 =>
    let M8 : Mem := up q4.2 4 w0 0 k9 t7
    j15 w0 x1 x2 x3 x4 (x5 + 1) M8
  else
    j3 w0 x1 x2 x3 (x4 + 1) M
def mW_join_15 (r3 : Nat → Int32 → Int32 → Int32 → Int32 → Mem → Option Mem) : Nat → Nat → Int32 → Int32 → Int32 → Int32 → Int32 → Mem → Option Mem
  | 0, _, _, _, _, _, _, _ => none
  | n + 1, w0, x1, x2, x3, x4, x5, M => mW_join_15b r3 (mW_join_15 r3 n) w0 x1 x2 x3 x4 x5 M
def mW_join_3b (j15 : Nat → Int32 → Int32 → Int32 → Int32 → Int32 → Mem → Option Mem) (w0 : Nat) (x1 : Int32) (x2 : Int32) (x3 : Int32) (x4 : Int32) (M : Mem) : Option Mem :=
  if x4 < (M 1 w0 0 2) then
    j15 w0 x1 x2 x3 x4 0 M
  else
    some M
def mW_join_3 : Nat → Nat → Int32 → Int32 → Int32 → Int32 → Mem → Option Mem
  | 0, _, _, _, _, _, _ => none
  | n + 1, w0, x1, x2, x3, x4, M => mW_join_3b (mW_join_15 (mW_join_3 n) fuel) w0 x1 x2 x3 x4 M
def mW_joinb (j3 : Nat → Int32 → Int32 → Int32 → Int32 → Mem → Option Mem) (w0 : Nat) (x1 : Int32) (x2 : Int32) (x3 : Int32) (M : Mem) : Option Mem :=
  j3 w0 x1 x2 x3 0 M
def mW_join (w0 : Nat) (x1 : Int32) (x2 : Int32) (x3 : Int32) (M : Mem) : Option Mem := mW_joinb (mW_join_3 fuel) w0 x1 x2 x3 M
/-! FreeLances.road -/
def mF_road (x1 : Int32) (x2 : Int32) (x3 : Int32) (M : Mem) : Option (Int32 × Mem) :=
  (mF_isTown x1 M).bind fun q1 =>
  if q1.1 = 0 then
    (mF_finding 1 q1.2).bind fun q2 =>
    some (q2.1, q2.2)
  else
    (mF_isTown x2 q1.2).bind fun q3 =>
    if q3.1 = 0 then
      (mF_finding 1 q3.2).bind fun q4 =>
      some (q4.1, q4.2)
    else
      if x1 = x2 then
        (mF_finding 1 q3.2).bind fun q5 =>
        some (q5.1, q5.2)
      else
        (mF_within x3 1 9 q3.2).bind fun q6 =>
        if q6.1 = 0 then
          (mF_finding 1 q6.2).bind fun q7 =>
          some (q7.1, q7.2)
        else
          if (q6.2 1 0 0 3) < 16 then
            (mW_join 0 x1 x2 x3 q6.2).bind fun q8 =>
            let M9 : Mem := up q8 1 0 0 3 ((q8 1 0 0 3) + 1)
            some ((q8 1 0 0 3) + 1, M9)
          else
            (mF_finding 4 q6.2).bind fun q10 =>
            some (q10.1, q10.2)
/-! FreeLances.far -/
def mF_far (x1 : Int32) (x2 : Int32) (M : Mem) : Option (Int32 × Mem) :=
  (mF_isTown x1 M).bind fun q1 =>
  if q1.1 = 0 then
    (mF_finding 1 q1.2).bind fun q2 =>
    some (q2.1, q2.2)
  else
    (mF_isTown x2 q1.2).bind fun q3 =>
    if q3.1 = 0 then
      (mF_finding 1 q3.2).bind fun q4 =>
      some (q4.1, q4.2)
    else
      (mW_way 0 x1 x2 q3.2).bind fun q5 =>
      if q5.1 < 1000000 then
        some (q5.1, q5.2)
      else
        (mF_finding 2 q5.2).bind fun q6 =>
        some (q6.1, q6.2)
/-! FreeLances$World.lyingIn -/
def mW_lyingIn_4b (j4 : Nat → Int32 → Int32 → Int32 → Mem → Option (Int32 × Mem)) (w0 : Nat) (x1 : Int32) (x2 : Int32) (x3 : Int32) (M : Mem) : Option (Int32 × Mem) :=
  if x3 < (M 1 w0 0 6) then
    ixx x3 5 fun k1 =>
    if (M 6 w0 k1 3) = x1 then
      j4 w0 x1 (x2 ||| (1 <<< (x3 &&& 31))) (x3 + 1) M
    else
      j4 w0 x1 x2 (x3 + 1) M
  else
    some (x2, M)
def mW_lyingIn_4 : Nat → Nat → Int32 → Int32 → Int32 → Mem → Option (Int32 × Mem)
  | 0, _, _, _, _, _ => none
  | n + 1, w0, x1, x2, x3, M => mW_lyingIn_4b (mW_lyingIn_4 n) w0 x1 x2 x3 M
def mW_lyingInb (j4 : Nat → Int32 → Int32 → Int32 → Mem → Option (Int32 × Mem)) (w0 : Nat) (x1 : Int32) (M : Mem) : Option (Int32 × Mem) :=
  j4 w0 x1 0 0 M
def mW_lyingIn (w0 : Nat) (x1 : Int32) (M : Mem) : Option (Int32 × Mem) := mW_lyingInb (mW_lyingIn_4 fuel) w0 x1 M
/-! FreeLances.townIs -/
def mF_townIs (x1 : Int32) (x2 : Int32) (M : Mem) : Option (Int32 × Mem) :=
  (mF_isTown x1 M).bind fun q1 =>
  if q1.1 = 0 then
    (mF_finding 1 q1.2).bind fun q2 =>
    some (q2.1, q2.2)
  else
    ixx x1 8 fun k3 =>
    if x2 = 0 then
      some (q1.2 3 0 k3 0, q1.2)
    else
      if x2 = 1 then
        some (q1.2 3 0 k3 1, q1.2)
      else
        if x2 = 2 then
          some (q1.2 3 0 k3 2, q1.2)
        else
          if x2 = 3 then
            some (q1.2 3 0 k3 3, q1.2)
          else
            if x2 = 4 then
              (mW_lyingIn 0 x1 q1.2).bind fun q5 =>
              some (q5.1, q5.2)
            else
              (mF_finding 1 q1.2).bind fun q4 =>
              some (q4.1, q4.2)
/-! FreeLances.wall -/
def mF_wall (x1 : Int32) (x2 : Int32) (x3 : Int32) (M : Mem) : Option (Int32 × Mem) :=
  (mF_isTown x1 M).bind fun q1 =>
  if q1.1 = 0 then
    (mF_finding 1 q1.2).bind fun q2 =>
    some (q2.1, q2.2)
  else
    (mF_within x2 0 999 q1.2).bind fun q3 =>
    if q3.1 = 0 then
      (mF_finding 1 q3.2).bind fun q4 =>
      some (q4.1, q4.2)
    else
      (mF_within x3 0 99 q3.2).bind fun q5 =>
      if q5.1 = 0 then
        (mF_finding 1 q5.2).bind fun q6 =>
        some (q6.1, q6.2)
      else
        ixx x1 8 fun k7 =>
        let M8 : Mem := up q5.2 3 0 k7 2 x2
        ixx x1 8 fun k9 =>
        let M10 : Mem := up M8 3 0 k9 3 x3
        some (1, M10)
/-! FreeLances.harvest -/
def mF_harvest (x1 : Int32) (x2 : Int32) (M : Mem) : Option (Int32 × Mem) :=
  (mF_isTown x1 M).bind fun q1 =>
  if q1.1 = 0 then
    (mF_finding 1 q1.2).bind fun q2 =>
    some (q2.1, q2.2)
  else
    (mF_within x2 1 9999 q1.2).bind fun q3 =>
    if q3.1 = 0 then
      (mF_finding 1 q3.2).bind fun q4 =>
      some (q4.1, q4.2)
    else
      ixx x1 8 fun k5 =>
      if ((q3.2 3 0 k5 1) + x2) ≤ 999999 then
        let M6 : Mem := up q3.2 3 0 k5 1 ((q3.2 3 0 k5 1) + x2)
        some (M6 3 0 k5 1, M6)
      else
        (mF_finding 4 q3.2).bind fun q7 =>
        some (q7.1, q7.2)
/-! FreeLances$Company.begin -/
def mC_begin_63b (j63 : Nat → Nat → Int32 → Mem → Option Mem) (w0 : Nat) (i0 : Nat) (x4 : Int32) (M : Mem) : Option Mem :=
  if x4 < 8 then
    ixx x4 8 fun k2 =>
    let M1 : Mem := up M 8 w0 i0 k2 0
    j63 w0 i0 (x4 + 1) M1
  else
    some M
def mC_begin_63 : Nat → Nat → Nat → Int32 → Mem → Option Mem
  | 0, _, _, _, _ => none
  | n + 1, w0, i0, x4, M => mC_begin_63b (mC_begin_63 n) w0 i0 x4 M
def mC_beginb (j63 : Nat → Nat → Int32 → Mem → Option Mem) (w0 : Nat) (i0 : Nat) (x1 : Int32) (x2 : Int32) (x3 : Int32) (M : Mem) : Option Mem :=
  let M1 : Mem := up M 6 w0 i0 0 x2
  let M2 : Mem := up M1 6 w0 i0 1 x3
  let M3 : Mem := up M2 6 w0 i0 2 0
  let M4 : Mem := up M3 6 w0 i0 3 x1
  let M5 : Mem := up M4 6 w0 i0 4 (-1)
  let M6 : Mem := up M5 6 w0 i0 5 (-1)
  let M7 : Mem := up M6 6 w0 i0 6 0
  let M8 : Mem := up M7 6 w0 i0 7 0
  let M9 : Mem := up M8 6 w0 i0 8 (-1)
  let M10 : Mem := up M9 6 w0 i0 9 (-1)
  let M11 : Mem := up M10 6 w0 i0 10 (-1)
  let M12 : Mem := up M11 6 w0 i0 11 0
  j63 w0 i0 0 M12
def mC_begin (w0 : Nat) (i0 : Nat) (x1 : Int32) (x2 : Int32) (x3 : Int32) (M : Mem) : Option Mem := mC_beginb (mC_begin_63 fuel) w0 i0 x1 x2 x3 M
/-! FreeLances.company -/
def mF_company (x1 : Int32) (x2 : Int32) (x3 : Int32) (M : Mem) : Option (Int32 × Mem) :=
  (mF_isTown x1 M).bind fun q1 =>
  if q1.1 = 0 then
    (mF_finding 1 q1.2).bind fun q2 =>
    some (q2.1, q2.2)
  else
    (mF_within x2 0 9999 q1.2).bind fun q3 =>
    if q3.1 = 0 then
      (mF_finding 1 q3.2).bind fun q4 =>
      some (q4.1, q4.2)
    else
      (mF_within x3 0 9999 q3.2).bind fun q5 =>
      if q5.1 = 0 then
        (mF_finding 1 q5.2).bind fun q6 =>
        some (q6.1, q6.2)
      else
        if (q5.2 1 0 0 6) < 5 then
          ixx (q5.2 1 0 0 6) 5 fun k7 =>
          (mC_begin 0 k7 x1 x2 x3 q5.2).bind fun q8 =>
          let M9 : Mem := up q8 1 0 0 6 ((q8 1 0 0 6) + 1)
          some (q8 1 0 0 6, M9)
        else
          (mF_finding 4 q5.2).bind fun q10 =>
          some (q10.1, q10.2)
/-! FreeLances.isCompany -/
def mF_isCompany (x1 : Int32) (M : Mem) : Option (Int32 × Mem) :=
  (mF_within x1 0 ((M 1 0 0 6) - 1) M).bind fun q1 =>
  if q1.1 = 0 ∨ q1.1 = 1 then
    some (q1.1, q1.2)
  else
    none
/-! FreeLances$Company.marches -/
def mC_marches (w0 : Nat) (i0 : Nat) (M : Mem) : Option (Int32 × Mem) :=
  if (M 6 w0 i0 3) < 0 then
    some (1, M)
  else
    some (0, M)
/-! FreeLances.march -/
def mF_march (x1 : Int32) (x2 : Int32) (M : Mem) : Option (Int32 × Mem) :=
  (mF_isCompany x1 M).bind fun q1 =>
  if q1.1 = 0 then
    (mF_finding 1 q1.2).bind fun q2 =>
    some (q2.1, q2.2)
  else
    (mF_isTown x2 q1.2).bind fun q3 =>
    if q3.1 = 0 then
      (mF_finding 1 q3.2).bind fun q4 =>
      some (q4.1, q4.2)
    else
      ixx x1 5 fun k5 =>
      (mC_marches 0 k5 q3.2).bind fun q6 =>
      if q6.1 = 0 then
        if (q6.2 6 0 k5 3) = x2 then
          (mF_finding 3 q6.2).bind fun q7 =>
          some (q7.1, q7.2)
        else
          (mW_way 0 (q6.2 6 0 k5 3) x2 q6.2).bind fun q8 =>
          if q8.1 < 1000000 then
            let M9 : Mem := up q8.2 6 0 k5 3 (-1)
            let M10 : Mem := up M9 6 0 k5 4 x2
            let M11 : Mem := up M10 6 0 k5 5 ((M10 1 0 0 0) + q8.1)
            some (M11 6 0 k5 5, M11)
          else
            (mF_finding 2 q8.2).bind fun q12 =>
            some (q12.1, q12.2)
      else
        (mF_finding 3 q6.2).bind fun q13 =>
        some (q13.1, q13.2)
/-! FreeLances.buy -/
def mF_buy (x1 : Int32) (x2 : Int32) (M : Mem) : Option (Int32 × Mem) :=
  (mF_isCompany x1 M).bind fun q1 =>
  if q1.1 = 0 then
    (mF_finding 1 q1.2).bind fun q2 =>
    some (q2.1, q2.2)
  else
    (mF_within x2 1 9999 q1.2).bind fun q3 =>
    if q3.1 = 0 then
      (mF_finding 1 q3.2).bind fun q4 =>
      some (q4.1, q4.2)
    else
      ixx x1 5 fun k5 =>
      (mC_marches 0 k5 q3.2).bind fun q6 =>
      if q6.1 = 0 then
        ixx (q6.2 6 0 k5 3) 8 fun k7 =>
        if (q6.2 6 0 k5 0) < x2 then
          (mF_finding 2 q6.2).bind fun q8 =>
          some (q8.1, q8.2)
        else
          if (q6.2 3 0 k7 1) < x2 then
            (mF_finding 2 q6.2).bind fun q9 =>
            some (q9.1, q9.2)
          else
            let M10 : Mem := up q6.2 6 0 k5 0 ((q6.2 6 0 k5 0) - x2)
            let M11 : Mem := up M10 3 0 k7 0 ((M10 3 0 k7 0) + x2)
            let M12 : Mem := up M11 3 0 k7 1 ((M11 3 0 k7 1) - x2)
            let M13 : Mem := up M12 6 0 k5 1 ((M12 6 0 k5 1) + x2)
            some (M13 6 0 k5 1, M13)
      else
        (mF_finding 3 q6.2).bind fun q14 =>
        some (q14.1, q14.2)
/-! FreeLances$Bond.isContract -/
def mB_isContract (w0 : Nat) (i0 : Nat) (M : Mem) : Option (Int32 × Mem) :=
  if (M 15 w0 i0 0) = 1 then
    some (1, M)
  else
    if (M 15 w0 i0 0) = 2 then
      some (1, M)
    else
      some (0, M)
/-! FreeLances$Bond.isContractOf -/
def mB_isContractOf (w0 : Nat) (i0 : Nat) (x1 : Int32) (M : Mem) : Option (Int32 × Mem) :=
  (mB_isContract w0 i0 M).bind fun q1 =>
  if q1.1 = 0 then
    some (0, q1.2)
  else
    if (q1.2 15 w0 i0 1) = x1 then
      some (1, q1.2)
    else
      some (0, q1.2)
/-! FreeLances$Bond.has -/
def mB_has (w0 : Nat) (i0 : Nat) (x1 : Int32) (M : Mem) : Option (Int32 × Mem) :=
  if (M 15 w0 i0 2) ≤ x1 then
    if x1 ≤ (M 15 w0 i0 3) then
      some (1, M)
    else
      some (0, M)
  else
    some (0, M)
/-! FreeLances$World.served -/
def mW_served_2b (j2 : Nat → Int32 → Int32 → Int32 → Mem → Option (Int32 × Mem)) (w0 : Nat) (x1 : Int32) (x2 : Int32) (x3 : Int32) (M : Mem) : Option (Int32 × Mem) :=
  if x3 < (M 1 w0 0 12) then
    ixx x3 24 fun k1 =>
    (mB_isContractOf w0 k1 x1 M).bind fun q2 =>
    if q2.1 = 0 then
      j2 w0 x1 x2 (x3 + 1) q2.2
    else
      ixx x3 24 fun k3 =>
      (mB_has w0 k3 x2 q2.2).bind fun q4 =>
      if q4.1 = 0 then
        j2 w0 x1 x2 (x3 + 1) q4.2
      else
        ixx x3 24 fun k5 =>
        some (q4.2 15 w0 k5 5, q4.2)
  else
    some ((-1), M)
def mW_served_2 : Nat → Nat → Int32 → Int32 → Int32 → Mem → Option (Int32 × Mem)
  | 0, _, _, _, _, _ => none
  | n + 1, w0, x1, x2, x3, M => mW_served_2b (mW_served_2 n) w0 x1 x2 x3 M
def mW_servedb (j2 : Nat → Int32 → Int32 → Int32 → Mem → Option (Int32 × Mem)) (w0 : Nat) (x1 : Int32) (x2 : Int32) (M : Mem) : Option (Int32 × Mem) :=
  j2 w0 x1 x2 0 M
def mW_served (w0 : Nat) (x1 : Int32) (x2 : Int32) (M : Mem) : Option (Int32 × Mem) := mW_servedb (mW_served_2 fuel) w0 x1 x2 M
/-! FreeLances.about -/
def mF_about (x1 : Int32) (x2 : Int32) (M : Mem) : Option (Int32 × Mem) :=
  (mF_isCompany x1 M).bind fun q1 =>
  if q1.1 = 0 then
    (mF_finding 1 q1.2).bind fun q2 =>
    some (q2.1, q2.2)
  else
    ixx x1 5 fun k3 =>
    if x2 = 0 then
      some (q1.2 6 0 k3 3, q1.2)
    else
      if x2 = 1 then
        some (q1.2 6 0 k3 0, q1.2)
      else
        if x2 = 2 then
          some (q1.2 6 0 k3 1, q1.2)
        else
          if x2 = 3 then
            some (q1.2 6 0 k3 2, q1.2)
          else
            if x2 = 4 then
              some (q1.2 6 0 k3 6, q1.2)
            else
              if x2 = 5 then
                some (q1.2 6 0 k3 7, q1.2)
              else
                if x2 = 6 then
                  (mW_served 0 x1 (q1.2 1 0 0 0) q1.2).bind fun q5 =>
                  some (q5.1, q5.2)
                else
                  if x2 = 7 then
                    some (q1.2 6 0 k3 8, q1.2)
                  else
                    if x2 = 8 then
                      some (q1.2 6 0 k3 9, q1.2)
                    else
                      (mF_finding 1 q1.2).bind fun q4 =>
                      some (q4.1, q4.2)
/-! FreeLances.isMark -/
def mF_isMark (x0 : Int32) (M : Mem) : Option (Int32 × Mem) :=
  (mF_within x0 0 99 M).bind fun q1 =>
  if q1.1 = 0 ∨ q1.1 = 1 then
    some (q1.1, q1.2)
  else
    none
/-! FreeLances$Lance.begin -/
def mL_begin (w0 : Nat) (i0 : Nat) (x1 : Int32) (x2 : Int32) (x3 : Int32) (M : Mem) : Option Mem :=
  let M1 : Mem := up M 10 w0 i0 0 x1
  let M2 : Mem := up M1 10 w0 i0 1 x2
  let M3 : Mem := up M2 10 w0 i0 2 x3
  let M4 : Mem := up M3 10 w0 i0 3 0
  let M5 : Mem := up M4 10 w0 i0 4 (-1)
  some M5
/-! FreeLances.lance -/
def mF_lance (x1 : Int32) (x2 : Int32) (x3 : Int32) (M : Mem) : Option (Int32 × Mem) :=
  (mF_isCompany x1 M).bind fun q1 =>
  if q1.1 = 0 then
    (mF_finding 1 q1.2).bind fun q2 =>
    some (q2.1, q2.2)
  else
    (mF_isMark x2 q1.2).bind fun q3 =>
    if q3.1 = 0 then
      (mF_finding 1 q3.2).bind fun q4 =>
      some (q4.1, q4.2)
    else
      (mF_within x3 100 180 q3.2).bind fun q5 =>
      if q5.1 = 0 then
        (mF_finding 1 q5.2).bind fun q6 =>
        some (q6.1, q6.2)
      else
        if (q5.2 1 0 0 8) < 40 then
          ixx (q5.2 1 0 0 8) 40 fun k7 =>
          (mL_begin 0 k7 x1 x2 x3 q5.2).bind fun q8 =>
          ixx x1 5 fun k9 =>
          let M10 : Mem := up q8 6 0 k9 6 ((q8 6 0 k9 6) + 1)
          let M11 : Mem := up M10 1 0 0 8 ((M10 1 0 0 8) + 1)
          some (M10 1 0 0 8, M11)
        else
          (mF_finding 4 q5.2).bind fun q12 =>
          some (q12.1, q12.2)
/-! FreeLances.isLance -/
def mF_isLance (x1 : Int32) (M : Mem) : Option (Int32 × Mem) :=
  (mF_within x1 0 ((M 1 0 0 8) - 1) M).bind fun q1 =>
  if q1.1 = 0 ∨ q1.1 = 1 then
    some (q1.1, q1.2)
  else
    none
/-! FreeLances.lanceIs -/
def mF_lanceIs (x1 : Int32) (x2 : Int32) (M : Mem) : Option (Int32 × Mem) :=
  (mF_isLance x1 M).bind fun q1 =>
  if q1.1 = 0 then
    (mF_finding 1 q1.2).bind fun q2 =>
    some (q2.1, q2.2)
  else
    ixx x1 40 fun k3 =>
    if x2 = 0 then
      some (q1.2 10 0 k3 0, q1.2)
    else
      if x2 = 1 then
        some (q1.2 10 0 k3 1, q1.2)
      else
        if x2 = 2 then
          some (q1.2 10 0 k3 2, q1.2)
        else
          if x2 = 3 then
            some (q1.2 10 0 k3 3, q1.2)
          else
            if x2 = 4 then
              some (q1.2 10 0 k3 4, q1.2)
            else
              (mF_finding 1 q1.2).bind fun q4 =>
              some (q4.1, q4.2)
/-! FreeLances$Lance.present -/
def mL_present (w0 : Nat) (i0 : Nat) (M : Mem) : Option (Int32 × Mem) :=
  if (M 10 w0 i0 3) = 0 then
    some (1, M)
  else
    if (M 10 w0 i0 3) = 1 then
      some (1, M)
    else
      some (0, M)
/-! FreeLances$World.inForce -/
def mW_inForce_7b (j7 : Nat → Int32 → Int32 → Int32 → Mem → Option (Int32 × Mem)) (w0 : Nat) (x1 : Int32) (x2 : Int32) (x3 : Int32) (M : Mem) : Option (Int32 × Mem) :=
  if x3 < 0 then
    some ((-1), M)
  else
    ixx x3 12 fun k1 =>
    if (M 12 w0 k1 0) = x1 then
      ixx x3 12 fun k2 =>
      if (M 12 w0 k2 1) ≤ x2 then
        some (x3, M)
      else
        j7 w0 x1 x2 (x3 + (-1)) M
    else
      j7 w0 x1 x2 (x3 + (-1)) M
def mW_inForce_7 : Nat → Nat → Int32 → Int32 → Int32 → Mem → Option (Int32 × Mem)
  | 0, _, _, _, _, _ => none
  | n + 1, w0, x1, x2, x3, M => mW_inForce_7b (mW_inForce_7 n) w0 x1 x2 x3 M
def mW_inForceb (j7 : Nat → Int32 → Int32 → Int32 → Mem → Option (Int32 × Mem)) (w0 : Nat) (x1 : Int32) (x2 : Int32) (M : Mem) : Option (Int32 × Mem) :=
  j7 w0 x1 x2 ((M 1 w0 0 10) - 1) M
def mW_inForce (w0 : Nat) (x1 : Int32) (x2 : Int32) (M : Mem) : Option (Int32 × Mem) := mW_inForceb (mW_inForce_7 fuel) w0 x1 x2 M
/-! FreeLances$Reader.begin -/
def mR_begin (w0 : Nat) (w1 : Nat) (i1 : Nat) (x2 : Int32) (x3 : Int32) (M : Mem) : Option Mem :=
  if w1 = w0 then
    let M1 : Mem := up M 17 w0 0 0 (Int32.ofNat i1)
    let t2 : Int32 := if (Int32.ofNat (lenB i1)) < x2 then (Int32.ofNat (lenB i1)) else x2
    let M3 : Mem := up M1 17 w0 0 1 t2
    let M4 : Mem := up M3 17 w0 0 2 x3
    let M5 : Mem := up M4 17 w0 0 6 0
    let M6 : Mem := up M5 17 w0 0 7 (-1)
    some M6
  else
    none
/-! FreeLances$Reader.sign -/
def mR_sign (w0 : Nat) (M : Mem) : Option (Int32 × Mem) :=
  if (M 17 w0 0 6) < (M 17 w0 0 1) then
    ixx (M 17 w0 0 6) (lenB ((M 17 w0 0 0).toNatClampNeg)) fun k1 =>
    some ((M 13 w0 ((M 17 w0 0 0).toNatClampNeg) k1) &&& 255, M)
  else
    some ((-1), M)
/-! FreeLances$Reader.goesOnWith -/
def mR_goesOnWith (w0 : Nat) (x1 : Int32) (x2 : Int32) (M : Mem) : Option (Int32 × Mem) :=
  (mR_sign w0 M).bind fun q1 =>
  if (q1.2 17 w0 0 7) < 0 then
    if q1.1 = x1 then
      some (1, q1.2)
    else
      if q1.1 = x2 then
        some (1, q1.2)
      else
        some (0, q1.2)
  else
    some (0, q1.2)
/-! FreeLances$Reader.number -/
def mR_number_4b (j4 : Nat → Int32 → Int32 → Mem → Option (Int32 × Mem)) (w0 : Nat) (x1 : Int32) (x2 : Int32) (M : Mem) : Option (Int32 × Mem) :=
  if x2 < 4 then
    (mR_sign w0 M).bind fun q1 =>
    if q1.1 < 48 then
      some (x1, q1.2)
    else
      (mR_sign w0 q1.2).bind fun q2 =>
      if q2.1 ≤ 57 then
        (mR_sign w0 q2.2).bind fun q3 =>
        let M4 : Mem := up q3.2 17 w0 0 6 ((q3.2 17 w0 0 6) + 1)
        j4 w0 (((x1 * 10) + q3.1) - 48) (x2 + 1) M4
      else
        some (x1, q2.2)
  else
    some (x1, M)
def mR_number_4 : Nat → Nat → Int32 → Int32 → Mem → Option (Int32 × Mem)
  | 0, _, _, _, _ => none
  | n + 1, w0, x1, x2, M => mR_number_4b (mR_number_4 n) w0 x1 x2 M
def mR_numberb (j4 : Nat → Int32 → Int32 → Mem → Option (Int32 × Mem)) (w0 : Nat) (M : Mem) : Option (Int32 × Mem) :=
  j4 w0 0 0 M
def mR_number (w0 : Nat) (M : Mem) : Option (Int32 × Mem) := mR_numberb (mR_number_4 fuel) w0 M
/-! FreeLances$Reader.nameOf -/
def mR_nameOf (w0 : Nat) (x1 : Int32) (M : Mem) : Option (Int32 × Mem) :=
  if (M 17 w0 0 2) = 0 then
    if x1 = 104 then
      some (0, M)
    else
      if x1 = 109 then
        some (1, M)
      else
        if x1 = 115 then
          some (2, M)
        else
          some ((-1), M)
  else
    if (M 17 w0 0 2) = 1 then
      if x1 = 110 then
        some (0, M)
      else
        if x1 = 112 then
          some (1, M)
        else
          some ((-1), M)
    else
      if (M 17 w0 0 2) = 2 then
        if x1 = 108 then
          some (0, M)
        else
          if x1 = 111 then
            some (1, M)
          else
            some ((-1), M)
      else
        if (M 17 w0 0 2) = 3 then
          if x1 = 99 then
            some (0, M)
          else
            some ((-1), M)
        else
          some ((-1), M)
/-! FreeLances$Reader.either -/
def mR_either_8b (rR_both : Nat → Int32 → Mem → Option (Int32 × Mem)) (j8 : Nat → Int32 → Int32 → Int32 → Mem → Option (Int32 × Mem)) (w0 : Nat) (x1 : Int32) (x2 : Int32) (x3 : Int32) (M : Mem) : Option (Int32 × Mem) :=
  if x3 < 50 then
    (mR_goesOnWith w0 124 124 M).bind fun q1 =>
    if q1.1 = 0 then
      some (x2, q1.2)
    else
      let M2 : Mem := up q1.2 17 w0 0 6 ((q1.2 17 w0 0 6) + 1)
      (rR_both w0 x1 M2).bind fun q3 =>
      if x2 = 0 then
        if q3.1 = 0 then
          j8 w0 x1 0 (x3 + 1) q3.2
        else
          j8 w0 x1 1 (x3 + 1) q3.2
      else
        j8 w0 x1 1 (x3 + 1) q3.2
  else
    some (x2, M)
def mR_either_8 (rR_both : Nat → Int32 → Mem → Option (Int32 × Mem)) : Nat → Nat → Int32 → Int32 → Int32 → Mem → Option (Int32 × Mem)
  | 0, _, _, _, _, _ => none
  | n + 1, w0, x1, x2, x3, M => mR_either_8b rR_both (mR_either_8 rR_both n) w0 x1 x2 x3 M
def mR_eitherb (rR_both : Nat → Int32 → Mem → Option (Int32 × Mem)) (j8 : Nat → Int32 → Int32 → Int32 → Mem → Option (Int32 × Mem)) (w0 : Nat) (x1 : Int32) (M : Mem) : Option (Int32 × Mem) :=
  (rR_both w0 x1 M).bind fun q1 =>
  j8 w0 x1 q1.1 0 q1.2
def mR_either (rR_both : Nat → Int32 → Mem → Option (Int32 × Mem)) (w0 : Nat) (x1 : Int32) (M : Mem) : Option (Int32 × Mem) := mR_eitherb rR_both (mR_either_8 rR_both fuel) w0 x1 M
/-! FreeLances$Reader.both -/
def mR_both_8b (rR_compared : Nat → Int32 → Mem → Option (Int32 × Mem)) (j8 : Nat → Int32 → Int32 → Int32 → Mem → Option (Int32 × Mem)) (w0 : Nat) (x1 : Int32) (x2 : Int32) (x3 : Int32) (M : Mem) : Option (Int32 × Mem) :=
  if x3 < 50 then
    (mR_goesOnWith w0 38 38 M).bind fun q1 =>
    if q1.1 = 0 then
      some (x2, q1.2)
    else
      let M2 : Mem := up q1.2 17 w0 0 6 ((q1.2 17 w0 0 6) + 1)
      (rR_compared w0 x1 M2).bind fun q3 =>
      if x2 = 0 then
        j8 w0 x1 0 (x3 + 1) q3.2
      else
        if q3.1 = 0 then
          j8 w0 x1 0 (x3 + 1) q3.2
        else
          j8 w0 x1 1 (x3 + 1) q3.2
  else
    some (x2, M)
def mR_both_8 (rR_compared : Nat → Int32 → Mem → Option (Int32 × Mem)) : Nat → Nat → Int32 → Int32 → Int32 → Mem → Option (Int32 × Mem)
  | 0, _, _, _, _, _ => none
  | n + 1, w0, x1, x2, x3, M => mR_both_8b rR_compared (mR_both_8 rR_compared n) w0 x1 x2 x3 M
def mR_bothb (rR_compared : Nat → Int32 → Mem → Option (Int32 × Mem)) (j8 : Nat → Int32 → Int32 → Int32 → Mem → Option (Int32 × Mem)) (w0 : Nat) (x1 : Int32) (M : Mem) : Option (Int32 × Mem) :=
  (rR_compared w0 x1 M).bind fun q1 =>
  j8 w0 x1 q1.1 0 q1.2
def mR_both (rR_compared : Nat → Int32 → Mem → Option (Int32 × Mem)) (w0 : Nat) (x1 : Int32) (M : Mem) : Option (Int32 × Mem) := mR_bothb rR_compared (mR_both_8 rR_compared fuel) w0 x1 M
/-! FreeLances$Reader.compared -/
def mR_compared_106b (rR_added : Nat → Int32 → Mem → Option (Int32 × Mem)) (y0 : Int32) (M : Mem) : Option (Int32 × Mem) :=
  if y0 = 0 then
    some (0, M)
  else
    some (1, M)
def mR_compared_106 (rR_added : Nat → Int32 → Mem → Option (Int32 × Mem)) (y0 : Int32) (M : Mem) : Option (Int32 × Mem) := mR_compared_106b rR_added y0 M
def mR_compared_38b (rR_added : Nat → Int32 → Mem → Option (Int32 × Mem)) (j106 : Int32 → Mem → Option (Int32 × Mem)) (w0 : Nat) (x1 : Int32) (x2 : Int32) (x3 : Int32) (M : Mem) : Option (Int32 × Mem) :=
  let M1 : Mem := up M 17 w0 0 6 ((M 17 w0 0 6) + 1)
  (rR_added w0 x1 M1).bind fun q2 =>
  if x3 = 60 then
    if x2 < q2.1 then
      j106 1 q2.2
    else
      j106 0 q2.2
  else
    if x3 = 61 then
      if x2 = q2.1 then
        j106 1 q2.2
      else
        j106 0 q2.2
    else
      if x2 ≤ q2.1 then
        j106 0 q2.2
      else
        j106 1 q2.2
def mR_compared_38 (rR_added : Nat → Int32 → Mem → Option (Int32 × Mem)) (w0 : Nat) (x1 : Int32) (x2 : Int32) (x3 : Int32) (M : Mem) : Option (Int32 × Mem) := mR_compared_38b rR_added (mR_compared_106 rR_added) w0 x1 x2 x3 M
def mR_comparedb (rR_added : Nat → Int32 → Mem → Option (Int32 × Mem)) (j38 : Nat → Int32 → Int32 → Int32 → Mem → Option (Int32 × Mem)) (w0 : Nat) (x1 : Int32) (M : Mem) : Option (Int32 × Mem) :=
  (rR_added w0 x1 M).bind fun q1 =>
  (mR_sign w0 q1.2).bind fun q2 =>
  if (q2.2 17 w0 0 7) < 0 then
    if q2.1 = 60 then
      j38 w0 x1 q1.1 q2.1 q2.2
    else
      if q2.1 = 61 then
        j38 w0 x1 q1.1 q2.1 q2.2
      else
        if q2.1 = 62 then
          j38 w0 x1 q1.1 q2.1 q2.2
        else
          some (q1.1, q2.2)
  else
    some (q1.1, q2.2)
def mR_compared (rR_added : Nat → Int32 → Mem → Option (Int32 × Mem)) (w0 : Nat) (x1 : Int32) (M : Mem) : Option (Int32 × Mem) := mR_comparedb rR_added (mR_compared_38 rR_added) w0 x1 M
/-! FreeLances$Reader.added -/
def mR_added_8b (rR_multiplied : Nat → Int32 → Mem → Option (Int32 × Mem)) (j8 : Nat → Int32 → Int32 → Int32 → Mem → Option (Int32 × Mem)) (w0 : Nat) (x1 : Int32) (x2 : Int32) (x3 : Int32) (M : Mem) : Option (Int32 × Mem) :=
  if x3 < 50 then
    (mR_goesOnWith w0 43 45 M).bind fun q1 =>
    if q1.1 = 0 then
      some (x2, q1.2)
    else
      (mR_sign w0 q1.2).bind fun q2 =>
      if q2.1 = 43 then
        let M3 : Mem := up q2.2 17 w0 0 6 ((q2.2 17 w0 0 6) + 1)
        (rR_multiplied w0 x1 M3).bind fun q4 =>
        j8 w0 x1 (x2 + q4.1) (x3 + 1) q4.2
      else
        let M5 : Mem := up q2.2 17 w0 0 6 ((q2.2 17 w0 0 6) + 1)
        (rR_multiplied w0 x1 M5).bind fun q6 =>
        j8 w0 x1 (x2 - q6.1) (x3 + 1) q6.2
  else
    some (x2, M)
def mR_added_8 (rR_multiplied : Nat → Int32 → Mem → Option (Int32 × Mem)) : Nat → Nat → Int32 → Int32 → Int32 → Mem → Option (Int32 × Mem)
  | 0, _, _, _, _, _ => none
  | n + 1, w0, x1, x2, x3, M => mR_added_8b rR_multiplied (mR_added_8 rR_multiplied n) w0 x1 x2 x3 M
def mR_addedb (rR_multiplied : Nat → Int32 → Mem → Option (Int32 × Mem)) (j8 : Nat → Int32 → Int32 → Int32 → Mem → Option (Int32 × Mem)) (w0 : Nat) (x1 : Int32) (M : Mem) : Option (Int32 × Mem) :=
  (rR_multiplied w0 x1 M).bind fun q1 =>
  j8 w0 x1 q1.1 0 q1.2
def mR_added (rR_multiplied : Nat → Int32 → Mem → Option (Int32 × Mem)) (w0 : Nat) (x1 : Int32) (M : Mem) : Option (Int32 × Mem) := mR_addedb rR_multiplied (mR_added_8 rR_multiplied fuel) w0 x1 M
/-! FreeLances$Reader.multiplied -/
def mR_multiplied_39b (rR_single : Nat → Int32 → Mem → Option (Int32 × Mem)) (j8 : Nat → Int32 → Int32 → Int32 → Mem → Option (Int32 × Mem)) (w0 : Nat) (x1 : Int32) (x2 : Int32) (x3 : Int32) (y0 : Int32) (M : Mem) : Option (Int32 × Mem) :=
  let M1 : Mem := up M 17 w0 0 6 ((M 17 w0 0 6) + 1)
  (rR_single w0 x1 M1).bind fun q2 =>
  if y0 = 0 then
    if q2.1 = 0 then
      j8 w0 x1 0 (x3 + 1) q2.2
    else
      if q2.1 = 0 then
        none
      else
        j8 w0 x1 (x2 / q2.1) (x3 + 1) q2.2
  else
    j8 w0 x1 (x2 * q2.1) (x3 + 1) q2.2
def mR_multiplied_39 (rR_single : Nat → Int32 → Mem → Option (Int32 × Mem)) (r8 : Nat → Int32 → Int32 → Int32 → Mem → Option (Int32 × Mem)) (w0 : Nat) (x1 : Int32) (x2 : Int32) (x3 : Int32) (y0 : Int32) (M : Mem) : Option (Int32 × Mem) := mR_multiplied_39b rR_single r8 w0 x1 x2 x3 y0 M
def mR_multiplied_8b (rR_single : Nat → Int32 → Mem → Option (Int32 × Mem)) (j39 : Nat → Int32 → Int32 → Int32 → Int32 → Mem → Option (Int32 × Mem)) (w0 : Nat) (x1 : Int32) (x2 : Int32) (x3 : Int32) (M : Mem) : Option (Int32 × Mem) :=
  if x3 < 50 then
    (mR_goesOnWith w0 42 47 M).bind fun q1 =>
    if q1.1 = 0 then
      some (x2, q1.2)
    else
      (mR_sign w0 q1.2).bind fun q2 =>
      if q2.1 = 42 then
        j39 w0 x1 x2 x3 1 q2.2
      else
        j39 w0 x1 x2 x3 0 q2.2
  else
    some (x2, M)
def mR_multiplied_8 (rR_single : Nat → Int32 → Mem → Option (Int32 × Mem)) : Nat → Nat → Int32 → Int32 → Int32 → Mem → Option (Int32 × Mem)
  | 0, _, _, _, _, _ => none
  | n + 1, w0, x1, x2, x3, M => mR_multiplied_8b rR_single (mR_multiplied_39 rR_single (mR_multiplied_8 rR_single n)) w0 x1 x2 x3 M
def mR_multipliedb (rR_single : Nat → Int32 → Mem → Option (Int32 × Mem)) (j8 : Nat → Int32 → Int32 → Int32 → Mem → Option (Int32 × Mem)) (w0 : Nat) (x1 : Int32) (M : Mem) : Option (Int32 × Mem) :=
  (rR_single w0 x1 M).bind fun q1 =>
  j8 w0 x1 q1.1 0 q1.2
def mR_multiplied (rR_single : Nat → Int32 → Mem → Option (Int32 × Mem)) (w0 : Nat) (x1 : Int32) (M : Mem) : Option (Int32 × Mem) := mR_multipliedb rR_single (mR_multiplied_8 rR_single fuel) w0 x1 M
/-! FreeLances$Reader.single -/
def mR_single_22b (rR_opened : Nat → Int32 → Int32 → Mem → Option (Int32 × Mem)) (w0 : Nat) (x1 : Int32) (x2 : Int32) (M : Mem) : Option (Int32 × Mem) :=
  if x2 = 33 then
    (rR_opened w0 x2 x1 M).bind fun q1 =>
    some (q1.1, q1.2)
  else
    if x2 = 40 then
      (rR_opened w0 x2 x1 M).bind fun q2 =>
      some (q2.1, q2.2)
    else
      (mR_nameOf w0 x2 M).bind fun q3 =>
      if q3.1 < 0 then
        let M4 : Mem := up q3.2 17 w0 0 7 (q3.2 17 w0 0 6)
        some (0, M4)
      else
        let M5 : Mem := up q3.2 17 w0 0 6 ((q3.2 17 w0 0 6) + 1)
        if q3.1 = 0 then
          some (M5 17 w0 0 3, M5)
        else
          if q3.1 = 1 then
            some (M5 17 w0 0 4, M5)
          else
            some (M5 17 w0 0 5, M5)
def mR_single_22 (rR_opened : Nat → Int32 → Int32 → Mem → Option (Int32 × Mem)) (w0 : Nat) (x1 : Int32) (x2 : Int32) (M : Mem) : Option (Int32 × Mem) := mR_single_22b rR_opened w0 x1 x2 M
def mR_singleb (rR_opened : Nat → Int32 → Int32 → Mem → Option (Int32 × Mem)) (j22 : Nat → Int32 → Int32 → Mem → Option (Int32 × Mem)) (w0 : Nat) (x1 : Int32) (M : Mem) : Option (Int32 × Mem) :=
  (mR_sign w0 M).bind fun q1 =>
  if q1.1 < 48 then
    j22 w0 x1 q1.1 q1.2
  else
    if q1.1 ≤ 57 then
      (mR_number w0 q1.2).bind fun q2 =>
      some (q2.1, q2.2)
    else
      j22 w0 x1 q1.1 q1.2
def mR_single (rR_opened : Nat → Int32 → Int32 → Mem → Option (Int32 × Mem)) (w0 : Nat) (x1 : Int32) (M : Mem) : Option (Int32 × Mem) := mR_singleb rR_opened (mR_single_22 rR_opened) w0 x1 M
/-! FreeLances$Reader.opened -/
def mR_opened (rR_either : Nat → Int32 → Mem → Option (Int32 × Mem)) (rR_single : Nat → Int32 → Mem → Option (Int32 × Mem)) (w0 : Nat) (x1 : Int32) (x2 : Int32) (M : Mem) : Option (Int32 × Mem) :=
  if x2 < 5 then
    let M1 : Mem := up M 17 w0 0 6 ((M 17 w0 0 6) + 1)
    if x1 = 33 then
      (rR_single w0 (x2 + 1) M1).bind fun q2 =>
      if q2.1 = 0 then
        some (1, q2.2)
      else
        some (0, q2.2)
    else
      (rR_either w0 (x2 + 1) M1).bind fun q3 =>
      if (q3.2 17 w0 0 7) < 0 then
        (mR_sign w0 q3.2).bind fun q4 =>
        if q4.1 = 41 then
          let M5 : Mem := up q4.2 17 w0 0 6 ((q4.2 17 w0 0 6) + 1)
          some (q3.1, M5)
        else
          if (q4.2 17 w0 0 7) < 0 then
            let M6 : Mem := up q4.2 17 w0 0 7 (q4.2 17 w0 0 6)
            some (q3.1, M6)
          else
            some (q3.1, q4.2)
      else
        if (q3.2 17 w0 0 7) < 0 then
          let M7 : Mem := up q3.2 17 w0 0 7 (q3.2 17 w0 0 6)
          some (q3.1, M7)
        else
          some (q3.1, q3.2)
  else
    let M8 : Mem := up M 17 w0 0 7 (M 17 w0 0 6)
    some (0, M8)
def g1 : Nat → Nat → Nat → Int32 → Int32 → Mem → Option (Int32 × Mem)
  | 0, _, _, _, _, _ => none
  | n + 1, 0, w0, x1, _, M => mR_either (fun w0 x1 M => g1 n 1 w0 x1 0 M) w0 x1 M
  | n + 1, 1, w0, x1, _, M => mR_both (fun w0 x1 M => g1 n 2 w0 x1 0 M) w0 x1 M
  | n + 1, 2, w0, x1, _, M => mR_compared (fun w0 x1 M => g1 n 3 w0 x1 0 M) w0 x1 M
  | n + 1, 3, w0, x1, _, M => mR_added (fun w0 x1 M => g1 n 4 w0 x1 0 M) w0 x1 M
  | n + 1, 4, w0, x1, _, M => mR_multiplied (fun w0 x1 M => g1 n 5 w0 x1 0 M) w0 x1 M
  | n + 1, 5, w0, x1, _, M => mR_single (fun w0 x1 x2 M => g1 n 6 w0 x1 x2 M) w0 x1 M
  | n + 1, 6, w0, x1, x2, M => mR_opened (fun w0 x1 M => g1 n 0 w0 x1 0 M) (fun w0 x1 M => g1 n 5 w0 x1 0 M) w0 x1 x2 M
  | _ + 1, _, _, _, _, _ => none
def xR_either (w0 : Nat) (x1 : Int32) (M : Mem) : Option (Int32 × Mem) := g1 60 0 w0 x1 0 M
def xR_both (w0 : Nat) (x1 : Int32) (M : Mem) : Option (Int32 × Mem) := g1 60 1 w0 x1 0 M
def xR_compared (w0 : Nat) (x1 : Int32) (M : Mem) : Option (Int32 × Mem) := g1 60 2 w0 x1 0 M
def xR_added (w0 : Nat) (x1 : Int32) (M : Mem) : Option (Int32 × Mem) := g1 60 3 w0 x1 0 M
def xR_multiplied (w0 : Nat) (x1 : Int32) (M : Mem) : Option (Int32 × Mem) := g1 60 4 w0 x1 0 M
def xR_single (w0 : Nat) (x1 : Int32) (M : Mem) : Option (Int32 × Mem) := g1 60 5 w0 x1 0 M
def xR_opened (w0 : Nat) (x1 : Int32) (x2 : Int32) (M : Mem) : Option (Int32 × Mem) := g1 60 6 w0 x1 x2 M
/-! FreeLances$Reader.workOut -/
def mR_workOut (w0 : Nat) (w1 : Nat) (i1 : Nat) (x2 : Int32) (x3 : Int32) (x4 : Int32) (M : Mem) : Option (Int32 × Mem) :=
  let M1 : Mem := up M 17 w0 0 3 x2
  let M2 : Mem := up M1 17 w0 0 4 x3
  let M3 : Mem := up M2 17 w0 0 5 x4
  (mR_begin w0 w1 i1 (M3 12 w1 i1 2) (M3 12 w1 i1 0) M3).bind fun q4 =>
  (xR_either w0 0 q4).bind fun q5 =>
  some (q5.1, q5.2)
/-! FreeLances$World.letsGo -/
def mW_letsGo (w0 : Nat) (w1 : Nat) (i1 : Nat) (M : Mem) : Option (Int32 × Mem) :=
  (mW_inForce w0 2 (M 1 w0 0 0) M).bind fun q1 =>
  if q1.1 < 0 then
    if ((M 1 w0 0 0) - (M 15 w1 i1 9)) ≤ 60 then
      some (0, q1.2)
    else
      some (1, q1.2)
  else
    ixx q1.1 12 fun k2 =>
    (mR_workOut w0 w0 k2 ((M 1 w0 0 0) - (M 15 w1 i1 9)) (q1.2 15 w1 i1 8) 0 q1.2).bind fun q3 =>
    if q3.1 = 0 then
      some (0, q3.2)
    else
      some (1, q3.2)
/-! FreeLances$World.mayGo -/
def mW_mayGo_16b (j16 : Nat → Int32 → Int32 → Mem → Option (Int32 × Mem)) (w0 : Nat) (x1 : Int32) (x2 : Int32) (M : Mem) : Option (Int32 × Mem) :=
  if x2 < (M 1 w0 0 12) then
    ixx x2 24 fun k1 =>
    (mB_isContractOf w0 k1 x1 M).bind fun q2 =>
    if q2.1 = 0 then
      j16 w0 x1 (x2 + 1) q2.2
    else
      ixx x2 24 fun k3 =>
      if (q2.2 15 w0 k3 8) ≤ 0 then
        j16 w0 x1 (x2 + 1) q2.2
      else
        ixx x2 24 fun k4 =>
        (mW_letsGo w0 w0 k4 q2.2).bind fun q5 =>
        if q5.1 = 0 then
          j16 w0 x1 (x2 + 1) q5.2
        else
          some (1, q5.2)
  else
    some (0, M)
def mW_mayGo_16 : Nat → Nat → Int32 → Int32 → Mem → Option (Int32 × Mem)
  | 0, _, _, _, _ => none
  | n + 1, w0, x1, x2, M => mW_mayGo_16b (mW_mayGo_16 n) w0 x1 x2 M
def mW_mayGob (j16 : Nat → Int32 → Int32 → Mem → Option (Int32 × Mem)) (w0 : Nat) (x1 : Int32) (M : Mem) : Option (Int32 × Mem) :=
  (mW_served w0 x1 (M 1 w0 0 0) M).bind fun q1 =>
  if q1.1 < 0 then
    some (1, q1.2)
  else
    j16 w0 x1 0 q1.2
def mW_mayGo (w0 : Nat) (x1 : Int32) (M : Mem) : Option (Int32 × Mem) := mW_mayGob (mW_mayGo_16 fuel) w0 x1 M
/-! FreeLances$World.together -/
def mW_together (w0 : Nat) (x1 : Int32) (x2 : Int32) (M : Mem) : Option (Int32 × Mem) :=
  ixx x1 5 fun k1 =>
  (mC_marches w0 k1 M).bind fun q2 =>
  if q2.1 = 0 then
    ixx x1 5 fun k3 =>
    ixx x2 5 fun k4 =>
    if (q2.2 6 w0 k3 3) = (q2.2 6 w0 k4 3) then
      some (1, q2.2)
    else
      some (0, q2.2)
  else
    some (0, q2.2)
/-! FreeLances$Company.part -/
def mC_part (w0 : Nat) (i0 : Nat) (x1 : Int32) (M : Mem) : Option Mem :=
  if x1 = 0 then
    let M1 : Mem := up M 6 w0 i0 6 ((M 6 w0 i0 6) - 1)
    if x1 = 1 then
      let M2 : Mem := up M1 6 w0 i0 7 ((M1 6 w0 i0 7) - 1)
      some M2
    else
      let M3 : Mem := up M1 6 w0 i0 7 ((M1 6 w0 i0 7) - 0)
      some M3
  else
    let M4 : Mem := up M 6 w0 i0 6 ((M 6 w0 i0 6) - 0)
    if x1 = 1 then
      let M5 : Mem := up M4 6 w0 i0 7 ((M4 6 w0 i0 7) - 1)
      some M5
    else
      let M6 : Mem := up M4 6 w0 i0 7 ((M4 6 w0 i0 7) - 0)
      some M6
/-! FreeLances$Company.join -/
def mC_join (w0 : Nat) (i0 : Nat) (x1 : Int32) (M : Mem) : Option Mem :=
  if x1 = 0 then
    let M1 : Mem := up M 6 w0 i0 6 ((M 6 w0 i0 6) + 1)
    if x1 = 1 then
      let M2 : Mem := up M1 6 w0 i0 7 ((M1 6 w0 i0 7) + 1)
      some M2
    else
      let M3 : Mem := up M1 6 w0 i0 7 ((M1 6 w0 i0 7) + 0)
      some M3
  else
    let M4 : Mem := up M 6 w0 i0 6 ((M 6 w0 i0 6) + 0)
    if x1 = 1 then
      let M5 : Mem := up M4 6 w0 i0 7 ((M4 6 w0 i0 7) + 1)
      some M5
    else
      let M6 : Mem := up M4 6 w0 i0 7 ((M4 6 w0 i0 7) + 0)
      some M6
/-! FreeLances.over -/
def mF_over (x1 : Int32) (x2 : Int32) (M : Mem) : Option (Int32 × Mem) :=
  (mF_isLance x1 M).bind fun q1 =>
  if q1.1 = 0 then
    (mF_finding 1 q1.2).bind fun q2 =>
    some (q2.1, q2.2)
  else
    (mF_isCompany x2 q1.2).bind fun q3 =>
    if q3.1 = 0 then
      (mF_finding 1 q3.2).bind fun q4 =>
      some (q4.1, q4.2)
    else
      ixx x1 40 fun k5 =>
      if (q3.2 10 0 k5 0) = x2 then
        (mF_finding 1 q3.2).bind fun q6 =>
        some (q6.1, q6.2)
      else
        ixx x1 40 fun k7 =>
        (mL_present 0 k7 q3.2).bind fun q8 =>
        if q8.1 = 0 then
          (mF_finding 3 q8.2).bind fun q9 =>
          some (q9.1, q9.2)
        else
          (mW_mayGo 0 (q3.2 10 0 k7 0) q8.2).bind fun q10 =>
          if q10.1 = 0 then
            (mF_finding 3 q10.2).bind fun q11 =>
            some (q11.1, q11.2)
          else
            (mW_together 0 (q3.2 10 0 k7 0) x2 q10.2).bind fun q12 =>
            if q12.1 = 0 then
              (mF_finding 3 q12.2).bind fun q13 =>
              some (q13.1, q13.2)
            else
              ixx (q3.2 10 0 k7 0) 5 fun k14 =>
              (mC_part 0 k14 (q12.2 10 0 k7 3) q12.2).bind fun q15 =>
              let M16 : Mem := up q15 10 0 k7 0 x2
              ixx x2 5 fun k17 =>
              (mC_join 0 k17 (M16 10 0 k7 3) M16).bind fun q18 =>
              some (q3.2 10 0 k7 0, q18)
/-! FreeLances$World.become -/
def mW_become (w0 : Nat) (w1 : Nat) (i1 : Nat) (x2 : Int32) (M : Mem) : Option Mem :=
  ixx (M 10 w1 i1 0) 5 fun k1 =>
  (mC_part w0 k1 (M 10 w1 i1 3) M).bind fun q2 =>
  let M3 : Mem := up q2 10 w1 i1 3 x2
  (mC_join w0 k1 x2 M3).bind fun q4 =>
  some q4
/-! FreeLances.take -/
def mF_take (x1 : Int32) (x2 : Int32) (M : Mem) : Option (Int32 × Mem) :=
  (mF_isTown x1 M).bind fun q1 =>
  if q1.1 = 0 then
    (mF_finding 1 q1.2).bind fun q2 =>
    some (q2.1, q2.2)
  else
    (mF_isLance x2 q1.2).bind fun q3 =>
    if q3.1 = 0 then
      (mF_finding 1 q3.2).bind fun q4 =>
      some (q4.1, q4.2)
    else
      ixx x2 40 fun k5 =>
      (mL_present 0 k5 q3.2).bind fun q6 =>
      if q6.1 = 0 then
        (mF_finding 3 q6.2).bind fun q7 =>
        some (q7.1, q7.2)
      else
        ixx (q6.2 10 0 k5 0) 5 fun k8 =>
        if (q6.2 6 0 k8 3) = x1 then
          (mF_finding 3 q6.2).bind fun q9 =>
          some (q9.1, q9.2)
        else
          (mW_become 0 0 k5 2 q6.2).bind fun q10 =>
          let M11 : Mem := up q10 10 0 k5 4 x1
          some (1, M11)
/-! FreeLances.feed -/
def mF_feed_39b (j39 : Int64 → Int32 → Int32 → Mem → Option (Int32 × Mem)) (x1 : Int64) (x3 : Int32) (x4 : Int32) (M : Mem) : Option (Int32 × Mem) :=
  if x4 < x3 then
    ixx ((M 1 0 0 14) + x4) 50 fun k2 =>
    let M1 : Mem := up M 13 0 12 k2 ((((x1.toUInt64 >>> ((8 * x4).toInt64.toUInt64 &&& Int64.toUInt64 63)).toInt64).toInt32).toInt8.toInt32).toInt8.toInt32
    j39 x1 x3 (x4 + 1) M1
  else
    let M3 : Mem := up M 1 0 0 14 ((M 1 0 0 14) + x3)
    some (M3 1 0 0 14, M3)
def mF_feed_39 : Nat → Int64 → Int32 → Int32 → Mem → Option (Int32 × Mem)
  | 0, _, _, _, _ => none
  | n + 1, x1, x3, x4, M => mF_feed_39b (mF_feed_39 n) x1 x3 x4 M
def mF_feedb (j39 : Int64 → Int32 → Int32 → Mem → Option (Int32 × Mem)) (x1 : Int64) (x3 : Int32) (M : Mem) : Option (Int32 × Mem) :=
  (mF_within x3 1 8 M).bind fun q1 =>
  if q1.1 = 0 then
    (mF_finding 1 q1.2).bind fun q2 =>
    some (q2.1, q2.2)
  else
    if ((q1.2 1 0 0 14) + x3) ≤ 50 then
      j39 x1 x3 0 q1.2
    else
      (mF_finding 4 q1.2).bind fun q3 =>
      some (q3.1, q3.2)
def mF_feed (x1 : Int64) (x3 : Int32) (M : Mem) : Option (Int32 × Mem) := mF_feedb (mF_feed_39 fuel) x1 x3 M
/-! FreeLances.isUse -/
def mF_isUse (x0 : Int32) (M : Mem) : Option (Int32 × Mem) :=
  (mF_within x0 0 3 M).bind fun q1 =>
  if q1.1 = 0 ∨ q1.1 = 1 then
    some (q1.1, q1.2)
  else
    none
/-! FreeLances.isDay -/
def mF_isDay (x0 : Int32) (M : Mem) : Option (Int32 × Mem) :=
  (mF_within x0 0 3000 M).bind fun q1 =>
  if q1.1 = 0 ∨ q1.1 = 1 then
    some (q1.1, q1.2)
  else
    none
/-! FreeLances$Reader.faultOf -/
def mR_faultOf (w0 : Nat) (w1 : Nat) (i1 : Nat) (x2 : Int32) (x3 : Int32) (M : Mem) : Option (Int32 × Mem) :=
  (mR_begin w0 w1 i1 x2 x3 M).bind fun q1 =>
  (xR_either w0 0 q1).bind fun q2 =>
  if (q2.2 17 w0 0 7) < 0 then
    if (q2.2 17 w0 0 6) < (q2.2 17 w0 0 1) then
      let M3 : Mem := up q2.2 17 w0 0 7 (q2.2 17 w0 0 6)
      some (M3 17 w0 0 7, M3)
    else
      some (q2.2 17 w0 0 7, q2.2)
  else
    some (q2.2 17 w0 0 7, q2.2)
/-! FreeLances$Statute.begin -/
def mU_begin (w0 : Nat) (i0 : Nat) (x1 : Int32) (x2 : Int32) (w3 : Nat) (i3 : Nat) (x4 : Int32) (M : Mem) : Option Mem :=
  let M1 : Mem := up M 12 w0 i0 0 x1
  let M2 : Mem := up M1 12 w0 i0 1 x2
  let M3 : Mem := up M2 12 w0 i0 2 x4
  if (0 : Int32) < 0 ∨ (0 : Int32) < 0 ∨ (50 : Int32) < 0 ∨ lenB i3 < (0 : Int32).toNatClampNeg + (50 : Int32).toNatClampNeg ∨ lenB i0 < (0 : Int32).toNatClampNeg + (50 : Int32).toNatClampNeg then
    none
  else
    let M4 : Mem := cpM M3 13 w3 i3 0 w0 i0 0 50
    some M4
/-! FreeLances.statute -/
def mF_statute (x1 : Int32) (x2 : Int32) (M : Mem) : Option (Int32 × Mem) :=
  (mF_isUse x1 M).bind fun q1 =>
  if q1.1 = 0 then
    (mF_finding 1 q1.2).bind fun q2 =>
    some (q2.1, q2.2)
  else
    (mF_isDay x2 q1.2).bind fun q3 =>
    if q3.1 = 0 then
      (mF_finding 1 q3.2).bind fun q4 =>
      some (q4.1, q4.2)
    else
      if (q3.2 1 0 0 10) < 12 then
        let M5 : Mem := up q3.2 1 0 0 14 0
        (mR_faultOf 0 0 12 (q3.2 1 0 0 14) x1 M5).bind fun q6 =>
        if q6.1 < 0 then
          ixx (q6.2 1 0 0 10) 12 fun k7 =>
          (mU_begin 0 k7 x1 x2 0 12 (q3.2 1 0 0 14) q6.2).bind fun q8 =>
          let M9 : Mem := up q8 1 0 0 10 ((q8 1 0 0 10) + 1)
          some (q8 1 0 0 10, M9)
        else
          some ((-10) - q6.1, q6.2)
      else
        (mF_finding 4 q3.2).bind fun q10 =>
        some (q10.1, q10.2)
/-! FreeLances.force -/
def mF_force (x1 : Int32) (x2 : Int32) (M : Mem) : Option (Int32 × Mem) :=
  (mF_isUse x1 M).bind fun q1 =>
  if q1.1 = 0 then
    (mF_finding 1 q1.2).bind fun q2 =>
    some (q2.1, q2.2)
  else
    (mF_isDay x2 q1.2).bind fun q3 =>
    if q3.1 = 0 then
      (mF_finding 1 q3.2).bind fun q4 =>
      some (q4.1, q4.2)
    else
      (mW_inForce 0 x1 x2 q3.2).bind fun q5 =>
      if q5.1 < 0 then
        (mF_finding 2 q5.2).bind fun q6 =>
        some (q6.1, q6.2)
      else
        some (q5.1, q5.2)
/-! FreeLances.says -/
def mF_says (x1 : Int32) (x2 : Int32) (x3 : Int32) (x4 : Int32) (M : Mem) : Option (Int32 × Mem) :=
  (mF_within x1 0 ((M 1 0 0 10) - 1) M).bind fun q1 =>
  if q1.1 = 0 then
    (mF_finding 1 q1.2).bind fun q2 =>
    some (q2.1, q2.2)
  else
    ixx x1 12 fun k3 =>
    (mR_workOut 0 0 k3 x2 x3 x4 q1.2).bind fun q4 =>
    some (q4.1, q4.2)
/-! FreeLances.areDays -/
def mF_areDays (x0 : Int32) (x1 : Int32) (M : Mem) : Option (Int32 × Mem) :=
  (mF_isDay x0 M).bind fun q1 =>
  if q1.1 = 0 then
    some (0, q1.2)
  else
    (mF_isDay x1 q1.2).bind fun q2 =>
    if q2.1 = 0 then
      some (0, q2.2)
    else
      if x0 ≤ x1 then
        some (1, q2.2)
      else
        some (0, q2.2)
/-! FreeLances$World.bondsFull -/
def mW_bondsFull (w0 : Nat) (M : Mem) : Option (Int32 × Mem) :=
  if (M 1 w0 0 12) < 24 then
    some (0, M)
  else
    some (1, M)
/-! FreeLances$Bond.begin -/
def mB_begin (w0 : Nat) (i0 : Nat) (x1 : Int32) (x2 : Int32) (x3 : Int32) (M : Mem) : Option Mem :=
  let M1 : Mem := up M 15 w0 i0 0 x1
  let M2 : Mem := up M1 15 w0 i0 1 x2
  let M3 : Mem := up M2 15 w0 i0 2 (-1)
  let M4 : Mem := up M3 15 w0 i0 3 (-1)
  let M5 : Mem := up M4 15 w0 i0 4 x3
  let M6 : Mem := up M5 15 w0 i0 5 (-1)
  let M7 : Mem := up M6 15 w0 i0 6 (-1)
  let M8 : Mem := up M7 15 w0 i0 7 (-1)
  let M9 : Mem := up M8 15 w0 i0 8 0
  let M10 : Mem := up M9 15 w0 i0 9 (-1)
  let M11 : Mem := up M10 15 w0 i0 10 0
  let M12 : Mem := up M11 15 w0 i0 11 0
  some M12
/-! FreeLances.newBond -/
def mF_newBond (x1 : Int32) (x2 : Int32) (x3 : Int32) (M : Mem) : Option (Nat × Mem) :=
  ixx (M 1 0 0 12) 24 fun k1 =>
  (mB_begin 0 k1 x1 x2 x3 M).bind fun q2 =>
  some (k1, q2)
/-! FreeLances.contract -/
def mF_contract (x1 : Int32) (x2 : Int32) (x3 : Int32) (x4 : Int32) (M : Mem) : Option (Int32 × Mem) :=
  if x1 < 0 then
    (mF_finding 1 M).bind fun q1 =>
    some (q1.1, q1.2)
  else
    (mF_isTown (x1 / 100) M).bind fun q2 =>
    if q2.1 = 0 then
      (mF_finding 1 q2.2).bind fun q3 =>
      some (q3.1, q3.2)
    else
      (mF_isCompany (x1 - x1 / 10 * 10) q2.2).bind fun q4 =>
      if q4.1 = 0 then
        (mF_finding 1 q4.2).bind fun q5 =>
        some (q5.1, q5.2)
      else
        if (((x1 / 10) - (x1 / 10) / 10 * 10) - 1) < (q4.2 1 0 0 2) then
          if (((x1 / 10) - (x1 / 10) / 10 * 10) - 1) = (x1 / 100) then
            (mF_finding 1 q4.2).bind fun q6 =>
            some (q6.1, q6.2)
          else
            (mF_areDays x2 x3 q4.2).bind fun q7 =>
            if q7.1 = 0 then
              (mF_finding 1 q7.2).bind fun q8 =>
              some (q8.1, q8.2)
            else
              (mF_within x4 0 999 q7.2).bind fun q9 =>
              if q9.1 = 0 then
                (mF_finding 1 q9.2).bind fun q10 =>
                some (q10.1, q10.2)
              else
                (mW_bondsFull 0 q9.2).bind fun q11 =>
                if q11.1 = 0 then
                  (mF_newBond 1 (x1 - x1 / 10 * 10) x4 q11.2).bind fun q12 =>
                  let M13 : Mem := up q12.2 15 0 q12.1 2 x2
                  let M14 : Mem := up M13 15 0 q12.1 3 x3
                  let M15 : Mem := up M14 15 0 q12.1 5 (x1 / 100)
                  let M16 : Mem := up M15 15 0 q12.1 6 (((x1 / 10) - (x1 / 10) / 10 * 10) - 1)
                  let M17 : Mem := up M16 1 0 0 12 ((M16 1 0 0 12) + 1)
                  some (M16 1 0 0 12, M17)
                else
                  (mF_finding 4 q11.2).bind fun q18 =>
                  some (q18.1, q18.2)
        else
          (mF_finding 1 q4.2).bind fun q19 =>
          some (q19.1, q19.2)
/-! FreeLances.isBond -/
def mF_isBond (x1 : Int32) (M : Mem) : Option (Int32 × Mem) :=
  (mF_within x1 0 ((M 1 0 0 12) - 1) M).bind fun q1 =>
  if q1.1 = 0 ∨ q1.1 = 1 then
    some (q1.1, q1.2)
  else
    none
/-! FreeLances.renew -/
def mF_renew (x1 : Int32) (x2 : Int32) (x3 : Int32) (M : Mem) : Option (Int32 × Mem) :=
  (mF_isBond x1 M).bind fun q1 =>
  if q1.1 = 0 then
    (mF_finding 1 q1.2).bind fun q2 =>
    some (q2.1, q2.2)
  else
    (mF_within x2 1 400 q1.2).bind fun q3 =>
    if q3.1 = 0 then
      (mF_finding 1 q3.2).bind fun q4 =>
      some (q4.1, q4.2)
    else
      (mF_within x3 0 1 q3.2).bind fun q5 =>
      if q5.1 = 0 then
        (mF_finding 1 q5.2).bind fun q6 =>
        some (q6.1, q6.2)
      else
        ixx x1 24 fun k7 =>
        if ((q5.2 15 0 k7 3) + x2) ≤ 3000 then
          (mB_isContract 0 k7 q5.2).bind fun q8 =>
          if q8.1 = 0 then
            (mF_finding 5 q8.2).bind fun q9 =>
            some (q9.1, q9.2)
          else
            if (q8.2 15 0 k7 11) = 0 then
              (mW_bondsFull 0 q8.2).bind fun q10 =>
              if q10.1 = 0 then
                let M11 : Mem := up q10.2 15 0 k7 11 1
                (mF_newBond 2 (M11 15 0 k7 1) (M11 15 0 k7 4) M11).bind fun q12 =>
                let M13 : Mem := up q12.2 15 0 q12.1 2 ((q12.2 15 0 k7 3) + 1)
                let M14 : Mem := up M13 15 0 q12.1 3 ((M13 15 0 k7 3) + x2)
                let M15 : Mem := up M14 15 0 q12.1 5 (M14 15 0 k7 5)
                let M16 : Mem := up M15 15 0 q12.1 6 (M15 15 0 k7 6)
                let M17 : Mem := up M16 15 0 q12.1 7 x1
                let M18 : Mem := up M17 1 0 0 12 ((M17 1 0 0 12) + 1)
                some (M17 1 0 0 12, M18)
              else
                (mF_finding 4 q10.2).bind fun q19 =>
                some (q19.1, q19.2)
            else
              (mF_finding 3 q8.2).bind fun q20 =>
              some (q20.1, q20.2)
        else
          (mF_finding 1 q5.2).bind fun q21 =>
          some (q21.1, q21.2)
/-! FreeLances$World.coinToCompany -/
def mW_coinToCompany (w0 : Nat) (x1 : Int32) (x2 : Int32) (x3 : Int32) (M : Mem) : Option Mem :=
  ixx x1 8 fun k1 =>
  let M2 : Mem := up M 3 w0 k1 0 ((M 3 w0 k1 0) - x3)
  ixx x2 5 fun k3 =>
  let M4 : Mem := up M2 6 w0 k3 0 ((M2 6 w0 k3 0) + x3)
  some M4
/-! FreeLances.advance -/
def mF_advance (x1 : Int32) (x2 : Int32) (M : Mem) : Option (Int32 × Mem) :=
  (mF_isBond x1 M).bind fun q1 =>
  if q1.1 = 0 then
    (mF_finding 1 q1.2).bind fun q2 =>
    some (q2.1, q2.2)
  else
    (mF_within x2 1 9999 q1.2).bind fun q3 =>
    if q3.1 = 0 then
      (mF_finding 1 q3.2).bind fun q4 =>
      some (q4.1, q4.2)
    else
      ixx x1 24 fun k5 =>
      (mB_isContract 0 k5 q3.2).bind fun q6 =>
      if q6.1 = 0 then
        (mF_finding 5 q6.2).bind fun q7 =>
        some (q7.1, q7.2)
      else
        ixx (q6.2 15 0 k5 5) 8 fun k8 =>
        if (q6.2 3 0 k8 0) < x2 then
          (mF_finding 2 q6.2).bind fun q9 =>
          some (q9.1, q9.2)
        else
          (mW_bondsFull 0 q6.2).bind fun q10 =>
          if q10.1 = 0 then
            (mW_coinToCompany 0 (q10.2 15 0 k5 5) (q10.2 15 0 k5 1) x2 q10.2).bind fun q11 =>
            let M12 : Mem := up q11 15 0 k5 10 ((q11 15 0 k5 10) + x2)
            (mF_newBond 3 (M12 15 0 k5 1) x2 M12).bind fun q13 =>
            let M14 : Mem := up q13.2 15 0 q13.1 5 (q13.2 15 0 k5 5)
            let M15 : Mem := up M14 15 0 q13.1 7 x1
            let M16 : Mem := up M15 1 0 0 12 ((M15 1 0 0 12) + 1)
            some (M15 1 0 0 12, M16)
          else
            (mF_finding 4 q10.2).bind fun q17 =>
            some (q17.1, q17.2)
/-! FreeLances.truce -/
def mF_truce (x1 : Int32) (x2 : Int32) (x3 : Int32) (x4 : Int32) (M : Mem) : Option (Int32 × Mem) :=
  (mF_isCompany x1 M).bind fun q1 =>
  if q1.1 = 0 then
    (mF_finding 1 q1.2).bind fun q2 =>
    some (q2.1, q2.2)
  else
    (mF_isCompany x2 q1.2).bind fun q3 =>
    if q3.1 = 0 then
      (mF_finding 1 q3.2).bind fun q4 =>
      some (q4.1, q4.2)
    else
      if x1 = x2 then
        (mF_finding 1 q3.2).bind fun q5 =>
        some (q5.1, q5.2)
      else
        (mF_areDays x3 x4 q3.2).bind fun q6 =>
        if q6.1 = 0 then
          (mF_finding 1 q6.2).bind fun q7 =>
          some (q7.1, q7.2)
        else
          (mW_bondsFull 0 q6.2).bind fun q8 =>
          if q8.1 = 0 then
            (mF_newBond 4 x1 0 q8.2).bind fun q9 =>
            let M10 : Mem := up q9.2 15 0 q9.1 2 x3
            let M11 : Mem := up M10 15 0 q9.1 3 x4
            let M12 : Mem := up M11 15 0 q9.1 7 x2
            let M13 : Mem := up M12 1 0 0 12 ((M12 1 0 0 12) + 1)
            some (M12 1 0 0 12, M13)
          else
            (mF_finding 4 q8.2).bind fun q14 =>
            some (q14.1, q14.2)
/-! FreeLances.safe -/
def mF_safe (x1 : Int32) (x2 : Int32) (x3 : Int32) (x4 : Int32) (x5 : Int32) (M : Mem) : Option (Int32 × Mem) :=
  (mF_isCompany x1 M).bind fun q1 =>
  if q1.1 = 0 then
    (mF_finding 1 q1.2).bind fun q2 =>
    some (q2.1, q2.2)
  else
    (mF_isTown x2 q1.2).bind fun q3 =>
    if q3.1 = 0 then
      (mF_finding 1 q3.2).bind fun q4 =>
      some (q4.1, q4.2)
    else
      (mF_areDays x3 x4 q3.2).bind fun q5 =>
      if q5.1 = 0 then
        (mF_finding 1 q5.2).bind fun q6 =>
        some (q6.1, q6.2)
      else
        (mF_within x5 0 9999 q5.2).bind fun q7 =>
        if q7.1 = 0 then
          (mF_finding 1 q7.2).bind fun q8 =>
          some (q8.1, q8.2)
        else
          ixx x2 8 fun k9 =>
          if (q7.2 3 0 k9 0) < x5 then
            (mF_finding 2 q7.2).bind fun q10 =>
            some (q10.1, q10.2)
          else
            (mW_bondsFull 0 q7.2).bind fun q11 =>
            if q11.1 = 0 then
              (mW_coinToCompany 0 x2 x1 x5 q11.2).bind fun q12 =>
              (mF_newBond 6 x1 x5 q12).bind fun q13 =>
              let M14 : Mem := up q13.2 15 0 q13.1 2 x3
              let M15 : Mem := up M14 15 0 q13.1 3 x4
              let M16 : Mem := up M15 15 0 q13.1 5 x2
              let M17 : Mem := up M16 1 0 0 12 ((M16 1 0 0 12) + 1)
              some (M16 1 0 0 12, M17)
            else
              (mF_finding 4 q11.2).bind fun q18 =>
              some (q18.1, q18.2)
/-! FreeLances.ransom -/
def mF_ransom (x1 : Int32) (x2 : Int32) (M : Mem) : Option (Int32 × Mem) :=
  (mF_isLance x1 M).bind fun q1 =>
  if q1.1 = 0 then
    (mF_finding 1 q1.2).bind fun q2 =>
    some (q2.1, q2.2)
  else
    (mF_within x2 0 9999 q1.2).bind fun q3 =>
    if q3.1 = 0 then
      (mF_finding 1 q3.2).bind fun q4 =>
      some (q4.1, q4.2)
    else
      ixx x1 40 fun k5 =>
      if (q3.2 10 0 k5 4) < 0 then
        (mF_finding 3 q3.2).bind fun q6 =>
        some (q6.1, q6.2)
      else
        ixx (q3.2 10 0 k5 0) 5 fun k7 =>
        if (q3.2 6 0 k7 0) < x2 then
          (mF_finding 2 q3.2).bind fun q8 =>
          some (q8.1, q8.2)
        else
          (mW_bondsFull 0 q3.2).bind fun q9 =>
          if q9.1 = 0 then
            (mW_coinToCompany 0 (q9.2 10 0 k5 4) (q9.2 10 0 k5 0) (-x2) q9.2).bind fun q10 =>
            (mF_newBond 5 (q10 10 0 k5 0) x2 q10).bind fun q11 =>
            let M12 : Mem := up q11.2 15 0 q11.1 5 (q11.2 10 0 k5 4)
            let M13 : Mem := up M12 15 0 q11.1 7 x1
            let M14 : Mem := up M13 10 0 k5 4 (-1)
            (mW_become 0 0 k5 0 M14).bind fun q15 =>
            let M16 : Mem := up q15 1 0 0 12 ((q15 1 0 0 12) + 1)
            some (q15 1 0 0 12, M16)
          else
            (mF_finding 4 q9.2).bind fun q17 =>
            some (q17.1, q17.2)
/-! FreeLances$Bond.isOf -/
def mB_isOf_7b (j7 : Int32 → Int32 → Int32 → Mem → Option (Int32 × Mem)) (x1 : Int32) (x2 : Int32) (x3 : Int32) (M : Mem) : Option (Int32 × Mem) :=
  if x3 < 3 then
    if x2 < 0 then
      some (0, M)
    else
      if x2 = x1 then
        some (1, M)
      else
        ixx x2 7 fun k1 =>
        j7 x1 (tabA k1) (x3 + 1) M
  else
    some (0, M)
def mB_isOf_7 : Nat → Int32 → Int32 → Int32 → Mem → Option (Int32 × Mem)
  | 0, _, _, _, _ => none
  | n + 1, x1, x2, x3, M => mB_isOf_7b (mB_isOf_7 n) x1 x2 x3 M
def mB_isOfb (j7 : Int32 → Int32 → Int32 → Mem → Option (Int32 × Mem)) (w0 : Nat) (i0 : Nat) (x1 : Int32) (M : Mem) : Option (Int32 × Mem) :=
  j7 x1 (M 15 w0 i0 0) 0 M
def mB_isOf (w0 : Nat) (i0 : Nat) (x1 : Int32) (M : Mem) : Option (Int32 × Mem) := mB_isOfb (mB_isOf_7 fuel) w0 i0 x1 M
/-! FreeLances.as -/
def mF_as (x1 : Int32) (x2 : Int32) (M : Mem) : Option (Int32 × Mem) :=
  (mF_isBond x1 M).bind fun q1 =>
  if q1.1 = 0 then
    (mF_finding 1 q1.2).bind fun q2 =>
    some (q2.1, q2.2)
  else
    (mF_within x2 0 6 q1.2).bind fun q3 =>
    if q3.1 = 0 then
      (mF_finding 1 q3.2).bind fun q4 =>
      some (q4.1, q4.2)
    else
      ixx x1 24 fun k5 =>
      (mB_isOf 0 k5 x2 q3.2).bind fun q6 =>
      if q6.1 = 0 then
        (mF_finding 5 q6.2).bind fun q7 =>
        some (q7.1, q7.2)
      else
        some (q6.2 15 0 k5 4, q6.2)
/-! FreeLances.bondIs -/
def mF_bondIs (x1 : Int32) (x2 : Int32) (M : Mem) : Option (Int32 × Mem) :=
  (mF_isBond x1 M).bind fun q1 =>
  if q1.1 = 0 then
    (mF_finding 1 q1.2).bind fun q2 =>
    some (q2.1, q2.2)
  else
    ixx x1 24 fun k3 =>
    if x2 = 0 then
      some (q1.2 15 0 k3 0, q1.2)
    else
      if x2 = 1 then
        some (q1.2 15 0 k3 1, q1.2)
      else
        if x2 = 2 then
          some (q1.2 15 0 k3 2, q1.2)
        else
          if x2 = 3 then
            some (q1.2 15 0 k3 3, q1.2)
          else
            if x2 = 4 then
              some (q1.2 15 0 k3 5, q1.2)
            else
              if x2 = 5 then
                some (q1.2 15 0 k3 6, q1.2)
              else
                if x2 = 6 then
                  some (q1.2 15 0 k3 7, q1.2)
                else
                  if x2 = 7 then
                    some (q1.2 15 0 k3 8, q1.2)
                  else
                    if x2 = 8 then
                      some (q1.2 15 0 k3 9, q1.2)
                    else
                      if x2 = 9 then
                        some (q1.2 15 0 k3 10, q1.2)
                      else
                        (mF_finding 1 q1.2).bind fun q4 =>
                        some (q4.1, q4.2)
/-! FreeLances$Bond.oweLess -/
def mB_oweLess (w0 : Nat) (i0 : Nat) (x1 : Int32) (M : Mem) : Option Mem :=
  let M1 : Mem := up M 15 w0 i0 8 ((M 15 w0 i0 8) - x1)
  if (M1 15 w0 i0 8) = 0 then
    let M2 : Mem := up M1 15 w0 i0 9 (-1)
    some M2
  else
    some M1
/-! FreeLances.stop -/
def mF_stop (x1 : Int32) (x2 : Int32) (M : Mem) : Option (Int32 × Mem) :=
  (mF_isBond x1 M).bind fun q1 =>
  if q1.1 = 0 then
    (mF_finding 1 q1.2).bind fun q2 =>
    some (q2.1, q2.2)
  else
    (mF_within x2 1 9999 q1.2).bind fun q3 =>
    if q3.1 = 0 then
      (mF_finding 1 q3.2).bind fun q4 =>
      some (q4.1, q4.2)
    else
      ixx x1 24 fun k5 =>
      (mB_isContract 0 k5 q3.2).bind fun q6 =>
      if q6.1 = 0 then
        (mF_finding 5 q6.2).bind fun q7 =>
        some (q7.1, q7.2)
      else
        if (q6.2 15 0 k5 8) < x2 then
          (mF_finding 3 q6.2).bind fun q8 =>
          some (q8.1, q8.2)
        else
          (mB_oweLess 0 k5 x2 q6.2).bind fun q9 =>
          some (q9 15 0 k5 8, q9)
/-! FreeLances.pay -/
def mF_pay (x1 : Int32) (x2 : Int32) (M : Mem) : Option (Int32 × Mem) :=
  (mF_isBond x1 M).bind fun q1 =>
  if q1.1 = 0 then
    (mF_finding 1 q1.2).bind fun q2 =>
    some (q2.1, q2.2)
  else
    (mF_within x2 1 9999 q1.2).bind fun q3 =>
    if q3.1 = 0 then
      (mF_finding 1 q3.2).bind fun q4 =>
      some (q4.1, q4.2)
    else
      ixx x1 24 fun k5 =>
      (mB_isContract 0 k5 q3.2).bind fun q6 =>
      if q6.1 = 0 then
        (mF_finding 5 q6.2).bind fun q7 =>
        some (q7.1, q7.2)
      else
        if (q6.2 15 0 k5 8) < x2 then
          (mF_finding 3 q6.2).bind fun q8 =>
          some (q8.1, q8.2)
        else
          ixx (q6.2 15 0 k5 5) 8 fun k9 =>
          if (q6.2 3 0 k9 0) < x2 then
            (mF_finding 2 q6.2).bind fun q10 =>
            some (q10.1, q10.2)
          else
            (mW_coinToCompany 0 (q6.2 15 0 k5 5) (q6.2 15 0 k5 1) x2 q6.2).bind fun q11 =>
            (mB_oweLess 0 k5 x2 q11).bind fun q12 =>
            some (q12 15 0 k5 8, q12)
/-! FreeLances.serves -/
def mF_serves (x1 : Int32) (x2 : Int32) (M : Mem) : Option (Int32 × Mem) :=
  (mF_isCompany x1 M).bind fun q1 =>
  if q1.1 = 0 then
    (mF_finding 1 q1.2).bind fun q2 =>
    some (q2.1, q2.2)
  else
    (mF_isDay x2 q1.2).bind fun q3 =>
    if q3.1 = 0 then
      (mF_finding 1 q3.2).bind fun q4 =>
      some (q4.1, q4.2)
    else
      (mW_served 0 x1 x2 q3.2).bind fun q5 =>
      if q5.1 < 0 then
        (mF_finding 2 q5.2).bind fun q6 =>
        some (q6.1, q6.2)
      else
        some (q5.1, q5.2)
/-! FreeLances$World.truceDay -/
def mW_truceDay_154b (j83 : Nat → Nat → Nat → Int32 → Int32 → Int32 → Int32 → Int32 → Mem → Option (Int32 × Mem)) (w0 : Nat) (w1 : Nat) (i1 : Nat) (x4 : Int32) (x5 : Int32) (x6 : Int32) (x7 : Int32) (x8 : Int32) (x10 : Int32) (M : Mem) : Option (Int32 × Mem) :=
  j83 w0 w1 i1 x4 x5 x6 x7 (x8 + 1) M
def mW_truceDay_154 (r83 : Nat → Nat → Nat → Int32 → Int32 → Int32 → Int32 → Int32 → Mem → Option (Int32 × Mem)) (w0 : Nat) (w1 : Nat) (i1 : Nat) (x4 : Int32) (x5 : Int32) (x6 : Int32) (x7 : Int32) (x8 : Int32) (x10 : Int32) (M : Mem) : Option (Int32 × Mem) := mW_truceDay_154b r83 w0 w1 i1 x4 x5 x6 x7 x8 x10 M
def mW_truceDay_83b (j83 : Nat → Nat → Nat → Int32 → Int32 → Int32 → Int32 → Int32 → Mem → Option (Int32 × Mem)) (j154 : Nat → Nat → Nat → Int32 → Int32 → Int32 → Int32 → Int32 → Int32 → Mem → Option (Int32 × Mem)) (w0 : Nat) (w1 : Nat) (i1 : Nat) (x4 : Int32) (x5 : Int32) (x6 : Int32) (x7 : Int32) (x8 : Int32) (M : Mem) : Option (Int32 × Mem) :=
  if x8 < (M 1 w0 0 12) then
    ixx x8 24 fun k1 =>
    let t2 : Int32 := if x5 < (M 15 w0 k1 2) then (M 15 w0 k1 2) else x5
    (mB_isContractOf w0 k1 x4 M).bind fun q3 =>
    if q3.1 = 0 then
      j154 w0 w1 i1 x4 x5 x6 x7 x8 t2 q3.2
    else
      if (q3.2 15 w0 k1 5) = (q3.2 15 w1 i1 6) then
        let t4 : Int32 := if (q3.2 15 w0 k1 3) < x6 then (q3.2 15 w0 k1 3) else x6
        if t2 ≤ t4 then
          if x7 < 0 then
            j83 w0 w1 i1 x4 x5 x6 t2 (x8 + 1) q3.2
          else
            if t2 < x7 then
              j83 w0 w1 i1 x4 x5 x6 t2 (x8 + 1) q3.2
            else
              j83 w0 w1 i1 x4 x5 x6 x7 (x8 + 1) q3.2
        else
          j154 w0 w1 i1 x4 x5 x6 x7 x8 t2 q3.2
      else
        j154 w0 w1 i1 x4 x5 x6 x7 x8 t2 q3.2
  else
    some (x7, M)
def mW_truceDay_83 : Nat → Nat → Nat → Nat → Int32 → Int32 → Int32 → Int32 → Int32 → Mem → Option (Int32 × Mem)
  | 0, _, _, _, _, _, _, _, _, _ => none
  | n + 1, w0, w1, i1, x4, x5, x6, x7, x8, M => mW_truceDay_83b (mW_truceDay_83 n) (mW_truceDay_154 (mW_truceDay_83 n)) w0 w1 i1 x4 x5 x6 x7 x8 M
def mW_truceDay_34b (j83 : Nat → Nat → Nat → Int32 → Int32 → Int32 → Int32 → Int32 → Mem → Option (Int32 × Mem)) (w0 : Nat) (w1 : Nat) (i1 : Nat) (w2 : Nat) (i2 : Nat) (x3 : Int32) (M : Mem) : Option (Int32 × Mem) :=
  if x3 = 0 then
    let t1 : Int32 := if (M 15 w1 i1 2) < (M 15 w2 i2 2) then (M 15 w2 i2 2) else (M 15 w1 i1 2)
    let t2 : Int32 := if (M 15 w2 i2 3) < (M 15 w1 i1 3) then (M 15 w2 i2 3) else (M 15 w1 i1 3)
    j83 w0 w1 i1 (M 15 w2 i2 1) t1 t2 (-1) 0 M
  else
    let t3 : Int32 := if (M 15 w1 i1 2) < (M 15 w2 i2 2) then (M 15 w2 i2 2) else (M 15 w1 i1 2)
    let t4 : Int32 := if (M 15 w2 i2 3) < (M 15 w1 i1 3) then (M 15 w2 i2 3) else (M 15 w1 i1 3)
    j83 w0 w1 i1 (M 15 w2 i2 7) t3 t4 (-1) 0 M
def mW_truceDay_34 (w0 : Nat) (w1 : Nat) (i1 : Nat) (w2 : Nat) (i2 : Nat) (x3 : Int32) (M : Mem) : Option (Int32 × Mem) := mW_truceDay_34b (mW_truceDay_83 fuel) w0 w1 i1 w2 i2 x3 M
def mW_truceDayb (j34 : Nat → Nat → Nat → Nat → Nat → Int32 → Mem → Option (Int32 × Mem)) (w0 : Nat) (w1 : Nat) (i1 : Nat) (w2 : Nat) (i2 : Nat) (M : Mem) : Option (Int32 × Mem) :=
  if (M 15 w2 i2 1) = (M 15 w1 i1 1) then
    j34 w0 w1 i1 w2 i2 1 M
  else
    if (M 15 w2 i2 7) = (M 15 w1 i1 1) then
      j34 w0 w1 i1 w2 i2 0 M
    else
      some ((-1), M)
def mW_truceDay (w0 : Nat) (w1 : Nat) (i1 : Nat) (w2 : Nat) (i2 : Nat) (M : Mem) : Option (Int32 × Mem) := mW_truceDayb mW_truceDay_34 w0 w1 i1 w2 i2 M
/-! FreeLances$World.clashOf -/
def mW_clashOf (w0 : Nat) (w1 : Nat) (i1 : Nat) (w2 : Nat) (i2 : Nat) (M : Mem) : Option (Int32 × Mem) :=
  if (M 15 w1 i1 6) < 0 then
    some ((-1), M)
  else
    if (M 15 w2 i2 0) = 4 then
      (mW_truceDay w0 w1 i1 w2 i2 M).bind fun q1 =>
      some (q1.1, q1.2)
    else
      if (M 15 w2 i2 0) = 6 then
        if (M 15 w2 i2 1) = (M 15 w1 i1 1) then
          if (M 15 w2 i2 5) = (M 15 w1 i1 6) then
            let t2 : Int32 := if (M 15 w1 i1 2) < (M 15 w2 i2 2) then (M 15 w2 i2 2) else (M 15 w1 i1 2)
            some (t2, M)
          else
            some ((-1), M)
        else
          some ((-1), M)
      else
        some ((-1), M)
/-! FreeLances$World.clashDay -/
def mW_clashDay (w0 : Nat) (w1 : Nat) (i1 : Nat) (w2 : Nat) (i2 : Nat) (M : Mem) : Option (Int32 × Mem) :=
  let t1 : Int32 := if (M 15 w1 i1 2) < (M 15 w2 i2 2) then (M 15 w2 i2 2) else (M 15 w1 i1 2)
  if t1 < 0 then
    some ((-1), M)
  else
    let t2 : Int32 := if (M 15 w2 i2 3) < (M 15 w1 i1 3) then (M 15 w2 i2 3) else (M 15 w1 i1 3)
    if t1 ≤ t2 then
      (mB_isContract w1 i1 M).bind fun q3 =>
      if q3.1 = 0 then
        (mB_isContract w1 i1 q3.2).bind fun q4 =>
        if q4.1 = 0 then
          (mB_isContract w2 i2 q4.2).bind fun q5 =>
          if q5.1 = 0 then
            some ((-1), q5.2)
          else
            (mW_clashOf w0 w2 i2 w1 i1 q5.2).bind fun q6 =>
            some (q6.1, q6.2)
        else
          (mW_clashOf w0 w1 i1 w2 i2 q4.2).bind fun q7 =>
          some (q7.1, q7.2)
      else
        (mB_isContract w2 i2 q3.2).bind fun q8 =>
        if q8.1 = 0 then
          (mB_isContract w1 i1 q8.2).bind fun q9 =>
          if q9.1 = 0 then
            (mB_isContract w2 i2 q9.2).bind fun q10 =>
            if q10.1 = 0 then
              some ((-1), q10.2)
            else
              (mW_clashOf w0 w2 i2 w1 i1 q10.2).bind fun q11 =>
              some (q11.1, q11.2)
          else
            (mW_clashOf w0 w1 i1 w2 i2 q9.2).bind fun q12 =>
            some (q12.1, q12.2)
        else
          if (q8.2 15 w1 i1 1) = (q8.2 15 w2 i2 1) then
            if (q8.2 15 w1 i1 5) = (q8.2 15 w2 i2 5) then
              some ((-1), q8.2)
            else
              some (t1, q8.2)
          else
            some ((-1), q8.2)
    else
      some ((-1), M)
/-! FreeLances.clash -/
def mF_clash_42b (j24 : Int32 → Int32 → Int32 → Mem → Option (Int32 × Mem)) (j42 : Int32 → Int32 → Int32 → Int32 → Mem → Option (Int32 × Mem)) (x2 : Int32) (x3 : Int32) (x4 : Int32) (x5 : Int32) (M : Mem) : Option (Int32 × Mem) :=
  if x5 < (M 1 0 0 12) then
    ixx x4 24 fun k1 =>
    ixx x5 24 fun k2 =>
    (mW_clashDay 0 0 k1 0 k2 M).bind fun q3 =>
    if q3.1 < 0 then
      j42 x2 x3 x4 (x5 + 1) q3.2
    else
      if x3 = 0 then
        if x2 = 0 then
          some (x4, q3.2)
        else
          if x2 = 1 then
            some (x5, q3.2)
          else
            some (q3.1, q3.2)
      else
        j42 x2 (x3 + (-1)) x4 (x5 + 1) q3.2
  else
    j24 x2 x3 (x4 + 1) M
def mF_clash_42 (r24 : Int32 → Int32 → Int32 → Mem → Option (Int32 × Mem)) : Nat → Int32 → Int32 → Int32 → Int32 → Mem → Option (Int32 × Mem)
  | 0, _, _, _, _, _ => none
  | n + 1, x2, x3, x4, x5, M => mF_clash_42b r24 (mF_clash_42 r24 n) x2 x3 x4 x5 M
def mF_clash_24b (j42 : Int32 → Int32 → Int32 → Int32 → Mem → Option (Int32 × Mem)) (x2 : Int32) (x3 : Int32) (x4 : Int32) (M : Mem) : Option (Int32 × Mem) :=
  if x4 < (M 1 0 0 12) then
    j42 x2 x3 x4 (x4 + 1) M
  else
    (mF_finding 2 M).bind fun q1 =>
    some (q1.1, q1.2)
def mF_clash_24 : Nat → Int32 → Int32 → Int32 → Mem → Option (Int32 × Mem)
  | 0, _, _, _, _ => none
  | n + 1, x2, x3, x4, M => mF_clash_24b (mF_clash_42 (mF_clash_24 n) fuel) x2 x3 x4 M
def mF_clashb (j24 : Int32 → Int32 → Int32 → Mem → Option (Int32 × Mem)) (x1 : Int32) (x2 : Int32) (M : Mem) : Option (Int32 × Mem) :=
  if x1 < 0 then
    (mF_finding 1 M).bind fun q1 =>
    some (q1.1, q1.2)
  else
    (mF_within x2 0 2 M).bind fun q2 =>
    if q2.1 = 0 then
      (mF_finding 1 q2.2).bind fun q3 =>
      some (q3.1, q3.2)
    else
      j24 x2 x1 0 q2.2
def mF_clash (x1 : Int32) (x2 : Int32) (M : Mem) : Option (Int32 × Mem) := mF_clashb (mF_clash_24 fuel) x1 x2 M
/-! FreeLances$World.boundUntil -/
def mW_boundUntil_53b (j6 : Nat → Int32 → Int32 → Int32 → Int32 → Int32 → Mem → Option (Int32 × Mem)) (w0 : Nat) (x1 : Int32) (x2 : Int32) (x3 : Int32) (x4 : Int32) (x5 : Int32) (w6 : Nat) (i6 : Nat) (y0 : Int32) (M : Mem) : Option (Int32 × Mem) :=
  if y0 = 0 then
    (mB_isContractOf w6 i6 x1 M).bind fun q1 =>
    if q1.1 = 0 then
      j6 w0 x1 x2 x3 x4 (x5 + 1) q1.2
    else
      if (q1.2 15 w6 i6 2) ≤ x2 then
        if x2 ≤ (M 15 w6 i6 3) then
          let t2 : Int32 := if x4 < (M 15 w6 i6 3) then (M 15 w6 i6 3) else x4
          j6 w0 x1 x2 x3 t2 (x5 + 1) q1.2
        else
          j6 w0 x1 x2 x3 x4 (x5 + 1) q1.2
      else
        j6 w0 x1 x2 x3 x4 (x5 + 1) q1.2
  else
    (mB_isContractOf w6 i6 x1 M).bind fun q3 =>
    if q3.1 = 0 then
      j6 w0 x1 x2 x3 x4 (x5 + 1) q3.2
    else
      if (q3.2 15 w6 i6 2) ≤ x2 then
        if x2 ≤ ((M 15 w6 i6 3) + 30) then
          let t4 : Int32 := if x4 < ((M 15 w6 i6 3) + 30) then ((M 15 w6 i6 3) + 30) else x4
          j6 w0 x1 x2 x3 t4 (x5 + 1) q3.2
        else
          j6 w0 x1 x2 x3 x4 (x5 + 1) q3.2
      else
        j6 w0 x1 x2 x3 x4 (x5 + 1) q3.2
def mW_boundUntil_53 (r6 : Nat → Int32 → Int32 → Int32 → Int32 → Int32 → Mem → Option (Int32 × Mem)) (w0 : Nat) (x1 : Int32) (x2 : Int32) (x3 : Int32) (x4 : Int32) (x5 : Int32) (w6 : Nat) (i6 : Nat) (y0 : Int32) (M : Mem) : Option (Int32 × Mem) := mW_boundUntil_53b r6 w0 x1 x2 x3 x4 x5 w6 i6 y0 M
def mW_boundUntil_6b (j53 : Nat → Int32 → Int32 → Int32 → Int32 → Int32 → Nat → Nat → Int32 → Mem → Option (Int32 × Mem)) (w0 : Nat) (x1 : Int32) (x2 : Int32) (x3 : Int32) (x4 : Int32) (x5 : Int32) (M : Mem) : Option (Int32 × Mem) :=
  if x5 < (M 1 w0 0 12) then
    ixx x5 24 fun k1 =>
    if x3 = 0 then
      j53 w0 x1 x2 x3 x4 x5 w0 k1 0 M
    else
      if (M 15 w0 k1 11) = 0 then
        if (M 15 w0 k1 3) < (M 1 w0 0 0) then
          j53 w0 x1 x2 x3 x4 x5 w0 k1 0 M
        else
          j53 w0 x1 x2 x3 x4 x5 w0 k1 1 M
      else
        j53 w0 x1 x2 x3 x4 x5 w0 k1 0 M
  else
    some (x4, M)
def mW_boundUntil_6 : Nat → Nat → Int32 → Int32 → Int32 → Int32 → Int32 → Mem → Option (Int32 × Mem)
  | 0, _, _, _, _, _, _, _ => none
  | n + 1, w0, x1, x2, x3, x4, x5, M => mW_boundUntil_6b (mW_boundUntil_53 (mW_boundUntil_6 n)) w0 x1 x2 x3 x4 x5 M
def mW_boundUntilb (j6 : Nat → Int32 → Int32 → Int32 → Int32 → Int32 → Mem → Option (Int32 × Mem)) (w0 : Nat) (x1 : Int32) (x2 : Int32) (x3 : Int32) (M : Mem) : Option (Int32 × Mem) :=
  j6 w0 x1 x2 x3 (-1) 0 M
def mW_boundUntil (w0 : Nat) (x1 : Int32) (x2 : Int32) (x3 : Int32) (M : Mem) : Option (Int32 × Mem) := mW_boundUntilb (mW_boundUntil_6 fuel) w0 x1 x2 x3 M
/-! FreeLances$World.firstFree -/
def mW_firstFree_8b (j8 : Nat → Int32 → Int32 → Int32 → Int32 → Mem → Option (Int32 × Mem)) (w0 : Nat) (x1 : Int32) (x2 : Int32) (x3 : Int32) (x4 : Int32) (M : Mem) : Option (Int32 × Mem) :=
  if x4 < 24 then
    (mW_boundUntil w0 x1 x3 x2 M).bind fun q1 =>
    if q1.1 < 0 then
      some (x3, q1.2)
    else
      j8 w0 x1 x2 (q1.1 + 1) (x4 + 1) q1.2
  else
    some (x3, M)
def mW_firstFree_8 : Nat → Nat → Int32 → Int32 → Int32 → Int32 → Mem → Option (Int32 × Mem)
  | 0, _, _, _, _, _, _ => none
  | n + 1, w0, x1, x2, x3, x4, M => mW_firstFree_8b (mW_firstFree_8 n) w0 x1 x2 x3 x4 M
def mW_firstFreeb (j8 : Nat → Int32 → Int32 → Int32 → Int32 → Mem → Option (Int32 × Mem)) (w0 : Nat) (x1 : Int32) (x2 : Int32) (M : Mem) : Option (Int32 × Mem) :=
  j8 w0 x1 x2 (M 1 w0 0 0) 0 M
def mW_firstFree (w0 : Nat) (x1 : Int32) (x2 : Int32) (M : Mem) : Option (Int32 × Mem) := mW_firstFreeb (mW_firstFree_8 fuel) w0 x1 x2 M
/-! FreeLances.free -/
def mF_free (x1 : Int32) (x2 : Int32) (M : Mem) : Option (Int32 × Mem) :=
  (mF_isCompany x1 M).bind fun q1 =>
  if q1.1 = 0 then
    (mF_finding 1 q1.2).bind fun q2 =>
    some (q2.1, q2.2)
  else
    (mW_firstFree 0 x1 x2 q1.2).bind fun q3 =>
    if q3.1 ≤ 3000 then
      some (q3.1, q3.2)
    else
      (mF_finding 2 q3.2).bind fun q4 =>
      some (q4.1, q4.2)
/-! FreeLances.isSheet -/
def mF_isSheet (x0 : Int32) (M : Mem) : Option (Int32 × Mem) :=
  (mF_within x0 0 3 M).bind fun q1 =>
  if q1.1 = 0 ∨ q1.1 = 1 then
    some (q1.1, q1.2)
  else
    none
/-! FreeLances$Sheet.missing -/
def mS_missing (i0 : Nat) (M : Mem) : Option (Int32 × Mem) :=
  if (M 19 0 i0 0) = 0 then
    some (1, M)
  else
    some (0, M)
/-! FreeLances$Sheet.allWithin -/
def mS_allWithin_2b (j2 : Nat → Int32 → Int32 → Int32 → Mem → Option (Int32 × Mem)) (i0 : Nat) (x1 : Int32) (x2 : Int32) (x3 : Int32) (M : Mem) : Option (Int32 × Mem) :=
  if x3 < (M 19 0 i0 1) then
    ixx x3 24 fun k1 =>
    (mF_within (M 20 0 i0 k1) x1 x2 M).bind fun q2 =>
    if q2.1 = 0 then
      some (0, q2.2)
    else
      j2 i0 x1 x2 (x3 + 1) q2.2
  else
    some (1, M)
def mS_allWithin_2 : Nat → Nat → Int32 → Int32 → Int32 → Mem → Option (Int32 × Mem)
  | 0, _, _, _, _, _ => none
  | n + 1, i0, x1, x2, x3, M => mS_allWithin_2b (mS_allWithin_2 n) i0 x1 x2 x3 M
def mS_allWithinb (j2 : Nat → Int32 → Int32 → Int32 → Mem → Option (Int32 × Mem)) (i0 : Nat) (x1 : Int32) (x2 : Int32) (M : Mem) : Option (Int32 × Mem) :=
  j2 i0 x1 x2 0 M
def mS_allWithin (i0 : Nat) (x1 : Int32) (x2 : Int32) (M : Mem) : Option (Int32 × Mem) := mS_allWithinb (mS_allWithin_2 fuel) i0 x1 x2 M
/-! FreeLances$Company.show -/
def mC_show_26b (j2 : Nat → Nat → Nat → Int32 → Mem → Option Mem) (w0 : Nat) (i0 : Nat) (i1 : Nat) (x2 : Int32) (y0 : Int32) (M : Mem) : Option Mem :=
  if x2 < (M 19 0 i1 1) then
    ixx x2 24 fun k1 =>
    if (M 20 0 i1 k1) < 0 then
      ixx x2 12 fun k3 =>
      let M2 : Mem := up M 7 w0 i0 k3 y0
      j2 w0 i0 i1 (x2 + 1) M2
    else
      ixx x2 12 fun k5 =>
      let M4 : Mem := up M 7 w0 i0 k5 (M 20 0 i1 k1)
      j2 w0 i0 i1 (x2 + 1) M4
  else
    ixx x2 12 fun k7 =>
    let M6 : Mem := up M 7 w0 i0 k7 y0
    j2 w0 i0 i1 (x2 + 1) M6
def mC_show_26 (r2 : Nat → Nat → Nat → Int32 → Mem → Option Mem) (w0 : Nat) (i0 : Nat) (i1 : Nat) (x2 : Int32) (y0 : Int32) (M : Mem) : Option Mem := mC_show_26b r2 w0 i0 i1 x2 y0 M
def mC_show_2b (j26 : Nat → Nat → Nat → Int32 → Int32 → Mem → Option Mem) (w0 : Nat) (i0 : Nat) (i1 : Nat) (x2 : Int32) (M : Mem) : Option Mem :=
  if x2 < 12 then
    if x2 < (M 6 w0 i0 11) then
      ixx x2 12 fun k1 =>
      j26 w0 i0 i1 x2 (M 7 w0 i0 k1) M
    else
      j26 w0 i0 i1 x2 (-1) M
  else
    let t2 : Int32 := if (12 : Int32) < (M 19 0 i1 1) then 12 else (M 19 0 i1 1)
    let M3 : Mem := up M 6 w0 i0 11 t2
    some M3
def mC_show_2 : Nat → Nat → Nat → Nat → Int32 → Mem → Option Mem
  | 0, _, _, _, _, _ => none
  | n + 1, w0, i0, i1, x2, M => mC_show_2b (mC_show_26 (mC_show_2 n)) w0 i0 i1 x2 M
def mC_showb (j2 : Nat → Nat → Nat → Int32 → Mem → Option Mem) (w0 : Nat) (i0 : Nat) (i1 : Nat) (M : Mem) : Option Mem :=
  j2 w0 i0 i1 0 M
def mC_show (w0 : Nat) (i0 : Nat) (i1 : Nat) (M : Mem) : Option Mem := mC_showb (mC_show_2 fuel) w0 i0 i1 M
/-! FreeLances$Company.shows -/
def mC_shows_2b (j2 : Nat → Nat → Int32 → Int32 → Int32 → Mem → Option (Int32 × Mem)) (w0 : Nat) (i0 : Nat) (x1 : Int32) (x2 : Int32) (x3 : Int32) (M : Mem) : Option (Int32 × Mem) :=
  if x3 < x2 then
    if x3 < 12 then
      ixx x3 12 fun k1 =>
      if (M 7 w0 i0 k1) = x1 then
        some (1, M)
      else
        j2 w0 i0 x1 x2 (x3 + 1) M
    else
      some (0, M)
  else
    some (0, M)
def mC_shows_2 : Nat → Nat → Nat → Int32 → Int32 → Int32 → Mem → Option (Int32 × Mem)
  | 0, _, _, _, _, _, _ => none
  | n + 1, w0, i0, x1, x2, x3, M => mC_shows_2b (mC_shows_2 n) w0 i0 x1 x2 x3 M
def mC_showsb (j2 : Nat → Nat → Int32 → Int32 → Int32 → Mem → Option (Int32 × Mem)) (w0 : Nat) (i0 : Nat) (x1 : Int32) (x2 : Int32) (M : Mem) : Option (Int32 × Mem) :=
  j2 w0 i0 x1 x2 0 M
def mC_shows (w0 : Nat) (i0 : Nat) (x1 : Int32) (x2 : Int32) (M : Mem) : Option (Int32 × Mem) := mC_showsb (mC_shows_2 fuel) w0 i0 x1 x2 M
/-! FreeLances$World.leastOf -/
def mW_leastOf_2b (j2 : Nat → Int32 → Int32 → Int32 → Mem → Option (Int32 × Mem)) (w0 : Nat) (x1 : Int32) (x2 : Int32) (x3 : Int32) (M : Mem) : Option (Int32 × Mem) :=
  if x3 < (M 1 w0 0 8) then
    ixx x3 40 fun k1 =>
    if (M 10 w0 k1 0) = x1 then
      if (M 10 w0 k1 1) = x2 then
        (mL_present w0 k1 M).bind fun q2 =>
        if q2.1 = 0 then
          j2 w0 x1 x2 (x3 + 1) q2.2
        else
          some (x3, q2.2)
      else
        j2 w0 x1 x2 (x3 + 1) M
    else
      j2 w0 x1 x2 (x3 + 1) M
  else
    some ((-1), M)
def mW_leastOf_2 : Nat → Nat → Int32 → Int32 → Int32 → Mem → Option (Int32 × Mem)
  | 0, _, _, _, _, _ => none
  | n + 1, w0, x1, x2, x3, M => mW_leastOf_2b (mW_leastOf_2 n) w0 x1 x2 x3 M
def mW_leastOfb (j2 : Nat → Int32 → Int32 → Int32 → Mem → Option (Int32 × Mem)) (w0 : Nat) (x1 : Int32) (x2 : Int32) (M : Mem) : Option (Int32 × Mem) :=
  j2 w0 x1 x2 0 M
def mW_leastOf (w0 : Nat) (x1 : Int32) (x2 : Int32) (M : Mem) : Option (Int32 × Mem) := mW_leastOfb (mW_leastOf_2 fuel) w0 x1 x2 M
/-! FreeLances$World.counts -/
def mW_counts (w0 : Nat) (x1 : Int32) (M : Mem) : Option (Int32 × Mem) :=
  if x1 < 0 then
    some (0, M)
  else
    ixx x1 40 fun k1 =>
    (mW_inForce w0 0 (M 1 w0 0 0) M).bind fun q2 =>
    if q2.1 < 0 then
      if (q2.2 10 w0 k1 3) = 0 then
        some (1, q2.2)
      else
        some (0, q2.2)
    else
      ixx q2.1 12 fun k3 =>
      (mR_workOut w0 w0 k3 (q2.2 10 w0 k1 2) (q2.2 10 w0 k1 1) (q2.2 10 w0 k1 3) q2.2).bind fun q4 =>
      if q4.1 = 0 then
        some (0, q4.2)
      else
        some (1, q4.2)
/-! FreeLances$World.countShown -/
def mW_countShown_12b (j12 : Nat → Int32 → Nat → Nat → Int32 → Int32 → Mem → Option (Int32 × Mem)) (w0 : Nat) (x1 : Int32) (w2 : Nat) (i2 : Nat) (x3 : Int32) (x4 : Int32) (M : Mem) : Option (Int32 × Mem) :=
  if x4 < (M 6 w2 i2 11) then
    ixx x4 12 fun k1 =>
    if (M 7 w2 i2 k1) < 0 then
      j12 w0 x1 w2 i2 x3 (x4 + 1) M
    else
      (mC_shows w2 i2 (M 7 w2 i2 k1) x4 M).bind fun q2 =>
      if q2.1 = 0 then
        (mW_leastOf w0 x1 (M 7 w2 i2 k1) q2.2).bind fun q3 =>
        (mW_counts w0 q3.1 q3.2).bind fun q4 =>
        if q4.1 = 0 then
          j12 w0 x1 w2 i2 x3 (x4 + 1) q4.2
        else
          j12 w0 x1 w2 i2 (x3 + 1) (x4 + 1) q4.2
      else
        j12 w0 x1 w2 i2 x3 (x4 + 1) q2.2
  else
    some (x3, M)
def mW_countShown_12 : Nat → Nat → Int32 → Nat → Nat → Int32 → Int32 → Mem → Option (Int32 × Mem)
  | 0, _, _, _, _, _, _, _ => none
  | n + 1, w0, x1, w2, i2, x3, x4, M => mW_countShown_12b (mW_countShown_12 n) w0 x1 w2 i2 x3 x4 M
def mW_countShownb (j12 : Nat → Int32 → Nat → Nat → Int32 → Int32 → Mem → Option (Int32 × Mem)) (w0 : Nat) (x1 : Int32) (M : Mem) : Option (Int32 × Mem) :=
  ixx x1 5 fun k1 =>
  j12 w0 x1 w0 k1 0 0 M
def mW_countShown (w0 : Nat) (x1 : Int32) (M : Mem) : Option (Int32 × Mem) := mW_countShownb (mW_countShown_12 fuel) w0 x1 M
/-! FreeLances.muster -/
def mF_muster (x1 : Int32) (x2 : Int32) (M : Mem) : Option (Int32 × Mem) :=
  (mF_isCompany x1 M).bind fun q1 =>
  if q1.1 = 0 then
    (mF_finding 1 q1.2).bind fun q2 =>
    some (q2.1, q2.2)
  else
    (mF_isSheet x2 q1.2).bind fun q3 =>
    if q3.1 = 0 then
      (mF_finding 1 q3.2).bind fun q4 =>
      some (q4.1, q4.2)
    else
      ixx x2 4 fun k5 =>
      (mS_missing k5 q3.2).bind fun q6 =>
      if q6.1 = 0 then
        ixx x1 5 fun k7 =>
        (mC_marches 0 k7 q6.2).bind fun q8 =>
        if q8.1 = 0 then
          if (q8.2 19 0 k5 1) ≤ 12 then
            (mS_allWithin k5 (-1) 99 q8.2).bind fun q9 =>
            if q9.1 = 0 then
              (mF_finding 5 q9.2).bind fun q10 =>
              some (q10.1, q10.2)
            else
              (mC_show 0 k7 k5 q9.2).bind fun q11 =>
              let M12 : Mem := up q11 6 0 k7 9 (q11 1 0 0 0)
              let M13 : Mem := up M12 6 0 k7 10 (M12 6 0 k7 3)
              (mW_countShown 0 x1 M13).bind fun q14 =>
              let M15 : Mem := up q14.2 6 0 k7 8 q14.1
              some (M15 6 0 k7 8, M15)
          else
            (mF_finding 5 q8.2).bind fun q16 =>
            some (q16.1, q16.2)
        else
          (mF_finding 3 q8.2).bind fun q17 =>
          some (q17.1, q17.2)
      else
        (mF_finding 2 q6.2).bind fun q18 =>
        some (q18.1, q18.2)
/-! FreeLances.twice -/
def mF_twice (x1 : Int32) (x2 : Int32) (x3 : Int32) (M : Mem) : Option (Int32 × Mem) :=
  (mF_isMark x1 M).bind fun q1 =>
  if q1.1 = 0 then
    (mF_finding 1 q1.2).bind fun q2 =>
    some (q2.1, q2.2)
  else
    (mF_isCompany x2 q1.2).bind fun q3 =>
    if q3.1 = 0 then
      (mF_finding 1 q3.2).bind fun q4 =>
      some (q4.1, q4.2)
    else
      (mF_isCompany x3 q3.2).bind fun q5 =>
      if q5.1 = 0 then
        (mF_finding 1 q5.2).bind fun q6 =>
        some (q6.1, q6.2)
      else
        if x2 = x3 then
          (mF_finding 1 q5.2).bind fun q7 =>
          some (q7.1, q7.2)
        else
          ixx x2 5 fun k8 =>
          ixx x3 5 fun k9 =>
          (mC_shows 0 k8 x1 (q5.2 6 0 k8 11) q5.2).bind fun q10 =>
          if q10.1 = 0 then
            some (0, q10.2)
          else
            (mC_shows 0 k9 x1 (q10.2 6 0 k9 11) q10.2).bind fun q11 =>
            if q11.1 = 0 then
              some (0, q11.2)
            else
              let t12 : Int32 := if 0 ≤ ((q11.2 6 0 k8 9) - (q11.2 6 0 k9 9)) then ((q11.2 6 0 k8 9) - (q11.2 6 0 k9 9)) else 0 - ((q11.2 6 0 k8 9) - (q11.2 6 0 k9 9))
              (mW_way 0 (q11.2 6 0 k8 10) (q11.2 6 0 k9 10) q11.2).bind fun q13 =>
              if t12 < q13.1 then
                some (2, q13.2)
              else
                some (1, q13.2)
/-! FreeLances$World.showing -/
def mW_showing_4b (j4 : Nat → Int32 → Int32 → Int32 → Mem → Option (Int32 × Mem)) (w0 : Nat) (x1 : Int32) (x2 : Int32) (x3 : Int32) (M : Mem) : Option (Int32 × Mem) :=
  if x3 < (M 1 w0 0 6) then
    ixx x3 5 fun k1 =>
    ixx x3 5 fun k2 =>
    (mC_shows w0 k1 x1 (M 6 w0 k2 11) M).bind fun q3 =>
    if q3.1 = 0 then
      j4 w0 x1 (x2 + 0) (x3 + 1) q3.2
    else
      j4 w0 x1 (x2 + 1) (x3 + 1) q3.2
  else
    some (x2, M)
def mW_showing_4 : Nat → Nat → Int32 → Int32 → Int32 → Mem → Option (Int32 × Mem)
  | 0, _, _, _, _, _ => none
  | n + 1, w0, x1, x2, x3, M => mW_showing_4b (mW_showing_4 n) w0 x1 x2 x3 M
def mW_showingb (j4 : Nat → Int32 → Int32 → Int32 → Mem → Option (Int32 × Mem)) (w0 : Nat) (x1 : Int32) (M : Mem) : Option (Int32 × Mem) :=
  j4 w0 x1 0 0 M
def mW_showing (w0 : Nat) (x1 : Int32) (M : Mem) : Option (Int32 × Mem) := mW_showingb (mW_showing_4 fuel) w0 x1 M
/-! FreeLances.shown -/
def mF_shown_14b (j14 : Int32 → Int32 → Mem → Option (Int32 × Mem)) (x2 : Int32) (x3 : Int32) (M : Mem) : Option (Int32 × Mem) :=
  if x3 < 100 then
    (mW_showing 0 x3 M).bind fun q1 =>
    if q1.1 < 2 then
      j14 x2 (x3 + 1) q1.2
    else
      if x2 = 0 then
        some (x3, q1.2)
      else
        j14 (x2 + (-1)) (x3 + 1) q1.2
  else
    (mF_finding 2 M).bind fun q2 =>
    some (q2.1, q2.2)
def mF_shown_14 : Nat → Int32 → Int32 → Mem → Option (Int32 × Mem)
  | 0, _, _, _ => none
  | n + 1, x2, x3, M => mF_shown_14b (mF_shown_14 n) x2 x3 M
def mF_shownb (j14 : Int32 → Int32 → Mem → Option (Int32 × Mem)) (x1 : Int32) (M : Mem) : Option (Int32 × Mem) :=
  if x1 < 0 then
    (mF_finding 1 M).bind fun q1 =>
    some (q1.1, q1.2)
  else
    j14 x1 0 M
def mF_shown (x1 : Int32) (M : Mem) : Option (Int32 × Mem) := mF_shownb (mF_shown_14 fuel) x1 M
/-! FreeLances.hold -/
def mF_hold_78b (j78 : Nat → Nat → Int32 → Int32 → Int32 → Mem → Option (Int32 × Mem)) (w5 : Nat) (i5 : Nat) (x6 : Int32) (x7 : Int32) (x8 : Int32) (M : Mem) : Option (Int32 × Mem) :=
  if x8 ≤ 400 then
    let t1 : Int32 := if (M 3 w5 i5 2) < ((x7 - x6) + ((M 3 w5 i5 3) / 10)) then (M 3 w5 i5 2) else ((x7 - x6) + ((M 3 w5 i5 3) / 10))
    if t1 ≤ 0 then
      some (x8, M)
    else
      j78 w5 i5 x6 t1 (x8 + 1) M
  else
    (mF_finding 2 M).bind fun q2 =>
    some (q2.1, q2.2)
def mF_hold_78 : Nat → Nat → Nat → Int32 → Int32 → Int32 → Mem → Option (Int32 × Mem)
  | 0, _, _, _, _, _, _ => none
  | n + 1, w5, i5, x6, x7, x8, M => mF_hold_78b (mF_hold_78 n) w5 i5 x6 x7 x8 M
def mF_holdb (j78 : Nat → Nat → Int32 → Int32 → Int32 → Mem → Option (Int32 × Mem)) (x1 : Int32) (x2 : Int32) (x3 : Int32) (x4 : Int32) (M : Mem) : Option (Int32 × Mem) :=
  (mF_isTown x1 M).bind fun q1 =>
  if q1.1 = 0 then
    (mF_finding 1 q1.2).bind fun q2 =>
    some (q2.1, q2.2)
  else
    (mF_isCompany x2 q1.2).bind fun q3 =>
    if q3.1 = 0 then
      (mF_finding 1 q3.2).bind fun q4 =>
      some (q4.1, q4.2)
    else
      (mF_within x3 0 99 q3.2).bind fun q5 =>
      if q5.1 = 0 then
        (mF_finding 1 q5.2).bind fun q6 =>
        some (q6.1, q6.2)
      else
        ixx x1 8 fun k7 =>
        if x4 = 0 then
          j78 0 k7 x3 (q5.2 3 0 k7 2) 1 q5.2
        else
          ixx x2 5 fun k8 =>
          j78 0 k7 (x3 + (q5.2 6 0 k8 6)) (q5.2 3 0 k7 2) 1 q5.2
def mF_hold (x1 : Int32) (x2 : Int32) (x3 : Int32) (x4 : Int32) (M : Mem) : Option (Int32 × Mem) := mF_holdb (mF_hold_78 fuel) x1 x2 x3 x4 M
/-! FreeLances$Sheet.inThrees -/
def mS_inThrees (i0 : Nat) (x1 : Int32) (M : Mem) : Option (Int32 × Mem) :=
  if (M 19 0 i0 1) ≤ 0 then
    some (0, M)
  else
    if ((M 19 0 i0 1) - (M 19 0 i0 1) / 3 * 3) = 0 then
      if ((M 19 0 i0 1) / 3) ≤ x1 then
        (mS_allWithin i0 0 9999 M).bind fun q1 =>
        if q1.1 = 0 then
          some (0, q1.2)
        else
          some (1, q1.2)
      else
        some (0, M)
    else
      some (0, M)
/-! FreeLances$Plans.costOfWay -/
def mP_costOfWay_12b (j12 : Nat → Int32 → Int32 → Int32 → Int32 → Int32 → Int32 → Int32 → Mem → Option (Int32 × Mem)) (i1 : Nat) (x2 : Int32) (x3 : Int32) (x4 : Int32) (x5 : Int32) (x6 : Int32) (x7 : Int32) (x8 : Int32) (M : Mem) : Option (Int32 × Mem) :=
  if x8 < x2 then
    if ((x4 >>> (((x2 - 1) - x8) &&& 31)) &&& 1) = 0 then
      ixx ((3 * x8) + 1) 24 fun k1 =>
      j12 i1 x2 x3 x4 x5 x6 (x7 + (M 20 0 i1 k1)) (x8 + 1) M
    else
      ixx (3 * x8) 24 fun k2 =>
      ixx ((3 * x8) + 2) 24 fun k3 =>
      j12 i1 x2 x3 x4 (x5 + (M 20 0 i1 k3)) (x6 + ((M 20 0 i1 k2) + x5)) x7 (x8 + 1) M
  else
    if x6 ≤ x3 then
      some (x6 + x7, M)
    else
      some ((-1), M)
def mP_costOfWay_12 : Nat → Nat → Int32 → Int32 → Int32 → Int32 → Int32 → Int32 → Int32 → Mem → Option (Int32 × Mem)
  | 0, _, _, _, _, _, _, _, _, _ => none
  | n + 1, i1, x2, x3, x4, x5, x6, x7, x8, M => mP_costOfWay_12b (mP_costOfWay_12 n) i1 x2 x3 x4 x5 x6 x7 x8 M
def mP_costOfWayb (j12 : Nat → Int32 → Int32 → Int32 → Int32 → Int32 → Int32 → Int32 → Mem → Option (Int32 × Mem)) (i1 : Nat) (x2 : Int32) (x3 : Int32) (x4 : Int32) (M : Mem) : Option (Int32 × Mem) :=
  j12 i1 x2 x3 x4 0 0 0 0 M
def mP_costOfWay (i1 : Nat) (x2 : Int32) (x3 : Int32) (x4 : Int32) (M : Mem) : Option (Int32 × Mem) := mP_costOfWayb (mP_costOfWay_12 fuel) i1 x2 x3 x4 M
/-! FreeLances$Plans.cheapestWay -/
def mP_cheapestWay_16b (j16 : Nat → Int32 → Int32 → Int32 → Int32 → Int32 → Mem → Option (Int32 × Mem)) (i1 : Nat) (x2 : Int32) (x3 : Int32) (x4 : Int32) (x5 : Int32) (x6 : Int32) (M : Mem) : Option (Int32 × Mem) :=
  if x6 < (1 <<< (x2 &&& 31)) then
    (mP_costOfWay i1 x2 x3 x6 M).bind fun q1 =>
    if q1.1 < 0 then
      j16 i1 x2 x3 x4 x5 (x6 + 1) q1.2
    else
      if q1.1 < x5 then
        j16 i1 x2 x3 x6 q1.1 (x6 + 1) q1.2
      else
        j16 i1 x2 x3 x4 x5 (x6 + 1) q1.2
  else
    some (x4, M)
def mP_cheapestWay_16 : Nat → Nat → Int32 → Int32 → Int32 → Int32 → Int32 → Mem → Option (Int32 × Mem)
  | 0, _, _, _, _, _, _, _ => none
  | n + 1, i1, x2, x3, x4, x5, x6, M => mP_cheapestWay_16b (mP_cheapestWay_16 n) i1 x2 x3 x4 x5 x6 M
def mP_cheapestWayb (j16 : Nat → Int32 → Int32 → Int32 → Int32 → Int32 → Mem → Option (Int32 × Mem)) (i1 : Nat) (x2 : Int32) (x3 : Int32) (M : Mem) : Option (Int32 × Mem) :=
  (mP_costOfWay i1 x2 x3 0 M).bind fun q1 =>
  j16 i1 x2 x3 0 q1.1 1 q1.2
def mP_cheapestWay (i1 : Nat) (x2 : Int32) (x3 : Int32) (M : Mem) : Option (Int32 × Mem) := mP_cheapestWayb (mP_cheapestWay_16 fuel) i1 x2 x3 M
/-! FreeLances.ask -/
def mF_ask (x1 : Int32) (x2 : Int32) (x3 : Int32) (M : Mem) : Option (Int32 × Mem) :=
  (mF_isTown x1 M).bind fun q1 =>
  if q1.1 = 0 then
    (mF_finding 1 q1.2).bind fun q2 =>
    some (q2.1, q2.2)
  else
    (mF_isSheet x2 q1.2).bind fun q3 =>
    if q3.1 = 0 then
      (mF_finding 1 q3.2).bind fun q4 =>
      some (q4.1, q4.2)
    else
      ixx x2 4 fun k5 =>
      (mS_missing k5 q3.2).bind fun q6 =>
      if q6.1 = 0 then
        (mS_inThrees k5 4 q6.2).bind fun q7 =>
        if q7.1 = 0 then
          (mF_finding 5 q7.2).bind fun q8 =>
          some (q8.1, q8.2)
        else
          (mF_within x3 (-1) (((q7.2 19 0 k5 1) / 3) - 1) q7.2).bind fun q9 =>
          if q9.1 = 0 then
            (mF_finding 1 q9.2).bind fun q10 =>
            some (q10.1, q10.2)
          else
            ixx x1 8 fun k11 =>
            (mP_cheapestWay k5 ((q7.2 19 0 k5 1) / 3) (q9.2 3 0 k11 0) q9.2).bind fun q12 =>
            if x3 < 0 then
              (mP_costOfWay k5 ((q7.2 19 0 k5 1) / 3) (q9.2 3 0 k11 0) q12.1 q12.2).bind fun q13 =>
              some (q13.1, q13.2)
            else
              some ((q12.1 >>> (((((q7.2 19 0 k5 1) / 3) - 1) - x3) &&& 31)) &&& 1, q12.2)
      else
        (mF_finding 2 q6.2).bind fun q14 =>
        some (q14.1, q14.2)
/-! FreeLances$Sheet.total -/
def mS_total_4b (j4 : Nat → Int32 → Int32 → Mem → Option (Int32 × Mem)) (i0 : Nat) (x1 : Int32) (x2 : Int32) (M : Mem) : Option (Int32 × Mem) :=
  if x2 < (M 19 0 i0 1) then
    ixx x2 24 fun k1 =>
    j4 i0 (x1 + (M 20 0 i0 k1)) (x2 + 1) M
  else
    some (x1, M)
def mS_total_4 : Nat → Nat → Int32 → Int32 → Mem → Option (Int32 × Mem)
  | 0, _, _, _, _ => none
  | n + 1, i0, x1, x2, M => mS_total_4b (mS_total_4 n) i0 x1 x2 M
def mS_totalb (j4 : Nat → Int32 → Int32 → Mem → Option (Int32 × Mem)) (i0 : Nat) (M : Mem) : Option (Int32 × Mem) :=
  j4 i0 0 0 M
def mS_total (i0 : Nat) (M : Mem) : Option (Int32 × Mem) := mS_totalb (mS_total_4 fuel) i0 M
/-! FreeLances$Plans.partOf -/
def mP_partOf_28b (j28 : Int32 → Nat → Int32 → Int32 → Int32 → Int32 → Int32 → Int32 → Mem → Option (Int32 × Mem)) (x1 : Int32) (i2 : Nat) (x3 : Int32) (x4 : Int32) (x5 : Int32) (x6 : Int32) (x7 : Int32) (x8 : Int32) (M : Mem) : Option (Int32 × Mem) :=
  if x8 < (M 19 0 i2 1) then
    ixx x8 24 fun k1 =>
    if x3 = 0 then
      none
    else
      let t2 : Int32 := (x1 * (M 20 0 i2 k1)) - (x1 * (M 20 0 i2 k1)) / x3 * x3
      ixx x8 24 fun k3 =>
      if x3 = 0 then
        none
      else
        if t2 ≤ x7 then
          if t2 = x7 then
            if x8 < x4 then
              j28 x1 i2 x3 x4 (x5 - ((x1 * (M 20 0 i2 k3)) / x3)) (x6 + 1) x7 (x8 + 1) M
            else
              j28 x1 i2 x3 x4 (x5 - ((x1 * (M 20 0 i2 k3)) / x3)) x6 x7 (x8 + 1) M
          else
            j28 x1 i2 x3 x4 (x5 - ((x1 * (M 20 0 i2 k3)) / x3)) x6 x7 (x8 + 1) M
        else
          j28 x1 i2 x3 x4 (x5 - ((x1 * (M 20 0 i2 k3)) / x3)) (x6 + 1) x7 (x8 + 1) M
  else
    ixx x4 24 fun k4 =>
    if x3 = 0 then
      none
    else
      if x6 < x5 then
        some (((x1 * (M 20 0 i2 k4)) / x3) + 1, M)
      else
        some (((x1 * (M 20 0 i2 k4)) / x3) + 0, M)
def mP_partOf_28 : Nat → Int32 → Nat → Int32 → Int32 → Int32 → Int32 → Int32 → Int32 → Mem → Option (Int32 × Mem)
  | 0, _, _, _, _, _, _, _, _, _ => none
  | n + 1, x1, i2, x3, x4, x5, x6, x7, x8, M => mP_partOf_28b (mP_partOf_28 n) x1 i2 x3 x4 x5 x6 x7 x8 M
def mP_partOfb (j28 : Int32 → Nat → Int32 → Int32 → Int32 → Int32 → Int32 → Int32 → Mem → Option (Int32 × Mem)) (x1 : Int32) (i2 : Nat) (x3 : Int32) (x4 : Int32) (M : Mem) : Option (Int32 × Mem) :=
  if x3 ≤ 0 then
    some (0, M)
  else
    ixx x4 24 fun k1 =>
    if x3 = 0 then
      none
    else
      let t2 : Int32 := (x1 * (M 20 0 i2 k1)) - (x1 * (M 20 0 i2 k1)) / x3 * x3
      j28 x1 i2 x3 x4 x1 0 t2 0 M
def mP_partOf (x1 : Int32) (i2 : Nat) (x3 : Int32) (x4 : Int32) (M : Mem) : Option (Int32 × Mem) := mP_partOfb (mP_partOf_28 fuel) x1 i2 x3 x4 M
/-! FreeLances.parts -/
def mF_parts (x1 : Int32) (x2 : Int32) (x3 : Int32) (M : Mem) : Option (Int32 × Mem) :=
  (mF_within x1 0 99999 M).bind fun q1 =>
  if q1.1 = 0 then
    (mF_finding 1 q1.2).bind fun q2 =>
    some (q2.1, q2.2)
  else
    (mF_isSheet x2 q1.2).bind fun q3 =>
    if q3.1 = 0 then
      (mF_finding 1 q3.2).bind fun q4 =>
      some (q4.1, q4.2)
    else
      ixx x2 4 fun k5 =>
      (mS_missing k5 q3.2).bind fun q6 =>
      if q6.1 = 0 then
        (mS_total k5 q6.2).bind fun q7 =>
        (mS_allWithin k5 0 999 q7.2).bind fun q8 =>
        if q8.1 = 0 then
          (mF_finding 5 q8.2).bind fun q9 =>
          some (q9.1, q9.2)
        else
          if q7.1 ≤ 0 then
            (mF_finding 5 q8.2).bind fun q10 =>
            some (q10.1, q10.2)
          else
            (mF_within x3 0 ((q8.2 19 0 k5 1) - 1) q8.2).bind fun q11 =>
            if q11.1 = 0 then
              (mF_finding 1 q11.2).bind fun q12 =>
              some (q12.1, q12.2)
            else
              (mP_partOf x1 k5 q7.1 x3 q11.2).bind fun q13 =>
              some (q13.1, q13.2)
      else
        (mF_finding 2 q6.2).bind fun q14 =>
        some (q14.1, q14.2)
/-! FreeLances.share -/
def mF_share (x1 : Int32) (M : Mem) : Option (Int32 × Mem) :=
  (mF_within x1 0 99999 M).bind fun q1 =>
  if q1.1 = 0 then
    (mF_finding 1 q1.2).bind fun q2 =>
    some (q2.1, q2.2)
  else
    (mW_inForce 0 3 (q1.2 1 0 0 0) q1.2).bind fun q3 =>
    if q3.1 < 0 then
      some (x1 / 3, q3.2)
    else
      ixx q3.1 12 fun k4 =>
      (mR_workOut 0 0 k4 x1 0 0 q3.2).bind fun q5 =>
      let t6 : Int32 := if q5.1 < x1 then q5.1 else x1
      let t7 : Int32 := if (0 : Int32) < t6 then t6 else 0
      some (t7, q5.2)
/-! FreeLances.winter -/
def mF_winter (x1 : Int32) (x2 : Int32) (x3 : Int32) (M : Mem) : Option (Int32 × Mem) :=
  (mF_isCompany x1 M).bind fun q1 =>
  if q1.1 = 0 then
    (mF_finding 1 q1.2).bind fun q2 =>
    some (q2.1, q2.2)
  else
    (mF_isTown x2 q1.2).bind fun q3 =>
    if q3.1 = 0 then
      (mF_finding 1 q3.2).bind fun q4 =>
      some (q4.1, q4.2)
    else
      (mF_within x3 0 9999 q3.2).bind fun q5 =>
      if q5.1 = 0 then
        (mF_finding 1 q5.2).bind fun q6 =>
        some (q6.1, q6.2)
      else
        ixx x1 5 fun k7 =>
        ixx x2 8 fun k8 =>
        ixx x2 8 fun k10 =>
        let M9 : Mem := up q5.2 8 0 k7 k10 x3
        some (q5.2 8 0 k7 k8, M9)
/-! java/lang/Integer.bitCount -/
def mJ_bitCount (x0 : Int32) (M : Mem) : Option (Int32 × Mem) :=
  let t1 : Int32 := x0 - (((x0.toUInt32 >>> ((1 : Int32).toUInt32 &&& Int32.toUInt32 31)).toInt32) &&& 1431655765)
  let t2 : Int32 := (t1 &&& 858993459) + (((t1.toUInt32 >>> ((2 : Int32).toUInt32 &&& Int32.toUInt32 31)).toInt32) &&& 858993459)
  let t3 : Int32 := (t2 + ((t2.toUInt32 >>> ((4 : Int32).toUInt32 &&& Int32.toUInt32 31)).toInt32)) &&& 252645135
  let t4 : Int32 := t3 + ((t3.toUInt32 >>> ((8 : Int32).toUInt32 &&& Int32.toUInt32 31)).toInt32)
  let t5 : Int32 := t4 + ((t4.toUInt32 >>> ((16 : Int32).toUInt32 &&& Int32.toUInt32 31)).toInt32)
  some (t5 &&& 63, M)
/-! FreeLances$Plans.winterNext -/
def mP_winterNext (w1 : Nat) (x2 : Int32) (x3 : Int32) (M : Mem) : Option (Int32 × Mem) :=
  (mJ_bitCount x2 M).bind fun q1 =>
  ixx q1.1 5 fun k2 =>
  ixx x3 8 fun k3 =>
  ixx (x2 ||| (1 <<< (x3 &&& 31))) 256 fun k4 =>
  some ((q1.2 8 w1 k2 k3) + (q1.2 24 0 0 k4), q1.2)
/-! FreeLances$Plans.winterChoice -/
def mP_winterChoice_9b (j9 : Nat → Int32 → Int32 → Int32 → Int32 → Mem → Option (Int32 × Mem)) (w1 : Nat) (x2 : Int32) (x3 : Int32) (x4 : Int32) (x5 : Int32) (M : Mem) : Option (Int32 × Mem) :=
  if x5 < (M 1 w1 0 2) then
    if ((x2 >>> (x5 &&& 31)) &&& 1) = 0 then
      (mP_winterNext w1 x2 x5 M).bind fun q1 =>
      if q1.1 < x4 then
        let t2 : Int32 := if q1.1 < x4 then q1.1 else x4
        j9 w1 x2 x5 t2 (x5 + 1) q1.2
      else
        let t3 : Int32 := if q1.1 < x4 then q1.1 else x4
        j9 w1 x2 x3 t3 (x5 + 1) q1.2
    else
      j9 w1 x2 x3 x4 (x5 + 1) M
  else
    some (x3, M)
def mP_winterChoice_9 : Nat → Nat → Int32 → Int32 → Int32 → Int32 → Mem → Option (Int32 × Mem)
  | 0, _, _, _, _, _, _ => none
  | n + 1, w1, x2, x3, x4, x5, M => mP_winterChoice_9b (mP_winterChoice_9 n) w1 x2 x3 x4 x5 M
def mP_winterChoiceb (j9 : Nat → Int32 → Int32 → Int32 → Int32 → Mem → Option (Int32 × Mem)) (w1 : Nat) (x2 : Int32) (M : Mem) : Option (Int32 × Mem) :=
  j9 w1 x2 0 1000000000 0 M
def mP_winterChoice (w1 : Nat) (x2 : Int32) (M : Mem) : Option (Int32 × Mem) := mP_winterChoiceb (mP_winterChoice_9 fuel) w1 x2 M
/-! FreeLances$Plans.winterCost -/
def mP_winterCost_9b (j9 : Nat → Int32 → Mem → Option (Int32 × Mem)) (w1 : Nat) (x2 : Int32) (M : Mem) : Option (Int32 × Mem) :=
  if x2 < 0 then
    some (M 24 0 0 0, M)
  else
    ixx x2 256 fun k2 =>
    let M1 : Mem := up M 24 0 0 k2 0
    (mJ_bitCount x2 M1).bind fun q3 =>
    if q3.1 < (q3.2 1 w1 0 6) then
      (mP_winterChoice w1 x2 q3.2).bind fun q4 =>
      (mP_winterNext w1 x2 q4.1 q4.2).bind fun q5 =>
      ixx x2 256 fun k7 =>
      let M6 : Mem := up q5.2 24 0 0 k7 q5.1
      j9 w1 (x2 + (-1)) M6
    else
      j9 w1 (x2 + (-1)) q3.2
def mP_winterCost_9 : Nat → Nat → Int32 → Mem → Option (Int32 × Mem)
  | 0, _, _, _ => none
  | n + 1, w1, x2, M => mP_winterCost_9b (mP_winterCost_9 n) w1 x2 M
def mP_winterCostb (j9 : Nat → Int32 → Mem → Option (Int32 × Mem)) (w1 : Nat) (M : Mem) : Option (Int32 × Mem) :=
  j9 w1 ((1 <<< ((M 1 w1 0 2) &&& 31)) - 1) M
def mP_winterCost (w1 : Nat) (M : Mem) : Option (Int32 × Mem) := mP_winterCostb (mP_winterCost_9 fuel) w1 M
/-! FreeLances$Plans.winterTown -/
def mP_winterTown_13b (j13 : Nat → Int32 → Int32 → Int32 → Int32 → Mem → Option (Int32 × Mem)) (w1 : Nat) (x2 : Int32) (x3 : Int32) (x4 : Int32) (x5 : Int32) (M : Mem) : Option (Int32 × Mem) :=
  if x5 < x2 then
    (mP_winterChoice w1 (x3 ||| (1 <<< (x4 &&& 31))) M).bind fun q1 =>
    j13 w1 x2 (x3 ||| (1 <<< (x4 &&& 31))) q1.1 (x5 + 1) q1.2
  else
    some (x4, M)
def mP_winterTown_13 : Nat → Nat → Int32 → Int32 → Int32 → Int32 → Mem → Option (Int32 × Mem)
  | 0, _, _, _, _, _, _ => none
  | n + 1, w1, x2, x3, x4, x5, M => mP_winterTown_13b (mP_winterTown_13 n) w1 x2 x3 x4 x5 M
def mP_winterTownb (j13 : Nat → Int32 → Int32 → Int32 → Int32 → Mem → Option (Int32 × Mem)) (w1 : Nat) (x2 : Int32) (M : Mem) : Option (Int32 × Mem) :=
  (mP_winterChoice w1 0 M).bind fun q1 =>
  j13 w1 x2 0 q1.1 0 q1.2
def mP_winterTown (w1 : Nat) (x2 : Int32) (M : Mem) : Option (Int32 × Mem) := mP_winterTownb (mP_winterTown_13 fuel) w1 x2 M
/-! FreeLances.wintering -/
def mF_wintering (x1 : Int32) (M : Mem) : Option (Int32 × Mem) :=
  (mF_within x1 (-1) ((M 1 0 0 6) - 1) M).bind fun q1 =>
  if q1.1 = 0 then
    (mF_finding 1 q1.2).bind fun q2 =>
    some (q2.1, q2.2)
  else
    if (q1.2 1 0 0 2) < (q1.2 1 0 0 6) then
      (mF_finding 3 q1.2).bind fun q3 =>
      some (q3.1, q3.2)
    else
      (mP_winterCost 0 q1.2).bind fun q4 =>
      if x1 < 0 then
        some (q4.1, q4.2)
      else
        (mP_winterTown 0 x1 q4.2).bind fun q5 =>
        some (q5.1, q5.2)
/-! FreeLances$Plans.hirePlace -/
def mP_hirePlace (x0 : Int32) (x1 : Int32) (M : Mem) : Option (Int32 × Mem) :=
  some (((x0 * 6) + x1) + 1, M)
/-! FreeLances$Plans.hireNext -/
def mP_hireNext_48b (i2 : Nat) (x3 : Int32) (x5 : Int32) (x6 : Int32) (x7 : Int32) (M : Mem) : Option (Int32 × Mem) :=
  ixx (3 * x3) 24 fun k1 =>
  if x6 < (M 20 0 i2 k1) then
    ixx ((3 * x3) + 1) 24 fun k2 =>
    (mP_hirePlace (x3 + 1) x5 M).bind fun q3 =>
    ixx q3.1 36 fun k4 =>
    some ((x7 + (M 20 0 i2 k2)) + (q3.2 25 0 0 k4), q3.2)
  else
    (mP_hirePlace (x3 + 1) x5 M).bind fun q5 =>
    ixx q5.1 36 fun k6 =>
    some (x7 + (q5.2 25 0 0 k6), q5.2)
def mP_hireNext_48 (i2 : Nat) (x3 : Int32) (x5 : Int32) (x6 : Int32) (x7 : Int32) (M : Mem) : Option (Int32 × Mem) := mP_hireNext_48b i2 x3 x5 x6 x7 M
def mP_hireNextb (j48 : Nat → Int32 → Int32 → Int32 → Int32 → Mem → Option (Int32 × Mem)) (w1 : Nat) (i2 : Nat) (x3 : Int32) (x4 : Int32) (x5 : Int32) (M : Mem) : Option (Int32 × Mem) :=
  if x5 < 0 then
    ixx ((3 * x3) + 2) 24 fun k1 =>
    if x5 < 0 then
      j48 i2 x3 x5 0 (0 * (M 20 0 i2 k1)) M
    else
      if x5 = x4 then
        j48 i2 x3 x5 0 (0 * (M 20 0 i2 k1)) M
      else
        j48 i2 x3 x5 0 ((0 * (M 20 0 i2 k1)) + 10) M
  else
    ixx x5 5 fun k2 =>
    ixx ((3 * x3) + 2) 24 fun k3 =>
    if x5 < 0 then
      j48 i2 x3 x5 (M 6 w1 k2 6) ((M 6 w1 k2 6) * (M 20 0 i2 k3)) M
    else
      if x5 = x4 then
        j48 i2 x3 x5 (M 6 w1 k2 6) ((M 6 w1 k2 6) * (M 20 0 i2 k3)) M
      else
        j48 i2 x3 x5 (M 6 w1 k2 6) (((M 6 w1 k2 6) * (M 20 0 i2 k3)) + 10) M
def mP_hireNext (w1 : Nat) (i2 : Nat) (x3 : Int32) (x4 : Int32) (x5 : Int32) (M : Mem) : Option (Int32 × Mem) := mP_hireNextb mP_hireNext_48 w1 i2 x3 x4 x5 M
/-! FreeLances$Plans.hireChoice -/
def mP_hireChoice_18b (j18 : Nat → Nat → Int32 → Int32 → Int32 → Int32 → Int32 → Mem → Option (Int32 × Mem)) (w1 : Nat) (i2 : Nat) (x3 : Int32) (x4 : Int32) (x5 : Int32) (x6 : Int32) (x7 : Int32) (M : Mem) : Option (Int32 × Mem) :=
  if x7 < (M 1 w1 0 6) then
    (mP_hireNext w1 i2 x3 x4 x7 M).bind fun q1 =>
    if q1.1 < x6 then
      j18 w1 i2 x3 x4 x7 q1.1 (x7 + 1) q1.2
    else
      j18 w1 i2 x3 x4 x5 x6 (x7 + 1) q1.2
  else
    some (x5, M)
def mP_hireChoice_18 : Nat → Nat → Nat → Int32 → Int32 → Int32 → Int32 → Int32 → Mem → Option (Int32 × Mem)
  | 0, _, _, _, _, _, _, _, _ => none
  | n + 1, w1, i2, x3, x4, x5, x6, x7, M => mP_hireChoice_18b (mP_hireChoice_18 n) w1 i2 x3 x4 x5 x6 x7 M
def mP_hireChoiceb (j18 : Nat → Nat → Int32 → Int32 → Int32 → Int32 → Int32 → Mem → Option (Int32 × Mem)) (w1 : Nat) (i2 : Nat) (x3 : Int32) (x4 : Int32) (M : Mem) : Option (Int32 × Mem) :=
  (mP_hireNext w1 i2 x3 x4 (-1) M).bind fun q1 =>
  j18 w1 i2 x3 x4 (-1) q1.1 0 q1.2
def mP_hireChoice (w1 : Nat) (i2 : Nat) (x3 : Int32) (x4 : Int32) (M : Mem) : Option (Int32 × Mem) := mP_hireChoiceb (mP_hireChoice_18 fuel) w1 i2 x3 x4 M
/-! FreeLances$Plans.hireCost -/
def mP_hireCost_43b (j35 : Nat → Nat → Int32 → Mem → Option (Int32 × Mem)) (j43 : Nat → Nat → Int32 → Int32 → Mem → Option (Int32 × Mem)) (w1 : Nat) (i2 : Nat) (x4 : Int32) (x5 : Int32) (M : Mem) : Option (Int32 × Mem) :=
  if x5 < (M 1 w1 0 6) then
    (mP_hireChoice w1 i2 x4 x5 M).bind fun q1 =>
    (mP_hirePlace x4 x5 q1.2).bind fun q2 =>
    (mP_hireNext w1 i2 x4 x5 q1.1 q2.2).bind fun q3 =>
    ixx q2.1 36 fun k5 =>
    let M4 : Mem := up q3.2 25 0 0 k5 q3.1
    j43 w1 i2 x4 (x5 + 1) M4
  else
    j35 w1 i2 (x4 + (-1)) M
def mP_hireCost_43 (r35 : Nat → Nat → Int32 → Mem → Option (Int32 × Mem)) : Nat → Nat → Nat → Int32 → Int32 → Mem → Option (Int32 × Mem)
  | 0, _, _, _, _, _ => none
  | n + 1, w1, i2, x4, x5, M => mP_hireCost_43b r35 (mP_hireCost_43 r35 n) w1 i2 x4 x5 M
def mP_hireCost_35b (j43 : Nat → Nat → Int32 → Int32 → Mem → Option (Int32 × Mem)) (w1 : Nat) (i2 : Nat) (x4 : Int32) (M : Mem) : Option (Int32 × Mem) :=
  if x4 < 0 then
    (mP_hirePlace 0 (-1) M).bind fun q1 =>
    ixx q1.1 36 fun k2 =>
    some (q1.2 25 0 0 k2, q1.2)
  else
    j43 w1 i2 x4 (-1) M
def mP_hireCost_35 : Nat → Nat → Nat → Int32 → Mem → Option (Int32 × Mem)
  | 0, _, _, _, _ => none
  | n + 1, w1, i2, x4, M => mP_hireCost_35b (mP_hireCost_43 (mP_hireCost_35 n) fuel) w1 i2 x4 M
def mP_hireCost_3b (j3 : Nat → Nat → Int32 → Int32 → Mem → Option (Int32 × Mem)) (j35 : Nat → Nat → Int32 → Mem → Option (Int32 × Mem)) (w1 : Nat) (i2 : Nat) (x3 : Int32) (x4 : Int32) (M : Mem) : Option (Int32 × Mem) :=
  if x4 < (M 1 w1 0 6) then
    (mP_hirePlace x3 x4 M).bind fun q1 =>
    ixx q1.1 36 fun k3 =>
    let M2 : Mem := up q1.2 25 0 0 k3 0
    j3 w1 i2 x3 (x4 + 1) M2
  else
    j35 w1 i2 (x3 - 1) M
def mP_hireCost_3 : Nat → Nat → Nat → Int32 → Int32 → Mem → Option (Int32 × Mem)
  | 0, _, _, _, _, _ => none
  | n + 1, w1, i2, x3, x4, M => mP_hireCost_3b (mP_hireCost_3 n) (mP_hireCost_35 fuel) w1 i2 x3 x4 M
def mP_hireCostb (j3 : Nat → Nat → Int32 → Int32 → Mem → Option (Int32 × Mem)) (w1 : Nat) (i2 : Nat) (x3 : Int32) (M : Mem) : Option (Int32 × Mem) :=
  j3 w1 i2 x3 (-1) M
def mP_hireCost (w1 : Nat) (i2 : Nat) (x3 : Int32) (M : Mem) : Option (Int32 × Mem) := mP_hireCostb (mP_hireCost_3 fuel) w1 i2 x3 M
/-! FreeLances$Plans.hiredIn -/
def mP_hiredIn_6b (j6 : Nat → Nat → Int32 → Int32 → Int32 → Int32 → Mem → Option (Int32 × Mem)) (w1 : Nat) (i2 : Nat) (x3 : Int32) (x4 : Int32) (x5 : Int32) (x6 : Int32) (M : Mem) : Option (Int32 × Mem) :=
  if x6 ≤ x4 then
    if x6 < x3 then
      (mP_hireChoice w1 i2 x6 x5 M).bind fun q1 =>
      j6 w1 i2 x3 x4 q1.1 (x6 + 1) q1.2
    else
      some (x5, M)
  else
    some (x5, M)
def mP_hiredIn_6 : Nat → Nat → Nat → Int32 → Int32 → Int32 → Int32 → Mem → Option (Int32 × Mem)
  | 0, _, _, _, _, _, _, _ => none
  | n + 1, w1, i2, x3, x4, x5, x6, M => mP_hiredIn_6b (mP_hiredIn_6 n) w1 i2 x3 x4 x5 x6 M
def mP_hiredInb (j6 : Nat → Nat → Int32 → Int32 → Int32 → Int32 → Mem → Option (Int32 × Mem)) (w1 : Nat) (i2 : Nat) (x3 : Int32) (x4 : Int32) (M : Mem) : Option (Int32 × Mem) :=
  j6 w1 i2 x3 x4 (-1) 0 M
def mP_hiredIn (w1 : Nat) (i2 : Nat) (x3 : Int32) (x4 : Int32) (M : Mem) : Option (Int32 × Mem) := mP_hiredInb (mP_hiredIn_6 fuel) w1 i2 x3 x4 M
/-! FreeLances.hiring -/
def mF_hiring (x1 : Int32) (x2 : Int32) (M : Mem) : Option (Int32 × Mem) :=
  (mF_isSheet x1 M).bind fun q1 =>
  if q1.1 = 0 then
    (mF_finding 1 q1.2).bind fun q2 =>
    some (q2.1, q2.2)
  else
    ixx x1 4 fun k3 =>
    (mS_missing k3 q1.2).bind fun q4 =>
    if q4.1 = 0 then
      (mS_inThrees k3 5 q4.2).bind fun q5 =>
      if q5.1 = 0 then
        (mF_finding 5 q5.2).bind fun q6 =>
        some (q6.1, q6.2)
      else
        (mF_within x2 (-1) (((q5.2 19 0 k3 1) / 3) - 1) q5.2).bind fun q7 =>
        if q7.1 = 0 then
          (mF_finding 1 q7.2).bind fun q8 =>
          some (q8.1, q8.2)
        else
          (mP_hireCost 0 k3 ((q5.2 19 0 k3 1) / 3) q7.2).bind fun q9 =>
          if x2 < 0 then
            some (q9.1, q9.2)
          else
            (mP_hiredIn 0 k3 ((q5.2 19 0 k3 1) / 3) x2 q9.2).bind fun q10 =>
            some (q10.1, q10.2)
    else
      (mF_finding 2 q4.2).bind fun q11 =>
      some (q11.1, q11.2)
/-! FreeLances$Company.arriveOn -/
def mC_arriveOn (w0 : Nat) (i0 : Nat) (x1 : Int32) (M : Mem) : Option Mem :=
  (mC_marches w0 i0 M).bind fun q1 =>
  if q1.1 = 0 then
    some q1.2
  else
    if (q1.2 6 w0 i0 5) = x1 then
      let M2 : Mem := up q1.2 6 w0 i0 3 (q1.2 6 w0 i0 4)
      some M2
    else
      some q1.2
/-! FreeLances$World.eat -/
def mW_eat (w0 : Nat) (w1 : Nat) (i1 : Nat) (M : Mem) : Option Mem :=
  let t1 : Int32 := if (M 6 w1 i1 1) < ((M 6 w1 i1 6) + (M 6 w1 i1 7)) then (M 6 w1 i1 1) else ((M 6 w1 i1 6) + (M 6 w1 i1 7))
  let M2 : Mem := up M 6 w1 i1 1 ((M 6 w1 i1 1) - t1)
  (mC_marches w1 i1 M2).bind fun q3 =>
  if q3.1 = 0 then
    ixx (q3.2 6 w1 i1 3) 8 fun k4 =>
    let t5 : Int32 := if (q3.2 3 w0 k4 1) < (((M 6 w1 i1 6) + (M 6 w1 i1 7)) - t1) then (q3.2 3 w0 k4 1) else (((M 6 w1 i1 6) + (M 6 w1 i1 7)) - t1)
    let M6 : Mem := up q3.2 3 w0 k4 1 ((q3.2 3 w0 k4 1) - t5)
    let t7 : Int32 := (((M 6 w1 i1 6) + (M 6 w1 i1 7)) - t1) - t5
    if t7 ≤ 0 then
      let M8 : Mem := up M6 6 w1 i1 2 0
      some M8
    else
      let M9 : Mem := up M6 6 w1 i1 2 ((M6 6 w1 i1 2) + 1)
      some M9
  else
    if (((M 6 w1 i1 6) + (M 6 w1 i1 7)) - t1) ≤ 0 then
      let M10 : Mem := up q3.2 6 w1 i1 2 0
      some M10
    else
      let M11 : Mem := up q3.2 6 w1 i1 2 ((q3.2 6 w1 i1 2) + 1)
      some M11
/-! FreeLances$World.turnLeast -/
def mW_turnLeast_3b (j3 : Nat → Int32 → Int32 → Int32 → Int32 → Mem → Option Mem) (w0 : Nat) (x1 : Int32) (x2 : Int32) (x3 : Int32) (x4 : Int32) (M : Mem) : Option Mem :=
  if x4 < (M 1 w0 0 8) then
    ixx x4 40 fun k1 =>
    if (M 10 w0 k1 0) = x1 then
      ixx x4 40 fun k2 =>
      if (M 10 w0 k2 3) = x2 then
        ixx x4 40 fun k3 =>
        (mW_become w0 w0 k3 x3 M).bind fun q4 =>
        some q4
      else
        j3 w0 x1 x2 x3 (x4 + 1) M
    else
      j3 w0 x1 x2 x3 (x4 + 1) M
  else
    some M
def mW_turnLeast_3 : Nat → Nat → Int32 → Int32 → Int32 → Int32 → Mem → Option Mem
  | 0, _, _, _, _, _, _ => none
  | n + 1, w0, x1, x2, x3, x4, M => mW_turnLeast_3b (mW_turnLeast_3 n) w0 x1 x2 x3 x4 M
def mW_turnLeastb (j3 : Nat → Int32 → Int32 → Int32 → Int32 → Mem → Option Mem) (w0 : Nat) (x1 : Int32) (x2 : Int32) (x3 : Int32) (M : Mem) : Option Mem :=
  j3 w0 x1 x2 x3 0 M
def mW_turnLeast (w0 : Nat) (x1 : Int32) (x2 : Int32) (x3 : Int32) (M : Mem) : Option Mem := mW_turnLeastb (mW_turnLeast_3 fuel) w0 x1 x2 x3 M
/-! FreeLances$World.ail -/
def mW_ail (w0 : Nat) (x1 : Int32) (M : Mem) : Option Mem :=
  ixx x1 5 fun k1 =>
  if (M 6 w0 k1 2) < 6 then
    if (M 6 w0 k1 2) < 3 then
      if (M 6 w0 k1 2) = 0 then
        ixx x1 5 fun k2 =>
        if (M 6 w0 k2 7) ≤ 0 then
          some M
        else
          (mW_turnLeast w0 x1 1 0 M).bind fun q3 =>
          some q3
      else
        some M
    else
      (mW_turnLeast w0 x1 0 1 M).bind fun q4 =>
      some q4
  else
    (mW_turnLeast w0 x1 1 3 M).bind fun q5 =>
    some q5
/-! FreeLances$World.due -/
def mW_due (w0 : Nat) (x1 : Int32) (x2 : Int32) (M : Mem) : Option (Int32 × Mem) :=
  (mW_inForce w0 1 (M 1 w0 0 0) M).bind fun q1 =>
  if q1.1 < 0 then
    let t2 : Int32 := if (x1 * x2) < 99999 then (x1 * x2) else 99999
    let t3 : Int32 := if (0 : Int32) < t2 then t2 else 0
    some (t3, q1.2)
  else
    ixx q1.1 12 fun k4 =>
    (mR_workOut w0 w0 k4 x1 x2 0 q1.2).bind fun q5 =>
    let t6 : Int32 := if q5.1 < 99999 then q5.1 else 99999
    let t7 : Int32 := if (0 : Int32) < t6 then t6 else 0
    some (t7, q5.2)
/-! FreeLances$World.settle -/
def mW_settle (w0 : Nat) (w1 : Nat) (i1 : Nat) (M : Mem) : Option Mem :=
  (mB_isContract w1 i1 M).bind fun q1 =>
  if q1.1 = 0 then
    some q1.2
  else
    (mB_has w1 i1 (q1.2 1 w0 0 0) q1.2).bind fun q2 =>
    if q2.1 = 0 then
      some q2.2
    else
      ixx (q2.2 15 w1 i1 1) 5 fun k3 =>
      let t4 : Int32 := if (0 : Int32) < (q2.2 6 w0 k3 8) then (q2.2 6 w0 k3 8) else 0
      (mW_due w0 t4 (q2.2 15 w1 i1 4) q2.2).bind fun q5 =>
      let M6 : Mem := up q5.2 15 w1 i1 8 ((q2.2 15 w1 i1 8) + q5.1)
      let t7 : Int32 := if (M6 15 w1 i1 10) < (M6 15 w1 i1 8) then (M6 15 w1 i1 10) else (M6 15 w1 i1 8)
      let M8 : Mem := up M6 15 w1 i1 10 ((M6 15 w1 i1 10) - t7)
      let M9 : Mem := up M8 15 w1 i1 8 ((M8 15 w1 i1 8) - t7)
      ixx (M9 15 w1 i1 5) 8 fun k10 =>
      let t11 : Int32 := if (M9 3 w0 k10 0) < (M9 15 w1 i1 8) then (M9 3 w0 k10 0) else (M9 15 w1 i1 8)
      (mW_coinToCompany w0 (M9 15 w1 i1 5) (M9 15 w1 i1 1) t11 M9).bind fun q12 =>
      let M13 : Mem := up q12 15 w1 i1 8 ((q12 15 w1 i1 8) - t11)
      if (M13 15 w1 i1 8) = 0 then
        let M14 : Mem := up M13 15 w1 i1 9 (-1)
        some M14
      else
        if (M13 15 w1 i1 9) < 0 then
          let M15 : Mem := up M13 15 w1 i1 9 (M13 1 w0 0 0)
          some M15
        else
          some M13
/-! FreeLances$World.endDay -/
def mW_endDay_72b (j72 : Nat → Int32 → Mem → Option Mem) (w0 : Nat) (x1 : Int32) (M : Mem) : Option Mem :=
  if x1 < (M 1 w0 0 12) then
    if ((M 1 w0 0 0) - (M 1 w0 0 0) / 30 * 30) = 0 then
      ixx x1 24 fun k1 =>
      (mW_settle w0 w0 k1 M).bind fun q2 =>
      j72 w0 (x1 + 1) q2
    else
      some M
  else
    some M
def mW_endDay_72 : Nat → Nat → Int32 → Mem → Option Mem
  | 0, _, _, _ => none
  | n + 1, w0, x1, M => mW_endDay_72b (mW_endDay_72 n) w0 x1 M
def mW_endDay_41b (j41 : Nat → Int32 → Mem → Option Mem) (j72 : Nat → Int32 → Mem → Option Mem) (w0 : Nat) (x1 : Int32) (M : Mem) : Option Mem :=
  if x1 < (M 1 w0 0 6) then
    ixx x1 5 fun k1 =>
    (mW_eat w0 w0 k1 M).bind fun q2 =>
    (mW_ail w0 x1 q2).bind fun q3 =>
    j41 w0 (x1 + 1) q3
  else
    j72 w0 0 M
def mW_endDay_41 : Nat → Nat → Int32 → Mem → Option Mem
  | 0, _, _, _ => none
  | n + 1, w0, x1, M => mW_endDay_41b (mW_endDay_41 n) (mW_endDay_72 fuel) w0 x1 M
def mW_endDay_12b (j12 : Nat → Int32 → Mem → Option Mem) (j41 : Nat → Int32 → Mem → Option Mem) (w0 : Nat) (x1 : Int32) (M : Mem) : Option Mem :=
  if x1 < (M 1 w0 0 6) then
    ixx x1 5 fun k1 =>
    (mC_arriveOn w0 k1 (M 1 w0 0 0) M).bind fun q2 =>
    j12 w0 (x1 + 1) q2
  else
    j41 w0 0 M
def mW_endDay_12 : Nat → Nat → Int32 → Mem → Option Mem
  | 0, _, _, _ => none
  | n + 1, w0, x1, M => mW_endDay_12b (mW_endDay_12 n) (mW_endDay_41 fuel) w0 x1 M
def mW_endDayb (j12 : Nat → Int32 → Mem → Option Mem) (w0 : Nat) (M : Mem) : Option Mem :=
  let M1 : Mem := up M 1 w0 0 0 ((M 1 w0 0 0) + 1)
  j12 w0 0 M1
def mW_endDay (w0 : Nat) (M : Mem) : Option Mem := mW_endDayb (mW_endDay_12 fuel) w0 M
/-! FreeLances.days -/
def mF_days_34b (j34 : Int32 → Int32 → Mem → Option (Int32 × Mem)) (x1 : Int32) (x2 : Int32) (M : Mem) : Option (Int32 × Mem) :=
  if x2 < x1 then
    (mW_endDay 0 M).bind fun q1 =>
    j34 x1 (x2 + 1) q1
  else
    some (M 1 0 0 0, M)
def mF_days_34 : Nat → Int32 → Int32 → Mem → Option (Int32 × Mem)
  | 0, _, _, _ => none
  | n + 1, x1, x2, M => mF_days_34b (mF_days_34 n) x1 x2 M
def mF_daysb (j34 : Int32 → Int32 → Mem → Option (Int32 × Mem)) (x1 : Int32) (M : Mem) : Option (Int32 × Mem) :=
  (mF_within x1 1 200 M).bind fun q1 =>
  if q1.1 = 0 then
    (mF_finding 1 q1.2).bind fun q2 =>
    some (q2.1, q2.2)
  else
    if ((q1.2 1 0 0 0) + x1) ≤ 3000 then
      j34 x1 0 q1.2
    else
      (mF_finding 1 q1.2).bind fun q3 =>
      some (q3.1, q3.2)
def mF_days (x1 : Int32) (M : Mem) : Option (Int32 × Mem) := mF_daysb (mF_days_34 fuel) x1 M
/-! FreeLances$Town.copy -/
def mT_copy (w0 : Nat) (i0 : Nat) (w1 : Nat) (i1 : Nat) (M : Mem) : Option Mem :=
  let M1 : Mem := up M 3 w0 i0 0 (M 3 w1 i1 0)
  let M2 : Mem := up M1 3 w0 i0 1 (M1 3 w1 i1 1)
  let M3 : Mem := up M2 3 w0 i0 2 (M2 3 w1 i1 2)
  let M4 : Mem := up M3 3 w0 i0 3 (M3 3 w1 i1 3)
  some M4
/-! FreeLances$Company.copy -/
def mC_copy (w0 : Nat) (i0 : Nat) (w1 : Nat) (i1 : Nat) (M : Mem) : Option Mem :=
  let M1 : Mem := up M 6 w0 i0 0 (M 6 w1 i1 0)
  let M2 : Mem := up M1 6 w0 i0 1 (M1 6 w1 i1 1)
  let M3 : Mem := up M2 6 w0 i0 2 (M2 6 w1 i1 2)
  let M4 : Mem := up M3 6 w0 i0 3 (M3 6 w1 i1 3)
  let M5 : Mem := up M4 6 w0 i0 4 (M4 6 w1 i1 4)
  let M6 : Mem := up M5 6 w0 i0 5 (M5 6 w1 i1 5)
  let M7 : Mem := up M6 6 w0 i0 6 (M6 6 w1 i1 6)
  let M8 : Mem := up M7 6 w0 i0 7 (M7 6 w1 i1 7)
  let M9 : Mem := up M8 6 w0 i0 8 (M8 6 w1 i1 8)
  let M10 : Mem := up M9 6 w0 i0 9 (M9 6 w1 i1 9)
  let M11 : Mem := up M10 6 w0 i0 10 (M10 6 w1 i1 10)
  let M12 : Mem := up M11 6 w0 i0 11 (M11 6 w1 i1 11)
  let M13 : Mem := cpM M12 7 w1 i1 0 w0 i0 0 12
  let M14 : Mem := cpM M13 8 w1 i1 0 w0 i0 0 8
  some M14
/-! FreeLances$Lance.copy -/
def mL_copy (w0 : Nat) (i0 : Nat) (w1 : Nat) (i1 : Nat) (M : Mem) : Option Mem :=
  let M1 : Mem := up M 10 w0 i0 0 (M 10 w1 i1 0)
  let M2 : Mem := up M1 10 w0 i0 1 (M1 10 w1 i1 1)
  let M3 : Mem := up M2 10 w0 i0 2 (M2 10 w1 i1 2)
  let M4 : Mem := up M3 10 w0 i0 3 (M3 10 w1 i1 3)
  let M5 : Mem := up M4 10 w0 i0 4 (M4 10 w1 i1 4)
  some M5
/-! FreeLances$Statute.copy -/
def mU_copy (w0 : Nat) (i0 : Nat) (w1 : Nat) (i1 : Nat) (M : Mem) : Option Mem :=
  (mU_begin w0 i0 (M 12 w1 i1 0) (M 12 w1 i1 1) w1 i1 (M 12 w1 i1 2) M).bind fun q1 =>
  some q1
/-! FreeLances$Bond.copy -/
def mB_copy (w0 : Nat) (i0 : Nat) (w1 : Nat) (i1 : Nat) (M : Mem) : Option Mem :=
  let M1 : Mem := up M 15 w0 i0 0 (M 15 w1 i1 0)
  let M2 : Mem := up M1 15 w0 i0 1 (M1 15 w1 i1 1)
  let M3 : Mem := up M2 15 w0 i0 2 (M2 15 w1 i1 2)
  let M4 : Mem := up M3 15 w0 i0 3 (M3 15 w1 i1 3)
  let M5 : Mem := up M4 15 w0 i0 4 (M4 15 w1 i1 4)
  let M6 : Mem := up M5 15 w0 i0 5 (M5 15 w1 i1 5)
  let M7 : Mem := up M6 15 w0 i0 6 (M6 15 w1 i1 6)
  let M8 : Mem := up M7 15 w0 i0 7 (M7 15 w1 i1 7)
  let M9 : Mem := up M8 15 w0 i0 8 (M8 15 w1 i1 8)
  let M10 : Mem := up M9 15 w0 i0 9 (M9 15 w1 i1 9)
  let M11 : Mem := up M10 15 w0 i0 10 (M10 15 w1 i1 10)
  if M11 15 w1 i1 11 = 0 ∨ M11 15 w1 i1 11 = 1 then
    let M12 : Mem := up M11 15 w0 i0 11 (M11 15 w1 i1 11)
    some M12
  else
    none
/-! FreeLances$World.copy -/
def mW_copy_243b (j243 : Nat → Nat → Int32 → Mem → Option Mem) (w0 : Nat) (w1 : Nat) (x2 : Int32) (M : Mem) : Option Mem :=
  if x2 < (M 1 w0 0 12) then
    ixx x2 24 fun k1 =>
    ixx x2 24 fun k2 =>
    (mB_copy w0 k1 w1 k2 M).bind fun q3 =>
    j243 w0 w1 (x2 + 1) q3
  else
    some M
def mW_copy_243 : Nat → Nat → Nat → Int32 → Mem → Option Mem
  | 0, _, _, _, _ => none
  | n + 1, w0, w1, x2, M => mW_copy_243b (mW_copy_243 n) w0 w1 x2 M
def mW_copy_212b (j212 : Nat → Nat → Int32 → Mem → Option Mem) (j243 : Nat → Nat → Int32 → Mem → Option Mem) (w0 : Nat) (w1 : Nat) (x2 : Int32) (M : Mem) : Option Mem :=
  if x2 < (M 1 w0 0 10) then
    ixx x2 12 fun k1 =>
    ixx x2 12 fun k2 =>
    (mU_copy w0 k1 w1 k2 M).bind fun q3 =>
    j212 w0 w1 (x2 + 1) q3
  else
    j243 w0 w1 0 M
def mW_copy_212 : Nat → Nat → Nat → Int32 → Mem → Option Mem
  | 0, _, _, _, _ => none
  | n + 1, w0, w1, x2, M => mW_copy_212b (mW_copy_212 n) (mW_copy_243 fuel) w0 w1 x2 M
def mW_copy_181b (j181 : Nat → Nat → Int32 → Mem → Option Mem) (j212 : Nat → Nat → Int32 → Mem → Option Mem) (w0 : Nat) (w1 : Nat) (x2 : Int32) (M : Mem) : Option Mem :=
  if x2 < (M 1 w0 0 8) then
    ixx x2 40 fun k1 =>
    ixx x2 40 fun k2 =>
    (mL_copy w0 k1 w1 k2 M).bind fun q3 =>
    j181 w0 w1 (x2 + 1) q3
  else
    j212 w0 w1 0 M
def mW_copy_181 : Nat → Nat → Nat → Int32 → Mem → Option Mem
  | 0, _, _, _, _ => none
  | n + 1, w0, w1, x2, M => mW_copy_181b (mW_copy_181 n) (mW_copy_212 fuel) w0 w1 x2 M
def mW_copy_150b (j150 : Nat → Nat → Int32 → Mem → Option Mem) (j181 : Nat → Nat → Int32 → Mem → Option Mem) (w0 : Nat) (w1 : Nat) (x2 : Int32) (M : Mem) : Option Mem :=
  if x2 < (M 1 w0 0 6) then
    ixx x2 5 fun k1 =>
    ixx x2 5 fun k2 =>
    (mC_copy w0 k1 w1 k2 M).bind fun q3 =>
    j150 w0 w1 (x2 + 1) q3
  else
    j181 w0 w1 0 M
def mW_copy_150 : Nat → Nat → Nat → Int32 → Mem → Option Mem
  | 0, _, _, _, _ => none
  | n + 1, w0, w1, x2, M => mW_copy_150b (mW_copy_150 n) (mW_copy_181 fuel) w0 w1 x2 M
def mW_copy_119b (j119 : Nat → Nat → Int32 → Mem → Option Mem) (j150 : Nat → Nat → Int32 → Mem → Option Mem) (w0 : Nat) (w1 : Nat) (x2 : Int32) (M : Mem) : Option Mem :=
  if x2 < (M 1 w0 0 2) then
    ixx x2 8 fun k1 =>
    ixx x2 8 fun k2 =>
    (mT_copy w0 k1 w1 k2 M).bind fun q3 =>
    j119 w0 w1 (x2 + 1) q3
  else
    j150 w0 w1 0 M
def mW_copy_119 : Nat → Nat → Nat → Int32 → Mem → Option Mem
  | 0, _, _, _, _ => none
  | n + 1, w0, w1, x2, M => mW_copy_119b (mW_copy_119 n) (mW_copy_150 fuel) w0 w1 x2 M
def mW_copyb (j119 : Nat → Nat → Int32 → Mem → Option Mem) (w0 : Nat) (w1 : Nat) (M : Mem) : Option Mem :=
  let M1 : Mem := up M 1 w0 0 0 (M 1 w1 0 0)
  let M2 : Mem := up M1 1 w0 0 2 (M1 1 w1 0 2)
  let M3 : Mem := up M2 1 w0 0 3 (M2 1 w1 0 3)
  let M4 : Mem := up M3 1 w0 0 6 (M3 1 w1 0 6)
  let M5 : Mem := up M4 1 w0 0 8 (M4 1 w1 0 8)
  let M6 : Mem := up M5 1 w0 0 10 (M5 1 w1 0 10)
  let M7 : Mem := up M6 1 w0 0 12 (M6 1 w1 0 12)
  let M8 : Mem := up M7 1 w0 0 14 (M7 1 w1 0 14)
  let M9 : Mem := up M8 1 w0 0 16 (M8 1 w1 0 16)
  let M10 : Mem := cpM M9 4 w1 0 0 w0 0 0 64
  if (0 : Int32) < 0 ∨ (0 : Int32) < 0 ∨ (50 : Int32) < 0 ∨ lenB 12 < (0 : Int32).toNatClampNeg + (50 : Int32).toNatClampNeg ∨ lenB 12 < (0 : Int32).toNatClampNeg + (50 : Int32).toNatClampNeg then
    none
  else
    let M11 : Mem := cpM M10 13 w1 12 0 w0 12 0 50
    let M12 : Mem := cpM M11 16 w1 0 0 w0 0 0 20
    j119 w0 w1 0 M12
def mW_copy (w0 : Nat) (w1 : Nat) (M : Mem) : Option Mem := mW_copyb (mW_copy_119 fuel) w0 w1 M
/-! FreeLances.ahead -/
def mF_ahead_101b (j101 : Int32 → Int32 → Int32 → Int32 → Mem → Option (Int32 × Mem)) (x1 : Int32) (x2 : Int32) (x3 : Int32) (x5 : Int32) (M : Mem) : Option (Int32 × Mem) :=
  if x5 < x1 then
    (mW_endDay 2 M).bind fun q1 =>
    j101 x1 x2 x3 (x5 + 1) q1
  else
    if x2 = 0 then
      ixx x3 8 fun k8 =>
      some (M 3 2 k8 0, M)
    else
      if x2 = 1 then
        ixx x3 8 fun k7 =>
        some (M 3 2 k7 1, M)
      else
        if x2 = 2 then
          ixx x3 5 fun k6 =>
          some (M 6 2 k6 0, M)
        else
          if x2 = 3 then
            ixx x3 5 fun k5 =>
            some (M 6 2 k5 1, M)
          else
            if x2 = 4 then
              ixx x3 5 fun k4 =>
              some (M 6 2 k4 6, M)
            else
              if x2 = 5 then
                ixx x3 5 fun k3 =>
                some (M 6 2 k3 7, M)
              else
                ixx x3 24 fun k2 =>
                some (M 15 2 k2 8, M)
def mF_ahead_101 : Nat → Int32 → Int32 → Int32 → Int32 → Mem → Option (Int32 × Mem)
  | 0, _, _, _, _, _ => none
  | n + 1, x1, x2, x3, x5, M => mF_ahead_101b (mF_ahead_101 n) x1 x2 x3 x5 M
def mF_aheadb (j101 : Int32 → Int32 → Int32 → Int32 → Mem → Option (Int32 × Mem)) (x1 : Int32) (x2 : Int32) (x3 : Int32) (M : Mem) : Option (Int32 × Mem) :=
  (mF_within x1 0 200 M).bind fun q1 =>
  if q1.1 = 0 then
    (mF_finding 1 q1.2).bind fun q2 =>
    some (q2.1, q2.2)
  else
    if ((q1.2 1 0 0 0) + x1) ≤ 3000 then
      (mF_within x2 0 6 q1.2).bind fun q3 =>
      if q3.1 = 0 then
        (mF_finding 1 q3.2).bind fun q4 =>
        some (q4.1, q4.2)
      else
        if x2 < 2 then
          (mF_isTown x3 q3.2).bind fun q5 =>
          if q5.1 = 0 then
            (mF_finding 1 q5.2).bind fun q6 =>
            some (q6.1, q6.2)
          else
            (mW_copy 2 0 q5.2).bind fun q7 =>
            j101 x1 x2 x3 0 q7
        else
          if x2 < 6 then
            (mF_isCompany x3 q3.2).bind fun q8 =>
            if q8.1 = 0 then
              (mF_finding 1 q8.2).bind fun q9 =>
              some (q9.1, q9.2)
            else
              (mW_copy 2 0 q8.2).bind fun q10 =>
              j101 x1 x2 x3 0 q10
          else
            (mF_isBond x3 q3.2).bind fun q11 =>
            if q11.1 = 0 then
              (mF_finding 1 q11.2).bind fun q12 =>
              some (q12.1, q12.2)
            else
              (mW_copy 2 0 q11.2).bind fun q13 =>
              j101 x1 x2 x3 0 q13
    else
      (mF_finding 1 q1.2).bind fun q14 =>
      some (q14.1, q14.2)
def mF_ahead (x1 : Int32) (x2 : Int32) (x3 : Int32) (M : Mem) : Option (Int32 × Mem) := mF_aheadb (mF_ahead_101 fuel) x1 x2 x3 M
/-! FreeLances$Voices.own -/
def mV_own (rV_from : Int32 → Int32 → Int32 → Int32 → Mem → Option (Int32 × Mem)) (x1 : Int32) (x2 : Int32) (x3 : Int32) (M : Mem) : Option (Int32 × Mem) :=
  (rV_from (M 21 0 0 2) x1 x2 x3 M).bind fun q1 =>
  some (q1.1, q1.2)
/-! FreeLances$Voices.from -/
def mV_from_72b (rV_work : Int32 → Int32 → Int32 → Mem → Option (Int32 × Mem)) (x3 : Int32) (x4 : Int32) (y0 : Int32) (M : Mem) : Option (Int32 × Mem) :=
  if (M 21 0 0 1) < 40 then
    ixx (M 21 0 0 1) 40 fun k2 =>
    let M1 : Mem := up M 22 0 0 k2 y0
    let M3 : Mem := up M1 21 0 0 1 ((M1 21 0 0 1) + 1)
    (rV_work y0 x3 (x4 + 1) M3).bind fun q4 =>
    some (q4.1, q4.2)
  else
    (rV_work y0 x3 (x4 + 1) M).bind fun q5 =>
    some (q5.1, q5.2)
def mV_from_72 (rV_work : Int32 → Int32 → Int32 → Mem → Option (Int32 × Mem)) (x3 : Int32) (x4 : Int32) (y0 : Int32) (M : Mem) : Option (Int32 × Mem) := mV_from_72b rV_work x3 x4 y0 M
def mV_from_15b (rV_work : Int32 → Int32 → Int32 → Mem → Option (Int32 × Mem)) (j15 : Int32 → Int32 → Int32 → Int32 → Int32 → Mem → Option (Int32 × Mem)) (j72 : Int32 → Int32 → Int32 → Mem → Option (Int32 × Mem)) (x2 : Int32) (x3 : Int32) (x4 : Int32) (x5 : Int32) (x6 : Int32) (M : Mem) : Option (Int32 × Mem) :=
  if x6 < 3 then
    if x5 ≤ 0 then
      if x5 < 0 then
        j72 x3 x4 0 M
      else
        ixx ((x5 * 4) + x2) 28 fun k1 =>
        j72 x3 x4 (tabB k1) M
    else
      ixx ((x5 * 4) + x2) 28 fun k2 =>
      if (tabB k2) = 0 then
        ixx x5 7 fun k3 =>
        j15 x2 x3 x4 (tabA k3) (x6 + 1) M
      else
        if x5 < 0 then
          j72 x3 x4 0 M
        else
          ixx ((x5 * 4) + x2) 28 fun k4 =>
          j72 x3 x4 (tabB k4) M
  else
    if x5 < 0 then
      j72 x3 x4 0 M
    else
      ixx ((x5 * 4) + x2) 28 fun k5 =>
      j72 x3 x4 (tabB k5) M
def mV_from_15 (rV_work : Int32 → Int32 → Int32 → Mem → Option (Int32 × Mem)) : Nat → Int32 → Int32 → Int32 → Int32 → Int32 → Mem → Option (Int32 × Mem)
  | 0, _, _, _, _, _, _ => none
  | n + 1, x2, x3, x4, x5, x6, M => mV_from_15b rV_work (mV_from_15 rV_work n) (mV_from_72 rV_work) x2 x3 x4 x5 x6 M
def mV_fromb (rV_work : Int32 → Int32 → Int32 → Mem → Option (Int32 × Mem)) (j15 : Int32 → Int32 → Int32 → Int32 → Int32 → Mem → Option (Int32 × Mem)) (x1 : Int32) (x2 : Int32) (x3 : Int32) (x4 : Int32) (M : Mem) : Option (Int32 × Mem) :=
  if x4 ≤ 40 then
    j15 x2 x3 x4 x1 0 M
  else
    some (0, M)
def mV_from (rV_work : Int32 → Int32 → Int32 → Mem → Option (Int32 × Mem)) (x1 : Int32) (x2 : Int32) (x3 : Int32) (x4 : Int32) (M : Mem) : Option (Int32 × Mem) := mV_fromb rV_work (mV_from_15 rV_work fuel) x1 x2 x3 x4 M
/-! FreeLances$Voices.work -/
def mV_work (rV_own : Int32 → Int32 → Int32 → Mem → Option (Int32 × Mem)) (rV_above : Int32 → Int32 → Int32 → Int32 → Mem → Option (Int32 × Mem)) (x1 : Int32) (x2 : Int32) (x3 : Int32) (M : Mem) : Option (Int32 × Mem) :=
  if x1 = 10 then
    some (x2 + (M 21 0 0 3), M)
  else
    if x1 = 11 then
      (rV_own 0 x2 x3 M).bind fun q15 =>
      some (q15.1 + (q15.2 21 0 0 4), q15.2)
    else
      if x1 = 12 then
        some ((x2 * 2) - (M 21 0 0 3), M)
      else
        if x1 = 13 then
          (rV_own 1 x2 x3 M).bind fun q13 =>
          (rV_own 2 x2 x3 q13.2).bind fun q14 =>
          some (q13.1 ^^^ q14.1, q14.2)
        else
          if x1 = 20 then
            (rV_above 1 1 x2 x3 M).bind fun q12 =>
            some (q12.1 * 2, q12.2)
          else
            if x1 = 21 then
              (rV_above 1 2 (x2 - 1) x3 M).bind fun q11 =>
              some (q11.1, q11.2)
            else
              if x1 = 30 then
                (rV_above 2 2 x2 x3 M).bind fun q9 =>
                (rV_own 0 x2 x3 q9.2).bind fun q10 =>
                some (q9.1 + q10.1, q10.2)
              else
                if x1 = 31 then
                  (rV_above 2 0 x2 x3 M).bind fun q8 =>
                  some (q8.1 * 3, q8.2)
                else
                  if x1 = 40 then
                    (rV_above 3 1 x2 x3 M).bind fun q7 =>
                    some (x2 - q7.1, q7.2)
                  else
                    if x1 = 50 then
                      (rV_above 4 3 x2 x3 M).bind fun q6 =>
                      some (q6.1 - 1, q6.2)
                    else
                      if x1 = 51 then
                        (rV_above 4 0 (x2 + (M 21 0 0 4)) x3 M).bind fun q5 =>
                        some (q5.1, q5.2)
                      else
                        if x1 = 60 then
                          (rV_own 1 x2 x3 M).bind fun q3 =>
                          (rV_above 5 2 x2 x3 q3.2).bind fun q4 =>
                          some (q3.1 - q4.1, q4.2)
                        else
                          if x1 = 70 then
                            (rV_own 2 x2 x3 M).bind fun q1 =>
                            (rV_above 6 3 (x2 + 1) x3 q1.2).bind fun q2 =>
                            some (q1.1 + q2.1, q2.2)
                          else
                            some (0, M)
/-! FreeLances$Voices.above -/
def mV_above (rV_from : Int32 → Int32 → Int32 → Int32 → Mem → Option (Int32 × Mem)) (x1 : Int32) (x2 : Int32) (x3 : Int32) (x4 : Int32) (M : Mem) : Option (Int32 × Mem) :=
  ixx x1 7 fun k1 =>
  (rV_from (tabA k1) x2 x3 x4 M).bind fun q2 =>
  some (q2.1, q2.2)
def g2 : Nat → Nat → Int32 → Int32 → Int32 → Int32 → Mem → Option (Int32 × Mem)
  | 0, _, _, _, _, _, _ => none
  | n + 1, 0, x1, x2, x3, _, M => mV_own (fun x1 x2 x3 x4 M => g2 n 1 x1 x2 x3 x4 M) x1 x2 x3 M
  | n + 1, 1, x1, x2, x3, x4, M => mV_from (fun x1 x2 x3 M => g2 n 2 x1 x2 x3 0 M) x1 x2 x3 x4 M
  | n + 1, 2, x1, x2, x3, _, M => mV_work (fun x1 x2 x3 M => g2 n 0 x1 x2 x3 0 M) (fun x1 x2 x3 x4 M => g2 n 3 x1 x2 x3 x4 M) x1 x2 x3 M
  | n + 1, 3, x1, x2, x3, x4, M => mV_above (fun x1 x2 x3 x4 M => g2 n 1 x1 x2 x3 x4 M) x1 x2 x3 x4 M
  | _ + 1, _, _, _, _, _, _ => none
def xV_own (x1 : Int32) (x2 : Int32) (x3 : Int32) (M : Mem) : Option (Int32 × Mem) := g2 60 0 x1 x2 x3 0 M
def xV_from (x1 : Int32) (x2 : Int32) (x3 : Int32) (x4 : Int32) (M : Mem) : Option (Int32 × Mem) := g2 60 1 x1 x2 x3 x4 M
def xV_work (x1 : Int32) (x2 : Int32) (x3 : Int32) (M : Mem) : Option (Int32 × Mem) := g2 60 2 x1 x2 x3 0 M
def xV_above (x1 : Int32) (x2 : Int32) (x3 : Int32) (x4 : Int32) (M : Mem) : Option (Int32 × Mem) := g2 60 3 x1 x2 x3 x4 M
/-! FreeLances$Voices.speak -/
def mV_speak (x1 : Int32) (x2 : Int32) (x3 : Int32) (x4 : Int32) (x5 : Int32) (M : Mem) : Option (Int32 × Mem) :=
  let M1 : Mem := up M 21 0 0 2 x1
  let M2 : Mem := up M1 21 0 0 3 x2
  let M3 : Mem := up M2 21 0 0 4 x3
  let M4 : Mem := up M3 21 0 0 1 0
  (xV_own x4 x5 0 M4).bind fun q5 =>
  some (q5.1, q5.2)
/-! FreeLances.voice -/
def mF_voice (x1 : Int32) (x2 : Int32) (x3 : Int32) (M : Mem) : Option (Int32 × Mem) :=
  (mF_isBond x1 M).bind fun q1 =>
  if q1.1 = 0 then
    (mF_finding 1 q1.2).bind fun q2 =>
    some (q2.1, q2.2)
  else
    (mF_within x2 0 3 q1.2).bind fun q3 =>
    if q3.1 = 0 then
      (mF_finding 1 q3.2).bind fun q4 =>
      some (q4.1, q4.2)
    else
      ixx x1 24 fun k5 =>
      (mV_speak (q3.2 15 0 k5 0) x1 (q3.2 15 0 k5 4) x2 x3 q3.2).bind fun q6 =>
      some (q6.1, q6.2)
/-! FreeLances.trace -/
def mF_trace (x1 : Int32) (M : Mem) : Option (Int32 × Mem) :=
  (mF_within x1 0 ((M 21 0 0 1) - 1) M).bind fun q1 =>
  if q1.1 = 0 then
    (mF_finding 2 q1.2).bind fun q2 =>
    some (q2.1, q2.2)
  else
    ixx x1 40 fun k3 =>
    some (q1.2 22 0 0 k3, q1.2)
/-! FreeLances$Sheet.begin -/
def mS_begin_12b (j12 : Nat → Int32 → Mem → Option Mem) (i0 : Nat) (x3 : Int32) (M : Mem) : Option Mem :=
  if x3 < 24 then
    ixx x3 24 fun k2 =>
    let M1 : Mem := up M 20 0 i0 k2 0
    j12 i0 (x3 + 1) M1
  else
    some M
def mS_begin_12 : Nat → Nat → Int32 → Mem → Option Mem
  | 0, _, _, _ => none
  | n + 1, i0, x3, M => mS_begin_12b (mS_begin_12 n) i0 x3 M
def mS_beginb (j12 : Nat → Int32 → Mem → Option Mem) (i0 : Nat) (x1 : Int32) (x2 : Int32) (M : Mem) : Option Mem :=
  let M1 : Mem := up M 19 0 i0 0 x1
  let M2 : Mem := up M1 19 0 i0 1 x2
  j12 i0 0 M2
def mS_begin (i0 : Nat) (x1 : Int32) (x2 : Int32) (M : Mem) : Option Mem := mS_beginb (mS_begin_12 fuel) i0 x1 x2 M
/-! FreeLances.sheet -/
def mF_sheet_49b (x1 : Int32) (x2 : Int32) (x3 : Int32) (M : Mem) : Option (Int32 × Mem) :=
  if x2 = 0 then
    ixx x1 4 fun k1 =>
    if x2 = 0 then
      (mS_begin k1 x2 0 M).bind fun q2 =>
      some (1, q2)
    else
      (mS_begin k1 x2 x3 M).bind fun q3 =>
      some (1, q3)
  else
    if x3 ≤ 24 then
      ixx x1 4 fun k4 =>
      if x2 = 0 then
        (mS_begin k4 x2 0 M).bind fun q5 =>
        some (1, q5)
      else
        (mS_begin k4 x2 x3 M).bind fun q6 =>
        some (1, q6)
    else
      (mF_finding 1 M).bind fun q7 =>
      some (q7.1, q7.2)
def mF_sheet_49 (x1 : Int32) (x2 : Int32) (x3 : Int32) (M : Mem) : Option (Int32 × Mem) := mF_sheet_49b x1 x2 x3 M
def mF_sheetb (j49 : Int32 → Int32 → Int32 → Mem → Option (Int32 × Mem)) (x1 : Int32) (x2 : Int32) (x3 : Int32) (M : Mem) : Option (Int32 × Mem) :=
  (mF_isSheet x1 M).bind fun q1 =>
  if q1.1 = 0 then
    (mF_finding 1 q1.2).bind fun q2 =>
    some (q2.1, q2.2)
  else
    if x2 = 0 then
      if x2 = 0 then
        j49 x1 x2 x3 q1.2
      else
        if x3 < 0 then
          (mF_finding 3 q1.2).bind fun q3 =>
          some (q3.1, q3.2)
        else
          j49 x1 x2 x3 q1.2
    else
      if x2 = 8 then
        if x2 = 0 then
          j49 x1 x2 x3 q1.2
        else
          if x3 < 0 then
            (mF_finding 3 q1.2).bind fun q4 =>
            some (q4.1, q4.2)
          else
            j49 x1 x2 x3 q1.2
      else
        if x2 = 16 then
          if x2 = 0 then
            j49 x1 x2 x3 q1.2
          else
            if x3 < 0 then
              (mF_finding 3 q1.2).bind fun q5 =>
              some (q5.1, q5.2)
            else
              j49 x1 x2 x3 q1.2
        else
          if x2 = 32 then
            if x2 = 0 then
              j49 x1 x2 x3 q1.2
            else
              if x3 < 0 then
                (mF_finding 3 q1.2).bind fun q6 =>
                some (q6.1, q6.2)
              else
                j49 x1 x2 x3 q1.2
          else
            (mF_finding 1 q1.2).bind fun q7 =>
            some (q7.1, q7.2)
def mF_sheet (x1 : Int32) (x2 : Int32) (x3 : Int32) (M : Mem) : Option (Int32 × Mem) := mF_sheetb mF_sheet_49 x1 x2 x3 M
/-! FreeLances$Sheet.cut -/
def mS_cut (i0 : Nat) (x1 : Int32) (M : Mem) : Option (Int32 × Mem) :=
  if (M 19 0 i0 0) = 8 then
    some (x1.toInt8.toInt32, M)
  else
    if (M 19 0 i0 0) = 16 then
      some (x1.toInt16.toInt32, M)
    else
      some (x1, M)
/-! FreeLances.put -/
def mF_put (x1 : Int32) (x2 : Int32) (x3 : Int32) (M : Mem) : Option (Int32 × Mem) :=
  (mF_isSheet x1 M).bind fun q1 =>
  if q1.1 = 0 then
    (mF_finding 1 q1.2).bind fun q2 =>
    some (q2.1, q2.2)
  else
    ixx x1 4 fun k3 =>
    (mS_missing k3 q1.2).bind fun q4 =>
    if q4.1 = 0 then
      (mF_within x2 0 ((q4.2 19 0 k3 1) - 1) q4.2).bind fun q5 =>
      if q5.1 = 0 then
        (mF_finding 1 q5.2).bind fun q6 =>
        some (q6.1, q6.2)
      else
        (mS_cut k3 x3 q5.2).bind fun q7 =>
        ixx x2 24 fun k9 =>
        let M8 : Mem := up q7.2 20 0 k3 k9 q7.1
        some (1, M8)
    else
      (mF_finding 2 q4.2).bind fun q10 =>
      some (q10.1, q10.2)
/-! FreeLances$Sheet.stand -/
def mS_stand (i0 : Nat) (x1 : Int32) (x2 : Int32) (M : Mem) : Option (Int32 × Mem) :=
  if x2 < 0 then
    some (0, M)
  else
    if x1 < 0 then
      some (0, M)
    else
      if x2 ≤ (M 19 0 i0 1) then
        if x1 ≤ ((M 19 0 i0 1) - x2) then
          some (1, M)
        else
          some (0, M)
      else
        some (0, M)
/-! FreeLances.move -/
def mF_move (x1 : Int32) (x2 : Int32) (x3 : Int32) (x4 : Int32) (x5 : Int32) (M : Mem) : Option (Int32 × Mem) :=
  (mF_isSheet x1 M).bind fun q1 =>
  if q1.1 = 0 then
    (mF_finding 1 q1.2).bind fun q2 =>
    some (q2.1, q2.2)
  else
    (mF_isSheet x3 q1.2).bind fun q3 =>
    if q3.1 = 0 then
      (mF_finding 1 q3.2).bind fun q4 =>
      some (q4.1, q4.2)
    else
      ixx x1 4 fun k5 =>
      ixx x3 4 fun k6 =>
      (mS_missing k5 q3.2).bind fun q7 =>
      if q7.1 = 0 then
        (mS_missing k6 q7.2).bind fun q8 =>
        if q8.1 = 0 then
          if (q8.2 19 0 k5 0) = (q8.2 19 0 k6 0) then
            (mS_stand k5 x2 x5 q8.2).bind fun q9 =>
            if q9.1 = 0 then
              (mF_finding 1 q9.2).bind fun q10 =>
              some (q10.1, q10.2)
            else
              (mS_stand k6 x4 x5 q9.2).bind fun q11 =>
              if q11.1 = 0 then
                (mF_finding 1 q11.2).bind fun q12 =>
                some (q12.1, q12.2)
              else
                if x2 < 0 ∨ x4 < 0 ∨ x5 < 0 ∨ 24 < x2.toNatClampNeg + x5.toNatClampNeg ∨ 24 < x4.toNatClampNeg + x5.toNatClampNeg then
                  none
                else
                  let M13 : Mem := cpM q11.2 20 0 k5 x2.toNatClampNeg 0 k6 x4.toNatClampNeg x5.toNatClampNeg
                  some (x5, M13)
          else
            (mF_finding 5 q8.2).bind fun q14 =>
            some (q14.1, q14.2)
        else
          (mF_finding 2 q8.2).bind fun q15 =>
          some (q15.1, q15.2)
      else
        (mF_finding 2 q7.2).bind fun q16 =>
        some (q16.1, q16.2)
/-! FreeLances.image -/
def mF_image (M : Mem) : Option (Int32 × Mem) :=
  (mW_copy 1 0 M).bind fun q1 =>
  let M2 : Mem := up q1 0 0 0 7 ((q1 0 0 0 7) + 1)
  some (M2 0 0 0 7, M2)
/-! FreeLances.restore -/
def mF_restore (M : Mem) : Option (Int32 × Mem) :=
  if (M 0 0 0 7) = 0 then
    (mF_finding 2 M).bind fun q1 =>
    some (q1.1, q1.2)
  else
    (mW_copy 0 1 M).bind fun q2 =>
    some (q2 1 0 0 0, q2)
/-! FreeLances.tell -/
def mF_tell (x1 : Int32) (M : Mem) : Option (Int32 × Mem) :=
  if (M 1 0 0 16) < 20 then
    ixx (M 1 0 0 16) 20 fun k2 =>
    let M1 : Mem := up M 16 0 0 k2 x1
    let M3 : Mem := up M1 1 0 0 16 ((M1 1 0 0 16) + 1)
    some (M3 1 0 0 16, M3)
  else
    (mF_finding 4 M).bind fun q4 =>
    some (q4.1, q4.2)
/-! FreeLances$World.townRowAboveZero -/
def mW_townRowAboveZero_2b (j2 : Nat → Int32 → Mem → Option (Int32 × Mem)) (w0 : Nat) (x1 : Int32) (M : Mem) : Option (Int32 × Mem) :=
  if x1 < (M 1 w0 0 2) then
    ixx ((M 1 w0 0 6) + x1) 20 fun k1 =>
    if (M 16 w0 0 k1) ≤ 0 then
      j2 w0 (x1 + 1) M
    else
      some (1, M)
  else
    some (0, M)
def mW_townRowAboveZero_2 : Nat → Nat → Int32 → Mem → Option (Int32 × Mem)
  | 0, _, _, _ => none
  | n + 1, w0, x1, M => mW_townRowAboveZero_2b (mW_townRowAboveZero_2 n) w0 x1 M
def mW_townRowAboveZerob (j2 : Nat → Int32 → Mem → Option (Int32 × Mem)) (w0 : Nat) (M : Mem) : Option (Int32 × Mem) :=
  j2 w0 0 M
def mW_townRowAboveZero (w0 : Nat) (M : Mem) : Option (Int32 × Mem) := mW_townRowAboveZerob (mW_townRowAboveZero_2 fuel) w0 M
/-! FreeLances$World.rowsAboveCost -/
def mW_rowsAboveCost_12b (j2 : Nat → Int32 → Mem → Option (Int32 × Mem)) (j12 : Nat → Int32 → Int32 → Mem → Option (Int32 × Mem)) (w0 : Nat) (x1 : Int32) (x2 : Int32) (M : Mem) : Option (Int32 × Mem) :=
  if x2 < (M 1 w0 0 2) then
    ixx x1 20 fun k1 =>
    ixx ((M 1 w0 0 6) + x2) 20 fun k2 =>
    let t3 : Int64 := ((M 16 w0 0 k1).toInt64) + ((M 16 w0 0 k2).toInt64)
    ixx x1 5 fun k4 =>
    ixx x2 8 fun k5 =>
    if (lg_cmp t3 ((M 8 w0 k4 k5).toInt64)) ≤ 0 then
      j12 w0 x1 (x2 + 1) M
    else
      some (1, M)
  else
    j2 w0 (x1 + 1) M
def mW_rowsAboveCost_12 (r2 : Nat → Int32 → Mem → Option (Int32 × Mem)) : Nat → Nat → Int32 → Int32 → Mem → Option (Int32 × Mem)
  | 0, _, _, _, _ => none
  | n + 1, w0, x1, x2, M => mW_rowsAboveCost_12b r2 (mW_rowsAboveCost_12 r2 n) w0 x1 x2 M
def mW_rowsAboveCost_2b (j12 : Nat → Int32 → Int32 → Mem → Option (Int32 × Mem)) (w0 : Nat) (x1 : Int32) (M : Mem) : Option (Int32 × Mem) :=
  if x1 < (M 1 w0 0 6) then
    j12 w0 x1 0 M
  else
    some (0, M)
def mW_rowsAboveCost_2 : Nat → Nat → Int32 → Mem → Option (Int32 × Mem)
  | 0, _, _, _ => none
  | n + 1, w0, x1, M => mW_rowsAboveCost_2b (mW_rowsAboveCost_12 (mW_rowsAboveCost_2 n) fuel) w0 x1 M
def mW_rowsAboveCostb (j2 : Nat → Int32 → Mem → Option (Int32 × Mem)) (w0 : Nat) (M : Mem) : Option (Int32 × Mem) :=
  j2 w0 0 M
def mW_rowsAboveCost (w0 : Nat) (M : Mem) : Option (Int32 × Mem) := mW_rowsAboveCostb (mW_rowsAboveCost_2 fuel) w0 M
/-! FreeLances$World.rowsTogether -/
def mW_rowsTogether_4b (j4 : Nat → Int64 → Int32 → Mem → Option (Int64 × Mem)) (w0 : Nat) (x1 : Int64) (x3 : Int32) (M : Mem) : Option (Int64 × Mem) :=
  if x3 < ((M 1 w0 0 6) + (M 1 w0 0 2)) then
    ixx x3 20 fun k1 =>
    j4 w0 (x1 + ((M 16 w0 0 k1).toInt64)) (x3 + 1) M
  else
    some (x1, M)
def mW_rowsTogether_4 : Nat → Nat → Int64 → Int32 → Mem → Option (Int64 × Mem)
  | 0, _, _, _, _ => none
  | n + 1, w0, x1, x3, M => mW_rowsTogether_4b (mW_rowsTogether_4 n) w0 x1 x3 M
def mW_rowsTogetherb (j4 : Nat → Int64 → Int32 → Mem → Option (Int64 × Mem)) (w0 : Nat) (M : Mem) : Option (Int64 × Mem) :=
  j4 w0 0 0 M
def mW_rowsTogether (w0 : Nat) (M : Mem) : Option (Int64 × Mem) := mW_rowsTogetherb (mW_rowsTogether_4 fuel) w0 M
/-! FreeLances.judge -/
def mF_judge (M : Mem) : Option (Int32 × Mem) :=
  let M1 : Mem := up M 1 0 0 16 0
  if (M1 1 0 0 2) < (M1 1 0 0 6) then
    (mF_finding 3 M1).bind fun q2 =>
    some (q2.1, q2.2)
  else
    if (M 1 0 0 16) = ((M1 1 0 0 6) + (M1 1 0 0 2)) then
      (mW_townRowAboveZero 0 M1).bind fun q3 =>
      if q3.1 = 0 then
        (mW_rowsAboveCost 0 q3.2).bind fun q4 =>
        if q4.1 = 0 then
          (mW_rowsTogether 0 q4.2).bind fun q5 =>
          (mP_winterCost 0 q5.2).bind fun q6 =>
          if (lg_cmp q5.1 q6.1.toInt64) = 0 then
            some (0, q6.2)
          else
            some (4, q6.2)
        else
          some (3, q4.2)
      else
        some (2, q3.2)
    else
      some (1, M1)
/-! FreeLances$World.allCoin -/
def mW_allCoin_32b (j32 : Nat → Int32 → Int32 → Mem → Option (Int32 × Mem)) (w0 : Nat) (x1 : Int32) (x2 : Int32) (M : Mem) : Option (Int32 × Mem) :=
  if x2 < (M 1 w0 0 6) then
    ixx x2 5 fun k1 =>
    j32 w0 (x1 + (M 6 w0 k1 0)) (x2 + 1) M
  else
    some (x1, M)
def mW_allCoin_32 : Nat → Nat → Int32 → Int32 → Mem → Option (Int32 × Mem)
  | 0, _, _, _, _ => none
  | n + 1, w0, x1, x2, M => mW_allCoin_32b (mW_allCoin_32 n) w0 x1 x2 M
def mW_allCoin_4b (j4 : Nat → Int32 → Int32 → Mem → Option (Int32 × Mem)) (j32 : Nat → Int32 → Int32 → Mem → Option (Int32 × Mem)) (w0 : Nat) (x1 : Int32) (x2 : Int32) (M : Mem) : Option (Int32 × Mem) :=
  if x2 < (M 1 w0 0 2) then
    ixx x2 8 fun k1 =>
    j4 w0 (x1 + (M 3 w0 k1 0)) (x2 + 1) M
  else
    j32 w0 x1 0 M
def mW_allCoin_4 : Nat → Nat → Int32 → Int32 → Mem → Option (Int32 × Mem)
  | 0, _, _, _, _ => none
  | n + 1, w0, x1, x2, M => mW_allCoin_4b (mW_allCoin_4 n) (mW_allCoin_32 fuel) w0 x1 x2 M
def mW_allCoinb (j4 : Nat → Int32 → Int32 → Mem → Option (Int32 × Mem)) (w0 : Nat) (M : Mem) : Option (Int32 × Mem) :=
  j4 w0 0 0 M
def mW_allCoin (w0 : Nat) (M : Mem) : Option (Int32 × Mem) := mW_allCoinb (mW_allCoin_4 fuel) w0 M
/-! FreeLances$World.allFit -/
def mW_allFit_4b (j4 : Nat → Int32 → Int32 → Mem → Option (Int32 × Mem)) (w0 : Nat) (x1 : Int32) (x2 : Int32) (M : Mem) : Option (Int32 × Mem) :=
  if x2 < (M 1 w0 0 6) then
    ixx x2 5 fun k1 =>
    j4 w0 (x1 + (M 6 w0 k1 6)) (x2 + 1) M
  else
    some (x1, M)
def mW_allFit_4 : Nat → Nat → Int32 → Int32 → Mem → Option (Int32 × Mem)
  | 0, _, _, _, _ => none
  | n + 1, w0, x1, x2, M => mW_allFit_4b (mW_allFit_4 n) w0 x1 x2 M
def mW_allFitb (j4 : Nat → Int32 → Int32 → Mem → Option (Int32 × Mem)) (w0 : Nat) (M : Mem) : Option (Int32 × Mem) :=
  j4 w0 0 0 M
def mW_allFit (w0 : Nat) (M : Mem) : Option (Int32 × Mem) := mW_allFitb (mW_allFit_4 fuel) w0 M
/-! FreeLances$World.clashes -/
def mW_clashes_16b (j4 : Nat → Int32 → Int32 → Mem → Option (Int32 × Mem)) (j16 : Nat → Int32 → Int32 → Int32 → Mem → Option (Int32 × Mem)) (w0 : Nat) (x1 : Int32) (x2 : Int32) (x3 : Int32) (M : Mem) : Option (Int32 × Mem) :=
  if x3 < (M 1 w0 0 12) then
    ixx x2 24 fun k1 =>
    ixx x3 24 fun k2 =>
    (mW_clashDay w0 w0 k1 w0 k2 M).bind fun q3 =>
    if q3.1 < 0 then
      j16 w0 (x1 + 0) x2 (x3 + 1) q3.2
    else
      j16 w0 (x1 + 1) x2 (x3 + 1) q3.2
  else
    j4 w0 x1 (x2 + 1) M
def mW_clashes_16 (r4 : Nat → Int32 → Int32 → Mem → Option (Int32 × Mem)) : Nat → Nat → Int32 → Int32 → Int32 → Mem → Option (Int32 × Mem)
  | 0, _, _, _, _, _ => none
  | n + 1, w0, x1, x2, x3, M => mW_clashes_16b r4 (mW_clashes_16 r4 n) w0 x1 x2 x3 M
def mW_clashes_4b (j16 : Nat → Int32 → Int32 → Int32 → Mem → Option (Int32 × Mem)) (w0 : Nat) (x1 : Int32) (x2 : Int32) (M : Mem) : Option (Int32 × Mem) :=
  if x2 < (M 1 w0 0 12) then
    j16 w0 x1 x2 (x2 + 1) M
  else
    some (x1, M)
def mW_clashes_4 : Nat → Nat → Int32 → Int32 → Mem → Option (Int32 × Mem)
  | 0, _, _, _, _ => none
  | n + 1, w0, x1, x2, M => mW_clashes_4b (mW_clashes_16 (mW_clashes_4 n) fuel) w0 x1 x2 M
def mW_clashesb (j4 : Nat → Int32 → Int32 → Mem → Option (Int32 × Mem)) (w0 : Nat) (M : Mem) : Option (Int32 × Mem) :=
  j4 w0 0 0 M
def mW_clashes (w0 : Nat) (M : Mem) : Option (Int32 × Mem) := mW_clashesb (mW_clashes_4 fuel) w0 M
/-! FreeLances$World.allOwed -/
def mW_allOwed_4b (j4 : Nat → Int32 → Int32 → Mem → Option (Int32 × Mem)) (w0 : Nat) (x1 : Int32) (x2 : Int32) (M : Mem) : Option (Int32 × Mem) :=
  if x2 < (M 1 w0 0 12) then
    ixx x2 24 fun k1 =>
    j4 w0 (x1 + (M 15 w0 k1 8)) (x2 + 1) M
  else
    some (x1, M)
def mW_allOwed_4 : Nat → Nat → Int32 → Int32 → Mem → Option (Int32 × Mem)
  | 0, _, _, _, _ => none
  | n + 1, w0, x1, x2, M => mW_allOwed_4b (mW_allOwed_4 n) w0 x1 x2 M
def mW_allOwedb (j4 : Nat → Int32 → Int32 → Mem → Option (Int32 × Mem)) (w0 : Nat) (M : Mem) : Option (Int32 × Mem) :=
  j4 w0 0 0 M
def mW_allOwed (w0 : Nat) (M : Mem) : Option (Int32 × Mem) := mW_allOwedb (mW_allOwed_4 fuel) w0 M
/-! FreeLances.count -/
def mF_count (x1 : Int32) (M : Mem) : Option (Int32 × Mem) :=
  if x1 = 0 then
    some (M 1 0 0 2, M)
  else
    if x1 = 1 then
      some (M 1 0 0 3, M)
    else
      if x1 = 2 then
        some (M 1 0 0 6, M)
      else
        if x1 = 3 then
          some (M 1 0 0 8, M)
        else
          if x1 = 4 then
            some (M 1 0 0 10, M)
          else
            if x1 = 5 then
              some (M 1 0 0 12, M)
            else
              if x1 = 6 then
                some (M 1 0 0 0, M)
              else
                if x1 = 7 then
                  some (M 1 0 0 14, M)
                else
                  if x1 = 8 then
                    some (M 21 0 0 1, M)
                  else
                    if x1 = 9 then
                      some (M 1 0 0 16, M)
                    else
                      if x1 = 10 then
                        (mW_allCoin 0 M).bind fun q5 =>
                        some (q5.1, q5.2)
                      else
                        if x1 = 11 then
                          (mW_allFit 0 M).bind fun q4 =>
                          some (q4.1, q4.2)
                        else
                          if x1 = 12 then
                            (mW_clashes 0 M).bind fun q3 =>
                            some (q3.1, q3.2)
                          else
                            if x1 = 13 then
                              (mW_allOwed 0 M).bind fun q2 =>
                              some (q2.1, q2.2)
                            else
                              (mF_finding 1 M).bind fun q1 =>
                              some (q1.1, q1.2)
/-! FreeLances.found -/
def mF_found (x1 : Int32) (M : Mem) : Option (Int32 × Mem) :=
  (mF_within x1 1 5 M).bind fun q1 =>
  if q1.1 = 0 then
    (mF_finding 1 q1.2).bind fun q2 =>
    some (q2.1, q2.2)
  else
    ixx x1 6 fun k3 =>
    some (q1.2 26 0 0 k3, q1.2)
/-! FreeLancesModel.in -/
def mK_in (x0 : Int32) (x1 : Int32) (x2 : Int32) (M : Mem) : Option (Int32 × Mem) :=
  if x0 < x1 then
    some (0, M)
  else
    if x0 ≤ x2 then
      some (1, M)
    else
      some (0, M)
/-! FreeLancesModel.finds -/
def mK_finds (x1 : Int32) (M : Mem) : Option (Int32 × Mem) :=
  ixx x1 6 fun k1 =>
  ixx x1 6 fun k3 =>
  let M2 : Mem := up M 44 0 0 k3 ((M 44 0 0 k1) + 1)
  some ((-1000000) - x1, M2)
/-! FreeLancesModel.town -/
def mK_town (x1 : Int32) (x2 : Int32) (M : Mem) : Option (Int32 × Mem) :=
  (mK_in x1 0 99999 M).bind fun q1 =>
  if q1.1 = 0 then
    (mK_finds 1 q1.2).bind fun q2 =>
    some (q2.1, q2.2)
  else
    (mK_in x2 0 99999 q1.2).bind fun q3 =>
    if q3.1 = 0 then
      (mK_finds 1 q3.2).bind fun q4 =>
      some (q4.1, q4.2)
    else
      if (q3.2 41 0 0 0) = 8 then
        (mK_finds 4 q3.2).bind fun q5 =>
        some (q5.1, q5.2)
      else
        let M6 : Mem := up q3.2 41 0 0 0 ((q3.2 41 0 0 0) + 1)
        ixx (20 + (4 * (q3.2 41 0 0 0))) 1502 fun k8 =>
        let M7 : Mem := up M6 41 0 0 k8 x1
        ixx ((20 + (4 * (q3.2 41 0 0 0))) + 1) 1502 fun k10 =>
        let M9 : Mem := up M7 41 0 0 k10 x2
        ixx ((20 + (4 * (q3.2 41 0 0 0))) + 2) 1502 fun k12 =>
        let M11 : Mem := up M9 41 0 0 k12 100
        ixx ((20 + (4 * (q3.2 41 0 0 0))) + 3) 1502 fun k14 =>
        let M13 : Mem := up M11 41 0 0 k14 0
        some (q3.2 41 0 0 0, M13)
/-! FreeLancesModel.isTown -/
def mK_isTown (x1 : Int32) (M : Mem) : Option (Int32 × Mem) :=
  (mK_in x1 0 ((M 41 0 0 0) - 1) M).bind fun q1 =>
  if q1.1 = 0 ∨ q1.1 = 1 then
    some (q1.1, q1.2)
  else
    none
/-! FreeLancesModel.road -/
def mK_road (x1 : Int32) (x2 : Int32) (x3 : Int32) (M : Mem) : Option (Int32 × Mem) :=
  (mK_isTown x1 M).bind fun q1 =>
  if q1.1 = 0 then
    (mK_finds 1 q1.2).bind fun q2 =>
    some (q2.1, q2.2)
  else
    (mK_isTown x2 q1.2).bind fun q3 =>
    if q3.1 = 0 then
      (mK_finds 1 q3.2).bind fun q4 =>
      some (q4.1, q4.2)
    else
      if x1 = x2 then
        (mK_finds 1 q3.2).bind fun q5 =>
        some (q5.1, q5.2)
      else
        (mK_in x3 1 9 q3.2).bind fun q6 =>
        if q6.1 = 0 then
          (mK_finds 1 q6.2).bind fun q7 =>
          some (q7.1, q7.2)
        else
          if (q6.2 41 0 0 1) = 16 then
            (mK_finds 4 q6.2).bind fun q8 =>
            some (q8.1, q8.2)
          else
            let M9 : Mem := up q6.2 41 0 0 1 ((q6.2 41 0 0 1) + 1)
            ixx (52 + (3 * (q6.2 41 0 0 1))) 1502 fun k11 =>
            let M10 : Mem := up M9 41 0 0 k11 x1
            ixx ((52 + (3 * (q6.2 41 0 0 1))) + 1) 1502 fun k13 =>
            let M12 : Mem := up M10 41 0 0 k13 x2
            ixx ((52 + (3 * (q6.2 41 0 0 1))) + 2) 1502 fun k15 =>
            let M14 : Mem := up M12 41 0 0 k15 x3
            some ((q6.2 41 0 0 1) + 1, M14)
/-! FreeLancesModel.farOf -/
def mK_farOf_41b (j32 : Int32 → Int32 → Mem → Option (Int32 × Mem)) (j41 : Int32 → Int32 → Int32 → Mem → Option (Int32 × Mem)) (x2 : Int32) (x3 : Int32) (x4 : Int32) (M : Mem) : Option (Int32 × Mem) :=
  if x4 < (2 * (M 41 0 0 1)) then
    ixx ((52 + (3 * (x4 / 2))) + (x4 - x4 / 2 * 2)) 1502 fun k1 =>
    ixx (((52 + (3 * (x4 / 2))) + 1) - (x4 - x4 / 2 * 2)) 1502 fun k2 =>
    ixx (M 41 0 0 k1) 8 fun k3 =>
    ixx ((52 + (3 * (x4 / 2))) + 2) 1502 fun k4 =>
    ixx (M 41 0 0 k1) 8 fun k5 =>
    if (M 46 0 0 k5) < 0 then
      j41 x2 x3 (x4 + 1) M
    else
      ixx (M 41 0 0 k2) 8 fun k6 =>
      if (M 46 0 0 k6) < 0 then
        ixx (M 41 0 0 k2) 8 fun k8 =>
        let M7 : Mem := up M 46 0 0 k8 ((M 46 0 0 k3) + (M 41 0 0 k4))
        j41 x2 1 (x4 + 1) M7
      else
        ixx (M 41 0 0 k2) 8 fun k9 =>
        if (M 46 0 0 k9) ≤ ((M 46 0 0 k3) + (M 41 0 0 k4)) then
          j41 x2 x3 (x4 + 1) M
        else
          ixx (M 41 0 0 k2) 8 fun k11 =>
          let M10 : Mem := up M 46 0 0 k11 ((M 46 0 0 k3) + (M 41 0 0 k4))
          j41 x2 1 (x4 + 1) M10
  else
    j32 x2 x3 M
def mK_farOf_41 (r32 : Int32 → Int32 → Mem → Option (Int32 × Mem)) : Nat → Int32 → Int32 → Int32 → Mem → Option (Int32 × Mem)
  | 0, _, _, _, _ => none
  | n + 1, x2, x3, x4, M => mK_farOf_41b r32 (mK_farOf_41 r32 n) x2 x3 x4 M
def mK_farOf_32b (j41 : Int32 → Int32 → Int32 → Mem → Option (Int32 × Mem)) (x2 : Int32) (x3 : Int32) (M : Mem) : Option (Int32 × Mem) :=
  if x3 = 0 then
    ixx x2 8 fun k1 =>
    some (M 46 0 0 k1, M)
  else
    j41 x2 0 0 M
def mK_farOf_32 : Nat → Int32 → Int32 → Mem → Option (Int32 × Mem)
  | 0, _, _, _ => none
  | n + 1, x2, x3, M => mK_farOf_32b (mK_farOf_41 (mK_farOf_32 n) fuel) x2 x3 M
def mK_farOf_2b (j2 : Int32 → Int32 → Int32 → Mem → Option (Int32 × Mem)) (j32 : Int32 → Int32 → Mem → Option (Int32 × Mem)) (x1 : Int32) (x2 : Int32) (x3 : Int32) (M : Mem) : Option (Int32 × Mem) :=
  if x3 < 8 then
    if x3 = x1 then
      ixx x3 8 fun k2 =>
      let M1 : Mem := up M 46 0 0 k2 0
      j2 x1 x2 (x3 + 1) M1
    else
      ixx x3 8 fun k4 =>
      let M3 : Mem := up M 46 0 0 k4 (-1)
      j2 x1 x2 (x3 + 1) M3
  else
    j32 x2 1 M
def mK_farOf_2 : Nat → Int32 → Int32 → Int32 → Mem → Option (Int32 × Mem)
  | 0, _, _, _, _ => none
  | n + 1, x1, x2, x3, M => mK_farOf_2b (mK_farOf_2 n) (mK_farOf_32 fuel) x1 x2 x3 M
def mK_farOfb (j2 : Int32 → Int32 → Int32 → Mem → Option (Int32 × Mem)) (x1 : Int32) (x2 : Int32) (M : Mem) : Option (Int32 × Mem) :=
  j2 x1 x2 0 M
def mK_farOf (x1 : Int32) (x2 : Int32) (M : Mem) : Option (Int32 × Mem) := mK_farOfb (mK_farOf_2 fuel) x1 x2 M
/-! FreeLancesModel.far -/
def mK_far (x1 : Int32) (x2 : Int32) (M : Mem) : Option (Int32 × Mem) :=
  (mK_isTown x1 M).bind fun q1 =>
  if q1.1 = 0 then
    (mK_finds 1 q1.2).bind fun q2 =>
    some (q2.1, q2.2)
  else
    (mK_isTown x2 q1.2).bind fun q3 =>
    if q3.1 = 0 then
      (mK_finds 1 q3.2).bind fun q4 =>
      some (q4.1, q4.2)
    else
      (mK_farOf x1 x2 q3.2).bind fun q5 =>
      if q5.1 < 0 then
        (mK_finds 2 q5.2).bind fun q6 =>
        some (q6.1, q6.2)
      else
        some (q5.1, q5.2)
/-! FreeLancesModel.ofTown -/
def mK_ofTown (x1 : Int32) (x2 : Int32) (M : Mem) : Option (Int32 × Mem) :=
  ixx ((20 + (4 * x1)) + x2) 1502 fun k1 =>
  some (M 41 0 0 k1, M)
/-! FreeLancesModel.own -/
def mK_own (x1 : Int32) (x2 : Int32) (M : Mem) : Option (Int32 × Mem) :=
  ixx ((100 + (24 * x1)) + x2) 1502 fun k1 =>
  some (M 41 0 0 k1, M)
/-! FreeLancesModel.townIs -/
def mK_townIs_40b (j40 : Int32 → Int32 → Int32 → Mem → Option (Int32 × Mem)) (x1 : Int32) (x3 : Int32) (x4 : Int32) (M : Mem) : Option (Int32 × Mem) :=
  if x4 < (M 41 0 0 2) then
    (mK_own x4 2 M).bind fun q1 =>
    if q1.1 = x1 then
      j40 x1 (x3 ||| (1 <<< (x4 &&& 31))) (x4 + 1) q1.2
    else
      j40 x1 (x3 ||| 0) (x4 + 1) q1.2
  else
    some (x3, M)
def mK_townIs_40 : Nat → Int32 → Int32 → Int32 → Mem → Option (Int32 × Mem)
  | 0, _, _, _, _ => none
  | n + 1, x1, x3, x4, M => mK_townIs_40b (mK_townIs_40 n) x1 x3 x4 M
def mK_townIsb (j40 : Int32 → Int32 → Int32 → Mem → Option (Int32 × Mem)) (x1 : Int32) (x2 : Int32) (M : Mem) : Option (Int32 × Mem) :=
  (mK_isTown x1 M).bind fun q1 =>
  if q1.1 = 0 then
    (mK_finds 1 q1.2).bind fun q2 =>
    some (q2.1, q2.2)
  else
    (mK_in x2 0 4 q1.2).bind fun q3 =>
    if q3.1 = 0 then
      (mK_finds 1 q3.2).bind fun q4 =>
      some (q4.1, q4.2)
    else
      if x2 < 4 then
        (mK_ofTown x1 x2 q3.2).bind fun q5 =>
        some (q5.1, q5.2)
      else
        j40 x1 0 0 q3.2
def mK_townIs (x1 : Int32) (x2 : Int32) (M : Mem) : Option (Int32 × Mem) := mK_townIsb (mK_townIs_40 fuel) x1 x2 M
/-! FreeLancesModel.wall -/
def mK_wall (x1 : Int32) (x2 : Int32) (x3 : Int32) (M : Mem) : Option (Int32 × Mem) :=
  (mK_isTown x1 M).bind fun q1 =>
  if q1.1 = 0 then
    (mK_finds 1 q1.2).bind fun q2 =>
    some (q2.1, q2.2)
  else
    (mK_in x2 0 999 q1.2).bind fun q3 =>
    if q3.1 = 0 then
      (mK_finds 1 q3.2).bind fun q4 =>
      some (q4.1, q4.2)
    else
      (mK_in x3 0 99 q3.2).bind fun q5 =>
      if q5.1 = 0 then
        (mK_finds 1 q5.2).bind fun q6 =>
        some (q6.1, q6.2)
      else
        ixx ((20 + (4 * x1)) + 2) 1502 fun k8 =>
        let M7 : Mem := up q5.2 41 0 0 k8 x2
        ixx ((20 + (4 * x1)) + 3) 1502 fun k10 =>
        let M9 : Mem := up M7 41 0 0 k10 x3
        some (1, M9)
/-! FreeLancesModel.townGets -/
def mK_townGets (x1 : Int32) (x2 : Int32) (x3 : Int32) (M : Mem) : Option Mem :=
  ixx ((20 + (4 * x1)) + x2) 1502 fun k1 =>
  ixx ((20 + (4 * x1)) + x2) 1502 fun k3 =>
  let M2 : Mem := up M 41 0 0 k3 ((M 41 0 0 k1) + x3)
  some M2
/-! FreeLancesModel.harvest -/
def mK_harvest (x1 : Int32) (x2 : Int32) (M : Mem) : Option (Int32 × Mem) :=
  (mK_isTown x1 M).bind fun q1 =>
  if q1.1 = 0 then
    (mK_finds 1 q1.2).bind fun q2 =>
    some (q2.1, q2.2)
  else
    (mK_in x2 1 9999 q1.2).bind fun q3 =>
    if q3.1 = 0 then
      (mK_finds 1 q3.2).bind fun q4 =>
      some (q4.1, q4.2)
    else
      (mK_ofTown x1 1 q3.2).bind fun q5 =>
      if (q5.1 + x2) ≤ 999999 then
        (mK_townGets x1 1 x2 q5.2).bind fun q6 =>
        (mK_ofTown x1 1 q6).bind fun q7 =>
        some (q7.1, q7.2)
      else
        (mK_finds 4 q5.2).bind fun q8 =>
        some (q8.1, q8.2)
/-! FreeLancesModel.sets -/
def mK_sets (x1 : Int32) (x2 : Int32) (x3 : Int32) (M : Mem) : Option Mem :=
  ixx ((100 + (24 * x1)) + x2) 1502 fun k2 =>
  let M1 : Mem := up M 41 0 0 k2 x3
  some M1
/-! FreeLancesModel.company -/
def mK_company_136b (j136 : Int32 → Int32 → Mem → Option (Int32 × Mem)) (x4 : Int32) (x5 : Int32) (M : Mem) : Option (Int32 × Mem) :=
  if x5 < 8 then
    ixx ((1392 + (8 * x4)) + x5) 1502 fun k2 =>
    let M1 : Mem := up M 41 0 0 k2 0
    j136 x4 (x5 + 1) M1
  else
    some (x4, M)
def mK_company_136 : Nat → Int32 → Int32 → Mem → Option (Int32 × Mem)
  | 0, _, _, _ => none
  | n + 1, x4, x5, M => mK_company_136b (mK_company_136 n) x4 x5 M
def mK_company_69b (j69 : Int32 → Int32 → Int32 → Int32 → Int32 → Mem → Option (Int32 × Mem)) (j136 : Int32 → Int32 → Mem → Option (Int32 × Mem)) (x1 : Int32) (x2 : Int32) (x3 : Int32) (x4 : Int32) (x5 : Int32) (M : Mem) : Option (Int32 × Mem) :=
  if x5 < 24 then
    if x5 = 6 then
      (mK_sets x4 x5 (-1) M).bind fun q1 =>
      j69 x1 x2 x3 x4 (x5 + 1) q1
    else
      if x5 = 7 then
        (mK_sets x4 x5 (-1) M).bind fun q2 =>
        j69 x1 x2 x3 x4 (x5 + 1) q2
      else
        (mK_sets x4 x5 0 M).bind fun q3 =>
        j69 x1 x2 x3 x4 (x5 + 1) q3
  else
    (mK_sets x4 0 x2 M).bind fun q4 =>
    (mK_sets x4 1 x3 q4).bind fun q5 =>
    (mK_sets x4 2 x1 q5).bind fun q6 =>
    j136 x4 0 q6
def mK_company_69 : Nat → Int32 → Int32 → Int32 → Int32 → Int32 → Mem → Option (Int32 × Mem)
  | 0, _, _, _, _, _, _ => none
  | n + 1, x1, x2, x3, x4, x5, M => mK_company_69b (mK_company_69 n) (mK_company_136 fuel) x1 x2 x3 x4 x5 M
def mK_companyb (j69 : Int32 → Int32 → Int32 → Int32 → Int32 → Mem → Option (Int32 × Mem)) (x1 : Int32) (x2 : Int32) (x3 : Int32) (M : Mem) : Option (Int32 × Mem) :=
  (mK_isTown x1 M).bind fun q1 =>
  if q1.1 = 0 then
    (mK_finds 1 q1.2).bind fun q2 =>
    some (q2.1, q2.2)
  else
    (mK_in x2 0 9999 q1.2).bind fun q3 =>
    if q3.1 = 0 then
      (mK_finds 1 q3.2).bind fun q4 =>
      some (q4.1, q4.2)
    else
      (mK_in x3 0 9999 q3.2).bind fun q5 =>
      if q5.1 = 0 then
        (mK_finds 1 q5.2).bind fun q6 =>
        some (q6.1, q6.2)
      else
        if (q5.2 41 0 0 2) = 5 then
          (mK_finds 4 q5.2).bind fun q7 =>
          some (q7.1, q7.2)
        else
          let M8 : Mem := up q5.2 41 0 0 2 ((q5.2 41 0 0 2) + 1)
          j69 x1 x2 x3 (q5.2 41 0 0 2) 0 M8
def mK_company (x1 : Int32) (x2 : Int32) (x3 : Int32) (M : Mem) : Option (Int32 × Mem) := mK_companyb (mK_company_69 fuel) x1 x2 x3 M
/-! FreeLancesModel.isCompany -/
def mK_isCompany (x1 : Int32) (M : Mem) : Option (Int32 × Mem) :=
  (mK_in x1 0 ((M 41 0 0 2) - 1) M).bind fun q1 =>
  if q1.1 = 0 ∨ q1.1 = 1 then
    some (q1.1, q1.2)
  else
    none
/-! FreeLancesModel.march -/
def mK_march (x1 : Int32) (x2 : Int32) (M : Mem) : Option (Int32 × Mem) :=
  (mK_isCompany x1 M).bind fun q1 =>
  if q1.1 = 0 then
    (mK_finds 1 q1.2).bind fun q2 =>
    some (q2.1, q2.2)
  else
    (mK_isTown x2 q1.2).bind fun q3 =>
    if q3.1 = 0 then
      (mK_finds 1 q3.2).bind fun q4 =>
      some (q4.1, q4.2)
    else
      (mK_own x1 2 q3.2).bind fun q5 =>
      if q5.1 < 0 then
        (mK_finds 3 q5.2).bind fun q6 =>
        some (q6.1, q6.2)
      else
        (mK_own x1 2 q5.2).bind fun q7 =>
        if q7.1 = x2 then
          (mK_finds 3 q7.2).bind fun q8 =>
          some (q8.1, q8.2)
        else
          (mK_own x1 2 q7.2).bind fun q9 =>
          (mK_farOf q9.1 x2 q9.2).bind fun q10 =>
          if q10.1 < 0 then
            (mK_finds 2 q10.2).bind fun q11 =>
            some (q11.1, q11.2)
          else
            (mK_sets x1 2 (-1) q10.2).bind fun q12 =>
            (mK_sets x1 3 x2 q12).bind fun q13 =>
            (mK_sets x1 4 ((q13 41 0 0 6) + q10.1) q13).bind fun q14 =>
            some ((q14 41 0 0 6) + q10.1, q14)
/-! FreeLancesModel.buy -/
def mK_buy (x1 : Int32) (x2 : Int32) (M : Mem) : Option (Int32 × Mem) :=
  (mK_isCompany x1 M).bind fun q1 =>
  if q1.1 = 0 then
    (mK_finds 1 q1.2).bind fun q2 =>
    some (q2.1, q2.2)
  else
    (mK_in x2 1 9999 q1.2).bind fun q3 =>
    if q3.1 = 0 then
      (mK_finds 1 q3.2).bind fun q4 =>
      some (q4.1, q4.2)
    else
      (mK_own x1 2 q3.2).bind fun q5 =>
      if q5.1 < 0 then
        (mK_finds 3 q5.2).bind fun q6 =>
        some (q6.1, q6.2)
      else
        (mK_own x1 0 q5.2).bind fun q7 =>
        if q7.1 < x2 then
          (mK_finds 2 q7.2).bind fun q8 =>
          some (q8.1, q8.2)
        else
          (mK_ofTown q5.1 1 q7.2).bind fun q9 =>
          if q9.1 < x2 then
            (mK_finds 2 q9.2).bind fun q10 =>
            some (q10.1, q10.2)
          else
            (mK_townGets q5.1 0 x2 q9.2).bind fun q11 =>
            (mK_townGets q5.1 1 (-x2) q11).bind fun q12 =>
            (mK_own x1 0 q12).bind fun q13 =>
            (mK_sets x1 0 (q13.1 - x2) q13.2).bind fun q14 =>
            (mK_own x1 1 q14).bind fun q15 =>
            (mK_sets x1 1 (q15.1 + x2) q15.2).bind fun q16 =>
            (mK_own x1 1 q16).bind fun q17 =>
            some (q17.1, q17.2)
/-! FreeLancesModel.its -/
def mK_its (x1 : Int32) (x2 : Int32) (M : Mem) : Option (Int32 × Mem) :=
  ixx ((220 + (5 * x1)) + x2) 1502 fun k1 =>
  some (M 41 0 0 k1, M)
/-! FreeLancesModel.manySo -/
def mK_manySo_5b (j5 : Int32 → Int32 → Int32 → Int32 → Mem → Option (Int32 × Mem)) (x1 : Int32) (x2 : Int32) (x3 : Int32) (x4 : Int32) (M : Mem) : Option (Int32 × Mem) :=
  if x4 < (M 41 0 0 3) then
    (mK_its x4 0 M).bind fun q1 =>
    if q1.1 = x1 then
      (mK_its x4 3 q1.2).bind fun q2 =>
      if q2.1 = x2 then
        j5 x1 x2 (x3 + 1) (x4 + 1) q2.2
      else
        j5 x1 x2 (x3 + 0) (x4 + 1) q2.2
    else
      j5 x1 x2 (x3 + 0) (x4 + 1) q1.2
  else
    some (x3, M)
def mK_manySo_5 : Nat → Int32 → Int32 → Int32 → Int32 → Mem → Option (Int32 × Mem)
  | 0, _, _, _, _, _ => none
  | n + 1, x1, x2, x3, x4, M => mK_manySo_5b (mK_manySo_5 n) x1 x2 x3 x4 M
def mK_manySob (j5 : Int32 → Int32 → Int32 → Int32 → Mem → Option (Int32 × Mem)) (x1 : Int32) (x2 : Int32) (M : Mem) : Option (Int32 × Mem) :=
  j5 x1 x2 0 0 M
def mK_manySo (x1 : Int32) (x2 : Int32) (M : Mem) : Option (Int32 × Mem) := mK_manySob (mK_manySo_5 fuel) x1 x2 M
/-! FreeLancesModel.bond -/
def mK_bond (x1 : Int32) (x2 : Int32) (M : Mem) : Option (Int32 × Mem) :=
  ixx ((1056 + (14 * x1)) + x2) 1502 fun k1 =>
  some (M 41 0 0 k1, M)
/-! FreeLancesModel.isContract -/
def mK_isContract (x1 : Int32) (M : Mem) : Option (Int32 × Mem) :=
  (mK_bond x1 0 M).bind fun q1 =>
  if q1.1 = 1 then
    some (1, q1.2)
  else
    (mK_bond x1 0 q1.2).bind fun q2 =>
    if q2.1 = 2 then
      some (1, q2.2)
    else
      some (0, q2.2)
/-! FreeLancesModel.isIn -/
def mK_isIn (x1 : Int32) (x2 : Int32) (M : Mem) : Option (Int32 × Mem) :=
  (mK_bond x1 2 M).bind fun q1 =>
  (mK_bond x1 3 q1.2).bind fun q2 =>
  (mK_in x2 q1.1 q2.1 q2.2).bind fun q3 =>
  if q3.1 = 0 then
    some (0, q3.2)
  else
    if x2 < 0 then
      some (0, q3.2)
    else
      some (1, q3.2)
/-! FreeLancesModel.servedOn -/
def mK_servedOn_2b (j2 : Int32 → Int32 → Int32 → Mem → Option (Int32 × Mem)) (x1 : Int32) (x2 : Int32) (x3 : Int32) (M : Mem) : Option (Int32 × Mem) :=
  if x3 < (M 41 0 0 5) then
    (mK_isContract x3 M).bind fun q1 =>
    if q1.1 = 0 then
      j2 x1 x2 (x3 + 1) q1.2
    else
      (mK_bond x3 1 q1.2).bind fun q2 =>
      if q2.1 = x1 then
        (mK_isIn x3 x2 q2.2).bind fun q3 =>
        if q3.1 = 0 then
          j2 x1 x2 (x3 + 1) q3.2
        else
          (mK_bond x3 5 q3.2).bind fun q4 =>
          some (q4.1, q4.2)
      else
        j2 x1 x2 (x3 + 1) q2.2
  else
    some ((-1), M)
def mK_servedOn_2 : Nat → Int32 → Int32 → Int32 → Mem → Option (Int32 × Mem)
  | 0, _, _, _, _ => none
  | n + 1, x1, x2, x3, M => mK_servedOn_2b (mK_servedOn_2 n) x1 x2 x3 M
def mK_servedOnb (j2 : Int32 → Int32 → Int32 → Mem → Option (Int32 × Mem)) (x1 : Int32) (x2 : Int32) (M : Mem) : Option (Int32 × Mem) :=
  j2 x1 x2 0 M
def mK_servedOn (x1 : Int32) (x2 : Int32) (M : Mem) : Option (Int32 × Mem) := mK_servedOnb (mK_servedOn_2 fuel) x1 x2 M
/-! FreeLancesModel.about -/
def mK_about (x1 : Int32) (x2 : Int32) (M : Mem) : Option (Int32 × Mem) :=
  (mK_isCompany x1 M).bind fun q1 =>
  if q1.1 = 0 then
    (mK_finds 1 q1.2).bind fun q2 =>
    some (q2.1, q2.2)
  else
    if x2 = 0 then
      (mK_own x1 2 q1.2).bind fun q12 =>
      some (q12.1, q12.2)
    else
      if x2 = 1 then
        (mK_own x1 0 q1.2).bind fun q11 =>
        some (q11.1, q11.2)
      else
        if x2 = 2 then
          (mK_own x1 1 q1.2).bind fun q10 =>
          some (q10.1, q10.2)
        else
          if x2 = 3 then
            (mK_own x1 5 q1.2).bind fun q9 =>
            some (q9.1, q9.2)
          else
            if x2 = 4 then
              (mK_manySo x1 0 q1.2).bind fun q8 =>
              some (q8.1, q8.2)
            else
              if x2 = 5 then
                (mK_manySo x1 1 q1.2).bind fun q7 =>
                some (q7.1, q7.2)
              else
                if x2 = 6 then
                  (mK_servedOn x1 (q1.2 41 0 0 6) q1.2).bind fun q6 =>
                  some (q6.1, q6.2)
                else
                  if x2 = 7 then
                    (mK_own x1 6 q1.2).bind fun q5 =>
                    some (q5.1, q5.2)
                  else
                    if x2 = 8 then
                      (mK_own x1 7 q1.2).bind fun q4 =>
                      some (q4.1, q4.2)
                    else
                      (mK_finds 1 q1.2).bind fun q3 =>
                      some (q3.1, q3.2)
/-! FreeLancesModel.lance -/
def mK_lance (x1 : Int32) (x2 : Int32) (x3 : Int32) (M : Mem) : Option (Int32 × Mem) :=
  (mK_isCompany x1 M).bind fun q1 =>
  if q1.1 = 0 then
    (mK_finds 1 q1.2).bind fun q2 =>
    some (q2.1, q2.2)
  else
    (mK_in x2 0 99 q1.2).bind fun q3 =>
    if q3.1 = 0 then
      (mK_finds 1 q3.2).bind fun q4 =>
      some (q4.1, q4.2)
    else
      (mK_in x3 100 180 q3.2).bind fun q5 =>
      if q5.1 = 0 then
        (mK_finds 1 q5.2).bind fun q6 =>
        some (q6.1, q6.2)
      else
        if (q5.2 41 0 0 3) = 40 then
          (mK_finds 4 q5.2).bind fun q7 =>
          some (q7.1, q7.2)
        else
          let M8 : Mem := up q5.2 41 0 0 3 ((q5.2 41 0 0 3) + 1)
          ixx (220 + (5 * (q5.2 41 0 0 3))) 1502 fun k10 =>
          let M9 : Mem := up M8 41 0 0 k10 x1
          ixx ((220 + (5 * (q5.2 41 0 0 3))) + 1) 1502 fun k12 =>
          let M11 : Mem := up M9 41 0 0 k12 x2
          ixx ((220 + (5 * (q5.2 41 0 0 3))) + 2) 1502 fun k14 =>
          let M13 : Mem := up M11 41 0 0 k14 x3
          ixx ((220 + (5 * (q5.2 41 0 0 3))) + 3) 1502 fun k16 =>
          let M15 : Mem := up M13 41 0 0 k16 0
          ixx ((220 + (5 * (q5.2 41 0 0 3))) + 4) 1502 fun k18 =>
          let M17 : Mem := up M15 41 0 0 k18 (-1)
          some (q5.2 41 0 0 3, M17)
/-! FreeLancesModel.isLance -/
def mK_isLance (x1 : Int32) (M : Mem) : Option (Int32 × Mem) :=
  (mK_in x1 0 ((M 41 0 0 3) - 1) M).bind fun q1 =>
  if q1.1 = 0 ∨ q1.1 = 1 then
    some (q1.1, q1.2)
  else
    none
/-! FreeLancesModel.lanceIs -/
def mK_lanceIs (x1 : Int32) (x2 : Int32) (M : Mem) : Option (Int32 × Mem) :=
  (mK_isLance x1 M).bind fun q1 =>
  if q1.1 = 0 then
    (mK_finds 1 q1.2).bind fun q2 =>
    some (q2.1, q2.2)
  else
    (mK_in x2 0 4 q1.2).bind fun q3 =>
    if q3.1 = 0 then
      (mK_finds 1 q3.2).bind fun q4 =>
      some (q4.1, q4.2)
    else
      (mK_its x1 x2 q3.2).bind fun q5 =>
      some (q5.1, q5.2)
/-! FreeLancesModel.inForce -/
def mK_inForce_5b (j5 : Int32 → Int32 → Int32 → Int32 → Mem → Option (Int32 × Mem)) (x1 : Int32) (x2 : Int32) (x3 : Int32) (x4 : Int32) (M : Mem) : Option (Int32 × Mem) :=
  if x4 < (M 41 0 0 4) then
    ixx (420 + (53 * x4)) 1502 fun k1 =>
    if (M 41 0 0 k1) = x1 then
      ixx ((420 + (53 * x4)) + 1) 1502 fun k2 =>
      if (M 41 0 0 k2) ≤ x2 then
        j5 x1 x2 x4 (x4 + 1) M
      else
        j5 x1 x2 x3 (x4 + 1) M
    else
      j5 x1 x2 x3 (x4 + 1) M
  else
    some (x3, M)
def mK_inForce_5 : Nat → Int32 → Int32 → Int32 → Int32 → Mem → Option (Int32 × Mem)
  | 0, _, _, _, _, _ => none
  | n + 1, x1, x2, x3, x4, M => mK_inForce_5b (mK_inForce_5 n) x1 x2 x3 x4 M
def mK_inForceb (j5 : Int32 → Int32 → Int32 → Int32 → Mem → Option (Int32 × Mem)) (x1 : Int32) (x2 : Int32) (M : Mem) : Option (Int32 × Mem) :=
  j5 x1 x2 (-1) 0 M
def mK_inForce (x1 : Int32) (x2 : Int32) (M : Mem) : Option (Int32 × Mem) := mK_inForceb (mK_inForce_5 fuel) x1 x2 M
/-! FreeLancesModel.done -/
def mK_done (x0 : Int32) (x1 : Int32) (x2 : Int32) (M : Mem) : Option (Int32 × Mem) :=
  if x0 = 38 then
    if x1 = 0 then
      some (0, M)
    else
      if x2 = 0 then
        some (0, M)
      else
        some (1, M)
  else
    if x0 = 42 then
      some (x1 * x2, M)
    else
      if x0 = 43 then
        some (x1 + x2, M)
      else
        if x0 = 45 then
          some (x1 - x2, M)
        else
          if x0 = 60 then
            if x1 < x2 then
              some (1, M)
            else
              some (0, M)
          else
            if x0 = 61 then
              if x1 = x2 then
                some (1, M)
              else
                some (0, M)
            else
              if x0 = 62 then
                if x1 ≤ x2 then
                  some (0, M)
                else
                  some (1, M)
              else
                if x0 = 124 then
                  if x1 = 0 then
                    if x2 = 0 then
                      some (0, M)
                    else
                      some (1, M)
                  else
                    some (1, M)
                else
                  if x2 = 0 then
                    some (0, M)
                  else
                    if x2 = 0 then
                      none
                    else
                      some (x1 / x2, M)
/-! FreeLancesModel.comesTo -/
def mK_comesTo_41b (j41 : Int32 → Int32 → Int32 → Mem → Option (Int32 × Mem)) (x5 : Int32) (x6 : Int32) (x7 : Int32) (M : Mem) : Option (Int32 × Mem) :=
  ixx (x6 - 1) 1502 fun k1 =>
  if x7 < (x6 + (M 41 0 0 k1)) then
    ixx x7 1502 fun k2 =>
    if (M 41 0 0 k2) ≤ (-100) then
      if (M 41 0 0 k2) = (-133) then
        ixx (x5 - 1) 50 fun k3 =>
        if (M 49 0 0 k3) = 0 then
          ixx (x5 - 1) 50 fun k5 =>
          let M4 : Mem := up M 49 0 0 k5 1
          j41 x5 x6 (x7 + 1) M4
        else
          ixx (x5 - 1) 50 fun k7 =>
          let M6 : Mem := up M 49 0 0 k7 0
          j41 x5 x6 (x7 + 1) M6
      else
        ixx ((x5 + (-1)) - 1) 50 fun k8 =>
        ixx (x5 + (-1)) 50 fun k9 =>
        (mK_done ((-100) - (M 41 0 0 k2)) (M 49 0 0 k8) (M 49 0 0 k9) M).bind fun q10 =>
        ixx ((x5 + (-1)) - 1) 50 fun k12 =>
        let M11 : Mem := up q10.2 49 0 0 k12 q10.1
        j41 (x5 + (-1)) x6 (x7 + 1) M11
    else
      if (M 41 0 0 k2) < 0 then
        ixx ((-1) - (M 41 0 0 k2)) 3 fun k13 =>
        ixx x5 50 fun k15 =>
        let M14 : Mem := up M 49 0 0 k15 (M 50 0 0 k13)
        j41 (x5 + 1) x6 (x7 + 1) M14
      else
        ixx x5 50 fun k17 =>
        let M16 : Mem := up M 49 0 0 k17 (M 41 0 0 k2)
        j41 (x5 + 1) x6 (x7 + 1) M16
  else
    some (M 49 0 0 0, M)
def mK_comesTo_41 : Nat → Int32 → Int32 → Int32 → Mem → Option (Int32 × Mem)
  | 0, _, _, _, _ => none
  | n + 1, x5, x6, x7, M => mK_comesTo_41b (mK_comesTo_41 n) x5 x6 x7 M
def mK_comesTob (j41 : Int32 → Int32 → Int32 → Mem → Option (Int32 × Mem)) (x1 : Int32) (x2 : Int32) (x3 : Int32) (x4 : Int32) (M : Mem) : Option (Int32 × Mem) :=
  let M1 : Mem := up M 50 0 0 0 x2
  let M2 : Mem := up M1 50 0 0 1 x3
  let M3 : Mem := up M2 50 0 0 2 x4
  j41 0 ((420 + (53 * x1)) + 3) ((420 + (53 * x1)) + 3) M3
def mK_comesTo (x1 : Int32) (x2 : Int32) (x3 : Int32) (x4 : Int32) (M : Mem) : Option (Int32 × Mem) := mK_comesTob (mK_comesTo_41 fuel) x1 x2 x3 x4 M
/-! FreeLancesModel.mayLeave -/
def mK_mayLeave_32b (j32 : Int32 → Int32 → Int32 → Mem → Option (Int32 × Mem)) (x1 : Int32) (x2 : Int32) (x3 : Int32) (M : Mem) : Option (Int32 × Mem) :=
  if x3 < (M 41 0 0 5) then
    (mK_isContract x3 M).bind fun q1 =>
    if q1.1 = 0 then
      j32 x1 x2 (x3 + 1) q1.2
    else
      (mK_bond x3 1 q1.2).bind fun q2 =>
      if q2.1 = x1 then
        (mK_bond x3 8 q2.2).bind fun q3 =>
        if q3.1 = 0 then
          j32 x1 x2 (x3 + 1) q3.2
        else
          (mK_bond x3 9 q3.2).bind fun q4 =>
          if x2 < 0 then
            if ((q3.2 41 0 0 6) - q4.1) ≤ 60 then
              j32 x1 x2 (x3 + 1) q4.2
            else
              some (1, q4.2)
          else
            (mK_bond x3 8 q4.2).bind fun q5 =>
            (mK_comesTo x2 ((q3.2 41 0 0 6) - q4.1) q5.1 0 q5.2).bind fun q6 =>
            if q6.1 = 0 then
              j32 x1 x2 (x3 + 1) q6.2
            else
              some (1, q6.2)
      else
        j32 x1 x2 (x3 + 1) q2.2
  else
    some (0, M)
def mK_mayLeave_32 : Nat → Int32 → Int32 → Int32 → Mem → Option (Int32 × Mem)
  | 0, _, _, _, _ => none
  | n + 1, x1, x2, x3, M => mK_mayLeave_32b (mK_mayLeave_32 n) x1 x2 x3 M
def mK_mayLeaveb (j32 : Int32 → Int32 → Int32 → Mem → Option (Int32 × Mem)) (x1 : Int32) (M : Mem) : Option (Int32 × Mem) :=
  (mK_servedOn x1 (M 41 0 0 6) M).bind fun q1 =>
  if q1.1 < 0 then
    some (1, q1.2)
  else
    (mK_inForce 2 (q1.2 41 0 0 6) q1.2).bind fun q2 =>
    j32 x1 q2.1 0 q2.2
def mK_mayLeave (x1 : Int32) (M : Mem) : Option (Int32 × Mem) := mK_mayLeaveb (mK_mayLeave_32 fuel) x1 M
/-! FreeLancesModel.over -/
def mK_over (x1 : Int32) (x2 : Int32) (M : Mem) : Option (Int32 × Mem) :=
  (mK_isLance x1 M).bind fun q1 =>
  if q1.1 = 0 then
    (mK_finds 1 q1.2).bind fun q2 =>
    some (q2.1, q2.2)
  else
    (mK_isCompany x2 q1.2).bind fun q3 =>
    if q3.1 = 0 then
      (mK_finds 1 q3.2).bind fun q4 =>
      some (q4.1, q4.2)
    else
      (mK_its x1 0 q3.2).bind fun q5 =>
      if q5.1 = x2 then
        (mK_finds 1 q5.2).bind fun q6 =>
        some (q6.1, q6.2)
      else
        (mK_its x1 0 q5.2).bind fun q7 =>
        (mK_its x1 3 q7.2).bind fun q8 =>
        if q8.1 ≤ 1 then
          (mK_mayLeave q7.1 q8.2).bind fun q9 =>
          if q9.1 = 0 then
            (mK_finds 3 q9.2).bind fun q10 =>
            some (q10.1, q10.2)
          else
            (mK_own q7.1 2 q9.2).bind fun q11 =>
            if q11.1 < 0 then
              (mK_finds 3 q11.2).bind fun q12 =>
              some (q12.1, q12.2)
            else
              (mK_own q7.1 2 q11.2).bind fun q13 =>
              (mK_own x2 2 q13.2).bind fun q14 =>
              if q13.1 = q14.1 then
                ixx (220 + (5 * x1)) 1502 fun k16 =>
                let M15 : Mem := up q14.2 41 0 0 k16 x2
                some (q7.1, M15)
              else
                (mK_finds 3 q14.2).bind fun q17 =>
                some (q17.1, q17.2)
        else
          (mK_finds 3 q8.2).bind fun q18 =>
          some (q18.1, q18.2)
/-! FreeLancesModel.turns -/
def mK_turns (x1 : Int32) (x2 : Int32) (M : Mem) : Option Mem :=
  ixx ((220 + (5 * x1)) + 3) 1502 fun k2 =>
  let M1 : Mem := up M 41 0 0 k2 x2
  some M1
/-! FreeLancesModel.take -/
def mK_take (x1 : Int32) (x2 : Int32) (M : Mem) : Option (Int32 × Mem) :=
  (mK_isTown x1 M).bind fun q1 =>
  if q1.1 = 0 then
    (mK_finds 1 q1.2).bind fun q2 =>
    some (q2.1, q2.2)
  else
    (mK_isLance x2 q1.2).bind fun q3 =>
    if q3.1 = 0 then
      (mK_finds 1 q3.2).bind fun q4 =>
      some (q4.1, q4.2)
    else
      (mK_its x2 3 q3.2).bind fun q5 =>
      if q5.1 ≤ 1 then
        (mK_its x2 0 q5.2).bind fun q6 =>
        (mK_own q6.1 2 q6.2).bind fun q7 =>
        if q7.1 = x1 then
          (mK_finds 3 q7.2).bind fun q8 =>
          some (q8.1, q8.2)
        else
          (mK_turns x2 2 q7.2).bind fun q9 =>
          ixx ((220 + (5 * x2)) + 4) 1502 fun k11 =>
          let M10 : Mem := up q9 41 0 0 k11 x1
          some (1, M10)
      else
        (mK_finds 3 q5.2).bind fun q12 =>
        some (q12.1, q12.2)
/-! FreeLancesModel.feed -/
def mK_feed_39b (j39 : Int64 → Int32 → Int32 → Mem → Option (Int32 × Mem)) (x1 : Int64) (x3 : Int32) (x4 : Int32) (M : Mem) : Option (Int32 × Mem) :=
  if x4 < x3 then
    ixx (1432 + (M 41 0 0 7)) 1502 fun k2 =>
    let M1 : Mem := up M 41 0 0 k2 (((x1 >>> ((8 * x4).toInt64 &&& 63)) &&& 255).toInt32)
    let M3 : Mem := up M1 41 0 0 7 ((M1 41 0 0 7) + 1)
    j39 x1 x3 (x4 + 1) M3
  else
    some (M 41 0 0 7, M)
def mK_feed_39 : Nat → Int64 → Int32 → Int32 → Mem → Option (Int32 × Mem)
  | 0, _, _, _, _ => none
  | n + 1, x1, x3, x4, M => mK_feed_39b (mK_feed_39 n) x1 x3 x4 M
def mK_feedb (j39 : Int64 → Int32 → Int32 → Mem → Option (Int32 × Mem)) (x1 : Int64) (x3 : Int32) (M : Mem) : Option (Int32 × Mem) :=
  (mK_in x3 1 8 M).bind fun q1 =>
  if q1.1 = 0 then
    (mK_finds 1 q1.2).bind fun q2 =>
    some (q2.1, q2.2)
  else
    if ((q1.2 41 0 0 7) + x3) ≤ 50 then
      j39 x1 x3 0 q1.2
    else
      (mK_finds 4 q1.2).bind fun q3 =>
      some (q3.1, q3.2)
def mK_feed (x1 : Int64) (x3 : Int32) (M : Mem) : Option (Int32 × Mem) := mK_feedb (mK_feed_39 fuel) x1 x3 M
/-! FreeLancesModel.isDay -/
def mK_isDay (x0 : Int32) (M : Mem) : Option (Int32 × Mem) :=
  (mK_in x0 0 3000 M).bind fun q1 =>
  if q1.1 = 0 ∨ q1.1 = 1 then
    some (q1.1, q1.2)
  else
    none
/-! FreeLancesModel.byteAt -/
def mK_byteAt (x1 : Int32) (M : Mem) : Option (Int32 × Mem) :=
  if x1 < (M 41 0 0 7) then
    ixx (1432 + x1) 1502 fun k1 =>
    some (M 41 0 0 k1, M)
  else
    some ((-1), M)
/-! FreeLancesModel.openMany -/
def mK_openMany_4b (j4 : Int32 → Int32 → Mem → Option (Int32 × Mem)) (x1 : Int32) (x2 : Int32) (M : Mem) : Option (Int32 × Mem) :=
  if x2 < (M 40 0 0 11) then
    ixx x2 50 fun k1 =>
    if (M 48 0 0 k1) = 33 then
      j4 (x1 + 1) (x2 + 1) M
    else
      ixx x2 50 fun k2 =>
      if (M 48 0 0 k2) = 40 then
        j4 (x1 + 1) (x2 + 1) M
      else
        j4 (x1 + 0) (x2 + 1) M
  else
    some (x1, M)
def mK_openMany_4 : Nat → Int32 → Int32 → Mem → Option (Int32 × Mem)
  | 0, _, _, _ => none
  | n + 1, x1, x2, M => mK_openMany_4b (mK_openMany_4 n) x1 x2 M
def mK_openManyb (j4 : Int32 → Int32 → Mem → Option (Int32 × Mem)) (M : Mem) : Option (Int32 × Mem) :=
  j4 0 0 M
def mK_openMany (M : Mem) : Option (Int32 × Mem) := mK_openManyb (mK_openMany_4 fuel) M
/-! FreeLancesModel.nameOf -/
def mK_nameOf (x0 : Int32) (x1 : Int32) (M : Mem) : Option (Int32 × Mem) :=
  if x0 = 0 then
    if x1 = 104 then
      some (1, M)
    else
      if x1 = 109 then
        some (2, M)
      else
        if x1 = 115 then
          some (3, M)
        else
          some (0, M)
  else
    if x0 = 1 then
      if x1 = 110 then
        some (1, M)
      else
        if x1 = 112 then
          some (2, M)
        else
          some (0, M)
    else
      if x0 = 2 then
        if x1 = 108 then
          some (1, M)
        else
          if x1 = 111 then
            some (2, M)
          else
            some (0, M)
      else
        if x1 = 99 then
          some (1, M)
        else
          some (0, M)
/-! FreeLancesModel.lays -/
def mK_lays (x1 : Int32) (M : Mem) : Option Mem :=
  ixx (M 40 0 0 10) 50 fun k2 =>
  let M1 : Mem := up M 47 0 0 k2 x1
  let M3 : Mem := up M1 40 0 0 10 ((M1 40 0 0 10) + 1)
  some M3
/-! FreeLancesModel.isDigit -/
def mK_isDigit (x0 : Int32) (M : Mem) : Option (Int32 × Mem) :=
  if x0 < 48 then
    some (0, M)
  else
    if x0 ≤ 57 then
      some (1, M)
    else
      some (0, M)
/-! FreeLancesModel.readsOne -/
def mK_readsOne_101b (j101 : Int32 → Int32 → Mem → Option (Int32 × Mem)) (x3 : Int32) (x4 : Int32) (M : Mem) : Option (Int32 × Mem) :=
  (mK_byteAt (M 40 0 0 12) M).bind fun q1 =>
  (mK_isDigit q1.1 q1.2).bind fun q2 =>
  if q2.1 = 0 then
    (mK_lays x3 q2.2).bind fun q3 =>
    if (q3 40 0 0 12) ≤ x4 then
      some (0, q3)
    else
      (mK_byteAt (q3 40 0 0 12) q3).bind fun q4 =>
      (mK_isDigit q4.1 q4.2).bind fun q5 =>
      if q5.1 = 0 then
        some (1, q5.2)
      else
        some (0, q5.2)
  else
    if ((q2.2 40 0 0 12) - x4) < 4 then
      (mK_byteAt (q2.2 40 0 0 12) q2.2).bind fun q6 =>
      let M7 : Mem := up q6.2 40 0 0 12 ((q6.2 40 0 0 12) + 1)
      j101 (((10 * x3) + q6.1) - 48) x4 M7
    else
      (mK_lays x3 q2.2).bind fun q8 =>
      if (q8 40 0 0 12) ≤ x4 then
        some (0, q8)
      else
        (mK_byteAt (q8 40 0 0 12) q8).bind fun q9 =>
        (mK_isDigit q9.1 q9.2).bind fun q10 =>
        if q10.1 = 0 then
          some (1, q10.2)
        else
          some (0, q10.2)
def mK_readsOne_101 : Nat → Int32 → Int32 → Mem → Option (Int32 × Mem)
  | 0, _, _, _ => none
  | n + 1, x3, x4, M => mK_readsOne_101b (mK_readsOne_101 n) x3 x4 M
def mK_readsOneb (j101 : Int32 → Int32 → Mem → Option (Int32 × Mem)) (x1 : Int32) (M : Mem) : Option (Int32 × Mem) :=
  (mK_byteAt (M 40 0 0 12) M).bind fun q1 =>
  if q1.1 = 33 then
    (mK_openMany q1.2).bind fun q2 =>
    if q2.1 = 5 then
      some (0, q2.2)
    else
      ixx (q2.2 40 0 0 11) 50 fun k4 =>
      let M3 : Mem := up q2.2 48 0 0 k4 q1.1
      let M5 : Mem := up M3 40 0 0 11 ((M3 40 0 0 11) + 1)
      let M6 : Mem := up M5 40 0 0 12 ((M5 40 0 0 12) + 1)
      some (2, M6)
  else
    if q1.1 = 40 then
      (mK_openMany q1.2).bind fun q7 =>
      if q7.1 = 5 then
        some (0, q7.2)
      else
        ixx (q7.2 40 0 0 11) 50 fun k9 =>
        let M8 : Mem := up q7.2 48 0 0 k9 q1.1
        let M10 : Mem := up M8 40 0 0 11 ((M8 40 0 0 11) + 1)
        let M11 : Mem := up M10 40 0 0 12 ((M10 40 0 0 12) + 1)
        some (2, M11)
    else
      (mK_nameOf x1 q1.1 q1.2).bind fun q12 =>
      if q12.1 ≤ 0 then
        j101 0 (q12.2 40 0 0 12) q12.2
      else
        (mK_nameOf x1 q1.1 q12.2).bind fun q13 =>
        (mK_lays (-q13.1) q13.2).bind fun q14 =>
        let M15 : Mem := up q14 40 0 0 12 ((q14 40 0 0 12) + 1)
        some (1, M15)
def mK_readsOne (x1 : Int32) (M : Mem) : Option (Int32 × Mem) := mK_readsOneb (mK_readsOne_101 fuel) x1 M
/-! FreeLancesModel.rankOf -/
def mK_rankOf (x0 : Int32) (M : Mem) : Option (Int32 × Mem) :=
  if x0 = 38 then
    some (2, M)
  else
    if x0 = 42 then
      some (5, M)
    else
      if x0 = 43 then
        some (4, M)
      else
        if x0 = 45 then
          some (4, M)
        else
          if x0 = 47 then
            some (5, M)
          else
            if x0 = 60 then
              some (3, M)
            else
              if x0 = 61 then
                some (3, M)
              else
                if x0 = 62 then
                  some (3, M)
                else
                  if x0 = 124 then
                    some (1, M)
                  else
                    if x0 = 33 then
                      some (6, M)
                    else
                      some (0, M)
/-! FreeLancesModel.settles -/
def mK_settles_0b (j0 : Int32 → Mem → Option Mem) (x1 : Int32) (M : Mem) : Option Mem :=
  if (M 40 0 0 11) ≤ 0 then
    some M
  else
    ixx ((M 40 0 0 11) - 1) 50 fun k1 =>
    (mK_rankOf (M 48 0 0 k1) M).bind fun q2 =>
    if q2.1 < x1 then
      some q2.2
    else
      let M3 : Mem := up q2.2 40 0 0 11 ((q2.2 40 0 0 11) - 1)
      ixx (M3 40 0 0 11) 50 fun k4 =>
      (mK_lays ((-100) - (M3 48 0 0 k4)) M3).bind fun q5 =>
      j0 x1 q5
def mK_settles_0 : Nat → Int32 → Mem → Option Mem
  | 0, _, _ => none
  | n + 1, x1, M => mK_settles_0b (mK_settles_0 n) x1 M
def mK_settles (x1 : Int32) (M : Mem) : Option Mem := mK_settles_0 fuel x1 M
/-! FreeLancesModel.hasOpen -/
def mK_hasOpen_2b (j2 : Int32 → Mem → Option (Int32 × Mem)) (x1 : Int32) (M : Mem) : Option (Int32 × Mem) :=
  if x1 < (M 40 0 0 11) then
    ixx x1 50 fun k1 =>
    if (M 48 0 0 k1) = 40 then
      some (1, M)
    else
      j2 (x1 + 1) M
  else
    some (0, M)
def mK_hasOpen_2 : Nat → Int32 → Mem → Option (Int32 × Mem)
  | 0, _, _ => none
  | n + 1, x1, M => mK_hasOpen_2b (mK_hasOpen_2 n) x1 M
def mK_hasOpenb (j2 : Int32 → Mem → Option (Int32 × Mem)) (M : Mem) : Option (Int32 × Mem) :=
  j2 0 M
def mK_hasOpen (M : Mem) : Option (Int32 × Mem) := mK_hasOpenb (mK_hasOpen_2 fuel) M
/-! FreeLancesModel.isTested -/
def mK_isTested_7b (j7 : Int32 → Mem → Option (Int32 × Mem)) (x1 : Int32) (M : Mem) : Option (Int32 × Mem) :=
  if x1 < 0 then
    if x1 < 0 then
      some (0, M)
    else
      ixx x1 50 fun k1 =>
      (mK_rankOf (M 48 0 0 k1) M).bind fun q2 =>
      if q2.1 = 3 then
        some (1, q2.2)
      else
        some (0, q2.2)
  else
    ixx x1 50 fun k3 =>
    (mK_rankOf (M 48 0 0 k3) M).bind fun q4 =>
    if q4.1 ≤ 3 then
      if x1 < 0 then
        some (0, q4.2)
      else
        ixx x1 50 fun k5 =>
        (mK_rankOf (q4.2 48 0 0 k5) q4.2).bind fun q6 =>
        if q6.1 = 3 then
          some (1, q6.2)
        else
          some (0, q6.2)
    else
      j7 (x1 + (-1)) q4.2
def mK_isTested_7 : Nat → Int32 → Mem → Option (Int32 × Mem)
  | 0, _, _ => none
  | n + 1, x1, M => mK_isTested_7b (mK_isTested_7 n) x1 M
def mK_isTestedb (j7 : Int32 → Mem → Option (Int32 × Mem)) (M : Mem) : Option (Int32 × Mem) :=
  j7 ((M 40 0 0 11) - 1) M
def mK_isTested (M : Mem) : Option (Int32 × Mem) := mK_isTestedb (mK_isTested_7 fuel) M
/-! FreeLancesModel.reads -/
def mK_reads_136b (j17 : Int32 → Int32 → Mem → Option (Int32 × Mem)) (x1 : Int32) (x3 : Int32) (M : Mem) : Option (Int32 × Mem) :=
  (mK_rankOf x3 M).bind fun q1 =>
  if q1.1 = 0 then
    some (0, q1.2)
  else
    if q1.1 = 6 then
      some (0, q1.2)
    else
      if q1.1 = 3 then
        (mK_isTested q1.2).bind fun q2 =>
        if q2.1 = 0 then
          (mK_settles q1.1 q2.2).bind fun q3 =>
          ixx (q3 40 0 0 11) 50 fun k5 =>
          let M4 : Mem := up q3 48 0 0 k5 x3
          let M6 : Mem := up M4 40 0 0 11 ((M4 40 0 0 11) + 1)
          let M7 : Mem := up M6 40 0 0 12 ((M6 40 0 0 12) + 1)
          j17 x1 1 M7
        else
          some (0, q2.2)
      else
        (mK_settles q1.1 q1.2).bind fun q8 =>
        ixx (q8 40 0 0 11) 50 fun k10 =>
        let M9 : Mem := up q8 48 0 0 k10 x3
        let M11 : Mem := up M9 40 0 0 11 ((M9 40 0 0 11) + 1)
        let M12 : Mem := up M11 40 0 0 12 ((M11 40 0 0 12) + 1)
        j17 x1 1 M12
def mK_reads_136 (r17 : Int32 → Int32 → Mem → Option (Int32 × Mem)) (x1 : Int32) (x3 : Int32) (M : Mem) : Option (Int32 × Mem) := mK_reads_136b r17 x1 x3 M
def mK_reads_17b (j17 : Int32 → Int32 → Mem → Option (Int32 × Mem)) (j136 : Int32 → Int32 → Mem → Option (Int32 × Mem)) (x1 : Int32) (x2 : Int32) (M : Mem) : Option (Int32 × Mem) :=
  (mK_byteAt (M 40 0 0 12) M).bind fun q1 =>
  if x2 = 0 then
    if q1.1 < 0 then
      (mK_hasOpen q1.2).bind fun q2 =>
      if q2.1 = 0 then
        (mK_settles 1 q2.2).bind fun q3 =>
        some (1, q3)
      else
        some (0, q2.2)
    else
      if q1.1 = 41 then
        (mK_hasOpen q1.2).bind fun q4 =>
        if q4.1 = 0 then
          j136 x1 q1.1 q4.2
        else
          (mK_settles 1 q4.2).bind fun q5 =>
          let M6 : Mem := up q5 40 0 0 11 ((q5 40 0 0 11) - 1)
          let M7 : Mem := up M6 40 0 0 12 ((M6 40 0 0 12) + 1)
          (mK_settles 6 M7).bind fun q8 =>
          j17 x1 x2 q8
      else
        j136 x1 q1.1 q1.2
  else
    (mK_readsOne x1 q1.2).bind fun q9 =>
    if q9.1 = 0 then
      some (0, q9.2)
    else
      if q9.1 = 2 then
        j17 x1 1 q9.2
      else
        (mK_settles 6 q9.2).bind fun q10 =>
        j17 x1 0 q10
def mK_reads_17 : Nat → Int32 → Int32 → Mem → Option (Int32 × Mem)
  | 0, _, _, _ => none
  | n + 1, x1, x2, M => mK_reads_17b (mK_reads_17 n) (mK_reads_136 (mK_reads_17 n)) x1 x2 M
def mK_readsb (j17 : Int32 → Int32 → Mem → Option (Int32 × Mem)) (x1 : Int32) (M : Mem) : Option (Int32 × Mem) :=
  let M1 : Mem := up M 40 0 0 10 0
  let M2 : Mem := up M1 40 0 0 11 0
  let M3 : Mem := up M2 40 0 0 12 0
  j17 x1 1 M3
def mK_reads (x1 : Int32) (M : Mem) : Option (Int32 × Mem) := mK_readsb (mK_reads_17 fuel) x1 M
/-! FreeLancesModel.statute -/
def mK_statute_123b (j123 : Int32 → Int32 → Int32 → Mem → Option (Int32 × Mem)) (x3 : Int32) (x5 : Int32) (x6 : Int32) (M : Mem) : Option (Int32 × Mem) :=
  if x6 < (M 40 0 0 10) then
    ixx x6 50 fun k1 =>
    ixx ((x5 + 3) + x6) 1502 fun k3 =>
    let M2 : Mem := up M 41 0 0 k3 (M 47 0 0 k1)
    j123 x3 x5 (x6 + 1) M2
  else
    some (x3, M)
def mK_statute_123 : Nat → Int32 → Int32 → Int32 → Mem → Option (Int32 × Mem)
  | 0, _, _, _, _ => none
  | n + 1, x3, x5, x6, M => mK_statute_123b (mK_statute_123 n) x3 x5 x6 M
def mK_statuteb (j123 : Int32 → Int32 → Int32 → Mem → Option (Int32 × Mem)) (x1 : Int32) (x2 : Int32) (M : Mem) : Option (Int32 × Mem) :=
  (mK_in x1 0 3 M).bind fun q1 =>
  if q1.1 = 0 then
    (mK_finds 1 q1.2).bind fun q2 =>
    some (q2.1, q2.2)
  else
    (mK_isDay x2 q1.2).bind fun q3 =>
    if q3.1 = 0 then
      (mK_finds 1 q3.2).bind fun q4 =>
      some (q4.1, q4.2)
    else
      if (q3.2 41 0 0 4) = 12 then
        (mK_finds 4 q3.2).bind fun q5 =>
        some (q5.1, q5.2)
      else
        (mK_reads x1 q3.2).bind fun q6 =>
        let M7 : Mem := up q6.2 41 0 0 7 0
        if q6.1 = 0 then
          some ((-10) - (M7 40 0 0 12), M7)
        else
          let M8 : Mem := up M7 41 0 0 4 ((M7 41 0 0 4) + 1)
          ixx (420 + (53 * (q3.2 41 0 0 4))) 1502 fun k10 =>
          let M9 : Mem := up M8 41 0 0 k10 x1
          ixx ((420 + (53 * (q3.2 41 0 0 4))) + 1) 1502 fun k12 =>
          let M11 : Mem := up M9 41 0 0 k12 x2
          ixx ((420 + (53 * (q3.2 41 0 0 4))) + 2) 1502 fun k14 =>
          let M13 : Mem := up M11 41 0 0 k14 (M11 40 0 0 10)
          j123 (q3.2 41 0 0 4) (420 + (53 * (q3.2 41 0 0 4))) 0 M13
def mK_statute (x1 : Int32) (x2 : Int32) (M : Mem) : Option (Int32 × Mem) := mK_statuteb (mK_statute_123 fuel) x1 x2 M
/-! FreeLancesModel.force -/
def mK_force (x1 : Int32) (x2 : Int32) (M : Mem) : Option (Int32 × Mem) :=
  (mK_in x1 0 3 M).bind fun q1 =>
  if q1.1 = 0 then
    (mK_finds 1 q1.2).bind fun q2 =>
    some (q2.1, q2.2)
  else
    (mK_isDay x2 q1.2).bind fun q3 =>
    if q3.1 = 0 then
      (mK_finds 1 q3.2).bind fun q4 =>
      some (q4.1, q4.2)
    else
      (mK_inForce x1 x2 q3.2).bind fun q5 =>
      if q5.1 < 0 then
        (mK_finds 2 q5.2).bind fun q6 =>
        some (q6.1, q6.2)
      else
        some (q5.1, q5.2)
/-! FreeLancesModel.says -/
def mK_says (x1 : Int32) (x2 : Int32) (x3 : Int32) (x4 : Int32) (M : Mem) : Option (Int32 × Mem) :=
  (mK_in x1 0 ((M 41 0 0 4) - 1) M).bind fun q1 =>
  if q1.1 = 0 then
    (mK_finds 1 q1.2).bind fun q2 =>
    some (q2.1, q2.2)
  else
    (mK_comesTo x1 x2 x3 x4 q1.2).bind fun q3 =>
    some (q3.1, q3.2)
/-! FreeLancesModel.areDays -/
def mK_areDays (x0 : Int32) (x1 : Int32) (M : Mem) : Option (Int32 × Mem) :=
  (mK_in x0 0 3000 M).bind fun q1 =>
  if q1.1 = 0 then
    some (0, q1.2)
  else
    (mK_in x1 x0 3000 q1.2).bind fun q2 =>
    if q2.1 = 0 then
      some (0, q2.2)
    else
      some (1, q2.2)
/-! FreeLancesModel.isFull -/
def mK_isFull (M : Mem) : Option (Int32 × Mem) :=
  if (M 41 0 0 5) = 24 then
    some (1, M)
  else
    some (0, M)
/-! FreeLancesModel.writes -/
def mK_writes (x1 : Int32) (x2 : Int32) (x3 : Int32) (M : Mem) : Option Mem :=
  ixx ((1056 + (14 * x1)) + x2) 1502 fun k2 =>
  let M1 : Mem := up M 41 0 0 k2 x3
  some M1
/-! FreeLancesModel.newBond -/
def mK_newBond (x1 : Int32) (x2 : Int32) (x3 : Int32) (x4 : Int32) (x5 : Int32) (x6 : Int32) (x7 : Int32) (x8 : Int32) (M : Mem) : Option (Int32 × Mem) :=
  let M1 : Mem := up M 41 0 0 5 ((M 41 0 0 5) + 1)
  (mK_writes (M 41 0 0 5) 0 x1 M1).bind fun q2 =>
  (mK_writes (M 41 0 0 5) 1 x2 q2).bind fun q3 =>
  (mK_writes (M 41 0 0 5) 2 x3 q3).bind fun q4 =>
  (mK_writes (M 41 0 0 5) 3 x4 q4).bind fun q5 =>
  (mK_writes (M 41 0 0 5) 4 x5 q5).bind fun q6 =>
  (mK_writes (M 41 0 0 5) 5 x6 q6).bind fun q7 =>
  (mK_writes (M 41 0 0 5) 6 x7 q7).bind fun q8 =>
  (mK_writes (M 41 0 0 5) 7 x8 q8).bind fun q9 =>
  (mK_writes (M 41 0 0 5) 8 0 q9).bind fun q10 =>
  (mK_writes (M 41 0 0 5) 9 (-1) q10).bind fun q11 =>
  (mK_writes (M 41 0 0 5) 10 0 q11).bind fun q12 =>
  (mK_writes (M 41 0 0 5) 11 0 q12).bind fun q13 =>
  some (M 41 0 0 5, q13)
/-! FreeLancesModel.contract -/
def mK_contract_50b (x2 : Int32) (x3 : Int32) (x4 : Int32) (x5 : Int32) (x6 : Int32) (x7 : Int32) (M : Mem) : Option (Int32 × Mem) :=
  if x6 = x5 then
    (mK_finds 1 M).bind fun q1 =>
    some (q1.1, q1.2)
  else
    (mK_isCompany x7 M).bind fun q2 =>
    if q2.1 = 0 then
      (mK_finds 1 q2.2).bind fun q3 =>
      some (q3.1, q3.2)
    else
      (mK_areDays x2 x3 q2.2).bind fun q4 =>
      if q4.1 = 0 then
        (mK_finds 1 q4.2).bind fun q5 =>
        some (q5.1, q5.2)
      else
        (mK_in x4 0 999 q4.2).bind fun q6 =>
        if q6.1 = 0 then
          (mK_finds 1 q6.2).bind fun q7 =>
          some (q7.1, q7.2)
        else
          (mK_isFull q6.2).bind fun q8 =>
          if q8.1 = 0 then
            (mK_newBond 1 x7 x2 x3 x4 x5 x6 (-1) q8.2).bind fun q9 =>
            some (q9.1, q9.2)
          else
            (mK_finds 4 q8.2).bind fun q10 =>
            some (q10.1, q10.2)
def mK_contract_50 (x2 : Int32) (x3 : Int32) (x4 : Int32) (x5 : Int32) (x6 : Int32) (x7 : Int32) (M : Mem) : Option (Int32 × Mem) := mK_contract_50b x2 x3 x4 x5 x6 x7 M
def mK_contractb (j50 : Int32 → Int32 → Int32 → Int32 → Int32 → Int32 → Mem → Option (Int32 × Mem)) (x1 : Int32) (x2 : Int32) (x3 : Int32) (x4 : Int32) (M : Mem) : Option (Int32 × Mem) :=
  if x1 < 0 then
    (mK_finds 1 M).bind fun q1 =>
    some (q1.1, q1.2)
  else
    (mK_isTown (x1 / 100) M).bind fun q2 =>
    if q2.1 = 0 then
      (mK_finds 1 q2.2).bind fun q3 =>
      some (q3.1, q3.2)
    else
      if (((x1 / 10) - (x1 / 10) / 10 * 10) - 1) < 0 then
        j50 x2 x3 x4 (x1 / 100) (((x1 / 10) - (x1 / 10) / 10 * 10) - 1) (x1 - x1 / 10 * 10) q2.2
      else
        (mK_isTown (((x1 / 10) - (x1 / 10) / 10 * 10) - 1) q2.2).bind fun q4 =>
        if q4.1 = 0 then
          (mK_finds 1 q4.2).bind fun q5 =>
          some (q5.1, q5.2)
        else
          j50 x2 x3 x4 (x1 / 100) (((x1 / 10) - (x1 / 10) / 10 * 10) - 1) (x1 - x1 / 10 * 10) q4.2
def mK_contract (x1 : Int32) (x2 : Int32) (x3 : Int32) (x4 : Int32) (M : Mem) : Option (Int32 × Mem) := mK_contractb mK_contract_50 x1 x2 x3 x4 M
/-! FreeLancesModel.isBond -/
def mK_isBond (x1 : Int32) (M : Mem) : Option (Int32 × Mem) :=
  (mK_in x1 0 ((M 41 0 0 5) - 1) M).bind fun q1 =>
  if q1.1 = 0 ∨ q1.1 = 1 then
    some (q1.1, q1.2)
  else
    none
/-! FreeLancesModel.renew -/
def mK_renew (x1 : Int32) (x2 : Int32) (x3 : Int32) (M : Mem) : Option (Int32 × Mem) :=
  (mK_isBond x1 M).bind fun q1 =>
  if q1.1 = 0 then
    (mK_finds 1 q1.2).bind fun q2 =>
    some (q2.1, q2.2)
  else
    (mK_in x2 1 400 q1.2).bind fun q3 =>
    if q3.1 = 0 then
      (mK_finds 1 q3.2).bind fun q4 =>
      some (q4.1, q4.2)
    else
      (mK_in x3 0 1 q3.2).bind fun q5 =>
      if q5.1 = 0 then
        (mK_finds 1 q5.2).bind fun q6 =>
        some (q6.1, q6.2)
      else
        (mK_bond x1 3 q5.2).bind fun q7 =>
        if (q7.1 + x2) ≤ 3000 then
          (mK_isContract x1 q7.2).bind fun q8 =>
          if q8.1 = 0 then
            (mK_finds 5 q8.2).bind fun q9 =>
            some (q9.1, q9.2)
          else
            (mK_bond x1 11 q8.2).bind fun q10 =>
            if q10.1 = 1 then
              (mK_finds 3 q10.2).bind fun q11 =>
              some (q11.1, q11.2)
            else
              (mK_isFull q10.2).bind fun q12 =>
              if q12.1 = 0 then
                (mK_writes x1 11 1 q12.2).bind fun q13 =>
                (mK_bond x1 1 q13).bind fun q14 =>
                (mK_bond x1 3 q14.2).bind fun q15 =>
                (mK_bond x1 3 q15.2).bind fun q16 =>
                (mK_bond x1 4 q16.2).bind fun q17 =>
                (mK_bond x1 5 q17.2).bind fun q18 =>
                (mK_bond x1 6 q18.2).bind fun q19 =>
                (mK_newBond 2 q14.1 (q15.1 + 1) (q16.1 + x2) q17.1 q18.1 q19.1 x1 q19.2).bind fun q20 =>
                some (q20.1, q20.2)
              else
                (mK_finds 4 q12.2).bind fun q21 =>
                some (q21.1, q21.2)
        else
          (mK_finds 1 q7.2).bind fun q22 =>
          some (q22.1, q22.2)
/-! FreeLancesModel.gives -/
def mK_gives (x1 : Int32) (x2 : Int32) (x3 : Int32) (M : Mem) : Option Mem :=
  (mK_townGets x1 0 (-x3) M).bind fun q1 =>
  (mK_own x2 0 q1).bind fun q2 =>
  (mK_sets x2 0 (q2.1 + x3) q2.2).bind fun q3 =>
  some q3
/-! FreeLancesModel.advance -/
def mK_advance (x1 : Int32) (x2 : Int32) (M : Mem) : Option (Int32 × Mem) :=
  (mK_isBond x1 M).bind fun q1 =>
  if q1.1 = 0 then
    (mK_finds 1 q1.2).bind fun q2 =>
    some (q2.1, q2.2)
  else
    (mK_in x2 1 9999 q1.2).bind fun q3 =>
    if q3.1 = 0 then
      (mK_finds 1 q3.2).bind fun q4 =>
      some (q4.1, q4.2)
    else
      (mK_isContract x1 q3.2).bind fun q5 =>
      if q5.1 = 0 then
        (mK_finds 5 q5.2).bind fun q6 =>
        some (q6.1, q6.2)
      else
        (mK_bond x1 5 q5.2).bind fun q7 =>
        (mK_ofTown q7.1 0 q7.2).bind fun q8 =>
        if q8.1 < x2 then
          (mK_finds 2 q8.2).bind fun q9 =>
          some (q9.1, q9.2)
        else
          (mK_isFull q8.2).bind fun q10 =>
          if q10.1 = 0 then
            (mK_bond x1 5 q10.2).bind fun q11 =>
            (mK_bond x1 1 q11.2).bind fun q12 =>
            (mK_gives q11.1 q12.1 x2 q12.2).bind fun q13 =>
            (mK_bond x1 10 q13).bind fun q14 =>
            (mK_writes x1 10 (q14.1 + x2) q14.2).bind fun q15 =>
            (mK_bond x1 1 q15).bind fun q16 =>
            (mK_bond x1 5 q16.2).bind fun q17 =>
            (mK_newBond 3 q16.1 (-1) (-1) x2 q17.1 (-1) x1 q17.2).bind fun q18 =>
            some (q18.1, q18.2)
          else
            (mK_finds 4 q10.2).bind fun q19 =>
            some (q19.1, q19.2)
/-! FreeLancesModel.truce -/
def mK_truce (x1 : Int32) (x2 : Int32) (x3 : Int32) (x4 : Int32) (M : Mem) : Option (Int32 × Mem) :=
  (mK_isCompany x1 M).bind fun q1 =>
  if q1.1 = 0 then
    (mK_finds 1 q1.2).bind fun q2 =>
    some (q2.1, q2.2)
  else
    (mK_isCompany x2 q1.2).bind fun q3 =>
    if q3.1 = 0 then
      (mK_finds 1 q3.2).bind fun q4 =>
      some (q4.1, q4.2)
    else
      if x1 = x2 then
        (mK_finds 1 q3.2).bind fun q5 =>
        some (q5.1, q5.2)
      else
        (mK_areDays x3 x4 q3.2).bind fun q6 =>
        if q6.1 = 0 then
          (mK_finds 1 q6.2).bind fun q7 =>
          some (q7.1, q7.2)
        else
          (mK_isFull q6.2).bind fun q8 =>
          if q8.1 = 0 then
            (mK_newBond 4 x1 x3 x4 0 (-1) (-1) x2 q8.2).bind fun q9 =>
            some (q9.1, q9.2)
          else
            (mK_finds 4 q8.2).bind fun q10 =>
            some (q10.1, q10.2)
/-! FreeLancesModel.safe -/
def mK_safe (x1 : Int32) (x2 : Int32) (x3 : Int32) (x4 : Int32) (x5 : Int32) (M : Mem) : Option (Int32 × Mem) :=
  (mK_isCompany x1 M).bind fun q1 =>
  if q1.1 = 0 then
    (mK_finds 1 q1.2).bind fun q2 =>
    some (q2.1, q2.2)
  else
    (mK_isTown x2 q1.2).bind fun q3 =>
    if q3.1 = 0 then
      (mK_finds 1 q3.2).bind fun q4 =>
      some (q4.1, q4.2)
    else
      (mK_areDays x3 x4 q3.2).bind fun q5 =>
      if q5.1 = 0 then
        (mK_finds 1 q5.2).bind fun q6 =>
        some (q6.1, q6.2)
      else
        (mK_in x5 0 9999 q5.2).bind fun q7 =>
        if q7.1 = 0 then
          (mK_finds 1 q7.2).bind fun q8 =>
          some (q8.1, q8.2)
        else
          (mK_ofTown x2 0 q7.2).bind fun q9 =>
          if q9.1 < x5 then
            (mK_finds 2 q9.2).bind fun q10 =>
            some (q10.1, q10.2)
          else
            (mK_isFull q9.2).bind fun q11 =>
            if q11.1 = 0 then
              (mK_gives x2 x1 x5 q11.2).bind fun q12 =>
              (mK_newBond 6 x1 x3 x4 x5 x2 (-1) (-1) q12).bind fun q13 =>
              some (q13.1, q13.2)
            else
              (mK_finds 4 q11.2).bind fun q14 =>
              some (q14.1, q14.2)
/-! FreeLancesModel.ransom -/
def mK_ransom (x1 : Int32) (x2 : Int32) (M : Mem) : Option (Int32 × Mem) :=
  (mK_isLance x1 M).bind fun q1 =>
  if q1.1 = 0 then
    (mK_finds 1 q1.2).bind fun q2 =>
    some (q2.1, q2.2)
  else
    (mK_in x2 0 9999 q1.2).bind fun q3 =>
    if q3.1 = 0 then
      (mK_finds 1 q3.2).bind fun q4 =>
      some (q4.1, q4.2)
    else
      (mK_its x1 4 q3.2).bind fun q5 =>
      (mK_its x1 0 q5.2).bind fun q6 =>
      if q5.1 < 0 then
        (mK_finds 3 q6.2).bind fun q7 =>
        some (q7.1, q7.2)
      else
        (mK_own q6.1 0 q6.2).bind fun q8 =>
        if q8.1 < x2 then
          (mK_finds 2 q8.2).bind fun q9 =>
          some (q9.1, q9.2)
        else
          (mK_isFull q8.2).bind fun q10 =>
          if q10.1 = 0 then
            (mK_gives q5.1 q6.1 (-x2) q10.2).bind fun q11 =>
            (mK_turns x1 0 q11).bind fun q12 =>
            ixx ((220 + (5 * x1)) + 4) 1502 fun k14 =>
            let M13 : Mem := up q12 41 0 0 k14 (-1)
            (mK_newBond 5 q6.1 (-1) (-1) x2 q5.1 (-1) x1 M13).bind fun q15 =>
            some (q15.1, q15.2)
          else
            (mK_finds 4 q10.2).bind fun q16 =>
            some (q16.1, q16.2)
/-! FreeLancesModel.as -/
def mK_as (x1 : Int32) (x2 : Int32) (M : Mem) : Option (Int32 × Mem) :=
  (mK_isBond x1 M).bind fun q1 =>
  if q1.1 = 0 then
    (mK_finds 1 q1.2).bind fun q2 =>
    some (q2.1, q2.2)
  else
    (mK_in x2 0 6 q1.2).bind fun q3 =>
    if q3.1 = 0 then
      (mK_finds 1 q3.2).bind fun q4 =>
      some (q4.1, q4.2)
    else
      (mK_bond x1 0 q3.2).bind fun q5 =>
      if x2 = 0 then
        (mK_bond x1 4 q5.2).bind fun q6 =>
        some (q6.1, q6.2)
      else
        if x2 = q5.1 then
          (mK_bond x1 4 q5.2).bind fun q7 =>
          some (q7.1, q7.2)
        else
          if x2 = 1 then
            if q5.1 = 2 then
              (mK_bond x1 4 q5.2).bind fun q8 =>
              some (q8.1, q8.2)
            else
              (mK_finds 5 q5.2).bind fun q9 =>
              some (q9.1, q9.2)
          else
            (mK_finds 5 q5.2).bind fun q10 =>
            some (q10.1, q10.2)
/-! FreeLancesModel.bondIs -/
def mK_bondIs (x1 : Int32) (x2 : Int32) (M : Mem) : Option (Int32 × Mem) :=
  (mK_isBond x1 M).bind fun q1 =>
  if q1.1 = 0 then
    (mK_finds 1 q1.2).bind fun q2 =>
    some (q2.1, q2.2)
  else
    (mK_in x2 0 9 q1.2).bind fun q3 =>
    if q3.1 = 0 then
      (mK_finds 1 q3.2).bind fun q4 =>
      some (q4.1, q4.2)
    else
      if x2 = 0 then
        (mK_bond x1 0 q3.2).bind fun q14 =>
        some (q14.1, q14.2)
      else
        if x2 = 1 then
          (mK_bond x1 1 q3.2).bind fun q13 =>
          some (q13.1, q13.2)
        else
          if x2 = 2 then
            (mK_bond x1 2 q3.2).bind fun q12 =>
            some (q12.1, q12.2)
          else
            if x2 = 3 then
              (mK_bond x1 3 q3.2).bind fun q11 =>
              some (q11.1, q11.2)
            else
              if x2 = 4 then
                (mK_bond x1 5 q3.2).bind fun q10 =>
                some (q10.1, q10.2)
              else
                if x2 = 5 then
                  (mK_bond x1 6 q3.2).bind fun q9 =>
                  some (q9.1, q9.2)
                else
                  if x2 = 6 then
                    (mK_bond x1 7 q3.2).bind fun q8 =>
                    some (q8.1, q8.2)
                  else
                    if x2 = 7 then
                      (mK_bond x1 8 q3.2).bind fun q7 =>
                      some (q7.1, q7.2)
                    else
                      if x2 = 8 then
                        (mK_bond x1 9 q3.2).bind fun q6 =>
                        some (q6.1, q6.2)
                      else
                        (mK_bond x1 10 q3.2).bind fun q5 =>
                        some (q5.1, q5.2)
/-! FreeLancesModel.owes -/
def mK_owes (x1 : Int32) (x2 : Int32) (M : Mem) : Option Mem :=
  (mK_bond x1 8 M).bind fun q1 =>
  (mK_writes x1 8 (q1.1 - x2) q1.2).bind fun q2 =>
  (mK_bond x1 8 q2).bind fun q3 =>
  if q3.1 = 0 then
    (mK_writes x1 9 (-1) q3.2).bind fun q4 =>
    some q4
  else
    some q3.2
/-! FreeLancesModel.stop -/
def mK_stop (x1 : Int32) (x2 : Int32) (M : Mem) : Option (Int32 × Mem) :=
  (mK_isBond x1 M).bind fun q1 =>
  if q1.1 = 0 then
    (mK_finds 1 q1.2).bind fun q2 =>
    some (q2.1, q2.2)
  else
    (mK_in x2 1 9999 q1.2).bind fun q3 =>
    if q3.1 = 0 then
      (mK_finds 1 q3.2).bind fun q4 =>
      some (q4.1, q4.2)
    else
      (mK_isContract x1 q3.2).bind fun q5 =>
      if q5.1 = 0 then
        (mK_finds 5 q5.2).bind fun q6 =>
        some (q6.1, q6.2)
      else
        (mK_bond x1 8 q5.2).bind fun q7 =>
        if q7.1 < x2 then
          (mK_finds 3 q7.2).bind fun q8 =>
          some (q8.1, q8.2)
        else
          (mK_owes x1 x2 q7.2).bind fun q9 =>
          (mK_bond x1 8 q9).bind fun q10 =>
          some (q10.1, q10.2)
/-! FreeLancesModel.pay -/
def mK_pay (x1 : Int32) (x2 : Int32) (M : Mem) : Option (Int32 × Mem) :=
  (mK_isBond x1 M).bind fun q1 =>
  if q1.1 = 0 then
    (mK_finds 1 q1.2).bind fun q2 =>
    some (q2.1, q2.2)
  else
    (mK_in x2 1 9999 q1.2).bind fun q3 =>
    if q3.1 = 0 then
      (mK_finds 1 q3.2).bind fun q4 =>
      some (q4.1, q4.2)
    else
      (mK_isContract x1 q3.2).bind fun q5 =>
      if q5.1 = 0 then
        (mK_finds 5 q5.2).bind fun q6 =>
        some (q6.1, q6.2)
      else
        (mK_bond x1 8 q5.2).bind fun q7 =>
        if q7.1 < x2 then
          (mK_finds 3 q7.2).bind fun q8 =>
          some (q8.1, q8.2)
        else
          (mK_bond x1 5 q7.2).bind fun q9 =>
          (mK_ofTown q9.1 0 q9.2).bind fun q10 =>
          if q10.1 < x2 then
            (mK_finds 2 q10.2).bind fun q11 =>
            some (q11.1, q11.2)
          else
            (mK_bond x1 5 q10.2).bind fun q12 =>
            (mK_bond x1 1 q12.2).bind fun q13 =>
            (mK_gives q12.1 q13.1 x2 q13.2).bind fun q14 =>
            (mK_owes x1 x2 q14).bind fun q15 =>
            (mK_bond x1 8 q15).bind fun q16 =>
            some (q16.1, q16.2)
/-! FreeLancesModel.serves -/
def mK_serves (x1 : Int32) (x2 : Int32) (M : Mem) : Option (Int32 × Mem) :=
  (mK_isCompany x1 M).bind fun q1 =>
  if q1.1 = 0 then
    (mK_finds 1 q1.2).bind fun q2 =>
    some (q2.1, q2.2)
  else
    (mK_isDay x2 q1.2).bind fun q3 =>
    if q3.1 = 0 then
      (mK_finds 1 q3.2).bind fun q4 =>
      some (q4.1, q4.2)
    else
      (mK_servedOn x1 x2 q3.2).bind fun q5 =>
      if q5.1 < 0 then
        (mK_finds 2 q5.2).bind fun q6 =>
        some (q6.1, q6.2)
      else
        some (q5.1, q5.2)
/-! FreeLancesModel.greater -/
def mK_greater (x0 : Int32) (x1 : Int32) (M : Mem) : Option (Int32 × Mem) :=
  if x0 ≤ x1 then
    some (x1, M)
  else
    some (x0, M)
/-! FreeLancesModel.both -/
def mK_both (x1 : Int32) (x2 : Int32) (M : Mem) : Option (Int32 × Mem) :=
  (mK_bond x1 2 M).bind fun q1 =>
  (mK_bond x2 2 q1.2).bind fun q2 =>
  (mK_greater q1.1 q2.1 q2.2).bind fun q3 =>
  if q3.1 < 0 then
    some ((-1), q3.2)
  else
    (mK_bond x1 2 q3.2).bind fun q4 =>
    if q4.1 < 0 then
      some ((-1), q4.2)
    else
      (mK_bond x2 2 q4.2).bind fun q5 =>
      if q5.1 < 0 then
        some ((-1), q5.2)
      else
        (mK_bond x1 3 q5.2).bind fun q6 =>
        if q3.1 ≤ q6.1 then
          (mK_bond x2 3 q6.2).bind fun q7 =>
          if q3.1 ≤ q7.1 then
            some (q3.1, q7.2)
          else
            some ((-1), q7.2)
        else
          some ((-1), q6.2)
/-! FreeLancesModel.clashes -/
def mK_clashes_243b (j144 : Int32 → Int32 → Int32 → Int32 → Int32 → Int32 → Mem → Option (Int32 × Mem)) (x1 : Int32) (x2 : Int32) (x3 : Int32) (x5 : Int32) (x6 : Int32) (x7 : Int32) (x8 : Int32) (M : Mem) : Option (Int32 × Mem) :=
  j144 x1 x2 x3 x5 x6 (x7 + 1) M
def mK_clashes_243 (r144 : Int32 → Int32 → Int32 → Int32 → Int32 → Int32 → Mem → Option (Int32 × Mem)) (x1 : Int32) (x2 : Int32) (x3 : Int32) (x5 : Int32) (x6 : Int32) (x7 : Int32) (x8 : Int32) (M : Mem) : Option (Int32 × Mem) := mK_clashes_243b r144 x1 x2 x3 x5 x6 x7 x8 M
def mK_clashes_144b (j144 : Int32 → Int32 → Int32 → Int32 → Int32 → Int32 → Mem → Option (Int32 × Mem)) (j243 : Int32 → Int32 → Int32 → Int32 → Int32 → Int32 → Int32 → Mem → Option (Int32 × Mem)) (x1 : Int32) (x2 : Int32) (x3 : Int32) (x5 : Int32) (x6 : Int32) (x7 : Int32) (M : Mem) : Option (Int32 × Mem) :=
  if x7 < (M 41 0 0 5) then
    (mK_isContract x7 M).bind fun q1 =>
    if q1.1 = 0 then
      j144 x1 x2 x3 x5 x6 (x7 + 1) q1.2
    else
      (mK_bond x7 1 q1.2).bind fun q2 =>
      if q2.1 = x5 then
        (mK_bond x7 5 q2.2).bind fun q3 =>
        if q3.1 = x3 then
          (mK_both x1 x2 q3.2).bind fun q4 =>
          (mK_bond x7 2 q4.2).bind fun q5 =>
          (mK_greater q4.1 q5.1 q5.2).bind fun q6 =>
          (mK_isIn x1 q6.1 q6.2).bind fun q7 =>
          if q7.1 = 0 then
            j243 x1 x2 x3 x5 x6 x7 q6.1 q7.2
          else
            (mK_isIn x2 q6.1 q7.2).bind fun q8 =>
            if q8.1 = 0 then
              j243 x1 x2 x3 x5 x6 x7 q6.1 q8.2
            else
              (mK_isIn x7 q6.1 q8.2).bind fun q9 =>
              if q9.1 = 0 then
                j243 x1 x2 x3 x5 x6 x7 q6.1 q9.2
              else
                if x6 < 0 then
                  j144 x1 x2 x3 x5 q6.1 (x7 + 1) q9.2
                else
                  if q6.1 < x6 then
                    j144 x1 x2 x3 x5 q6.1 (x7 + 1) q9.2
                  else
                    j144 x1 x2 x3 x5 x6 (x7 + 1) q9.2
        else
          j144 x1 x2 x3 x5 x6 (x7 + 1) q3.2
      else
        j144 x1 x2 x3 x5 x6 (x7 + 1) q2.2
  else
    some (x6, M)
def mK_clashes_144 : Nat → Int32 → Int32 → Int32 → Int32 → Int32 → Int32 → Mem → Option (Int32 × Mem)
  | 0, _, _, _, _, _, _, _ => none
  | n + 1, x1, x2, x3, x5, x6, x7, M => mK_clashes_144b (mK_clashes_144 n) (mK_clashes_243 (mK_clashes_144 n)) x1 x2 x3 x5 x6 x7 M
def mK_clashesb (j144 : Int32 → Int32 → Int32 → Int32 → Int32 → Int32 → Mem → Option (Int32 × Mem)) (x1 : Int32) (x2 : Int32) (M : Mem) : Option (Int32 × Mem) :=
  (mK_bond x1 6 M).bind fun q1 =>
  (mK_bond x1 1 q1.2).bind fun q2 =>
  if q1.1 < 0 then
    some ((-1), q2.2)
  else
    (mK_both x1 x2 q2.2).bind fun q3 =>
    if q3.1 < 0 then
      some ((-1), q3.2)
    else
      (mK_bond x2 0 q3.2).bind fun q4 =>
      if q4.1 = 6 then
        (mK_bond x2 1 q4.2).bind fun q5 =>
        if q5.1 = q2.1 then
          (mK_bond x2 5 q5.2).bind fun q6 =>
          if q6.1 = q1.1 then
            (mK_both x1 x2 q6.2).bind fun q7 =>
            some (q7.1, q7.2)
          else
            some ((-1), q6.2)
        else
          some ((-1), q5.2)
      else
        (mK_bond x2 0 q4.2).bind fun q8 =>
        if q8.1 = 4 then
          (mK_bond x2 1 q8.2).bind fun q9 =>
          if q9.1 = q2.1 then
            (mK_bond x2 1 q9.2).bind fun q10 =>
            if q10.1 = q2.1 then
              (mK_bond x2 7 q10.2).bind fun q11 =>
              j144 x1 x2 q1.1 q11.1 (-1) 0 q11.2
            else
              (mK_bond x2 1 q10.2).bind fun q12 =>
              j144 x1 x2 q1.1 q12.1 (-1) 0 q12.2
          else
            (mK_bond x2 7 q9.2).bind fun q13 =>
            if q13.1 = q2.1 then
              (mK_bond x2 1 q13.2).bind fun q14 =>
              if q14.1 = q2.1 then
                (mK_bond x2 7 q14.2).bind fun q15 =>
                j144 x1 x2 q1.1 q15.1 (-1) 0 q15.2
              else
                (mK_bond x2 1 q14.2).bind fun q16 =>
                j144 x1 x2 q1.1 q16.1 (-1) 0 q16.2
            else
              some ((-1), q13.2)
        else
          some ((-1), q8.2)
def mK_clashes (x1 : Int32) (x2 : Int32) (M : Mem) : Option (Int32 × Mem) := mK_clashesb (mK_clashes_144 fuel) x1 x2 M
/-! FreeLancesModel.clashOf -/
def mK_clashOf (x1 : Int32) (x2 : Int32) (M : Mem) : Option (Int32 × Mem) :=
  (mK_isContract x1 M).bind fun q1 =>
  if q1.1 = 0 then
    (mK_isContract x1 q1.2).bind fun q2 =>
    if q2.1 = 0 then
      (mK_isContract x2 q2.2).bind fun q3 =>
      if q3.1 = 0 then
        some ((-1), q3.2)
      else
        (mK_clashes x2 x1 q3.2).bind fun q4 =>
        some (q4.1, q4.2)
    else
      (mK_clashes x1 x2 q2.2).bind fun q5 =>
      some (q5.1, q5.2)
  else
    (mK_isContract x2 q1.2).bind fun q6 =>
    if q6.1 = 0 then
      (mK_isContract x1 q6.2).bind fun q7 =>
      if q7.1 = 0 then
        (mK_isContract x2 q7.2).bind fun q8 =>
        if q8.1 = 0 then
          some ((-1), q8.2)
        else
          (mK_clashes x2 x1 q8.2).bind fun q9 =>
          some (q9.1, q9.2)
      else
        (mK_clashes x1 x2 q7.2).bind fun q10 =>
        some (q10.1, q10.2)
    else
      (mK_bond x1 1 q6.2).bind fun q11 =>
      (mK_bond x2 1 q11.2).bind fun q12 =>
      if q11.1 = q12.1 then
        (mK_bond x1 5 q12.2).bind fun q13 =>
        (mK_bond x2 5 q13.2).bind fun q14 =>
        if q13.1 = q14.1 then
          some ((-1), q14.2)
        else
          (mK_both x1 x2 q14.2).bind fun q15 =>
          some (q15.1, q15.2)
      else
        some ((-1), q12.2)
/-! FreeLancesModel.clash -/
def mK_clash_41b (j24 : Int32 → Int32 → Int32 → Mem → Option (Int32 × Mem)) (j41 : Int32 → Int32 → Int32 → Int32 → Mem → Option (Int32 × Mem)) (x2 : Int32) (x3 : Int32) (x4 : Int32) (x5 : Int32) (M : Mem) : Option (Int32 × Mem) :=
  if x5 < (M 41 0 0 5) then
    (mK_clashOf x4 x5 M).bind fun q1 =>
    if q1.1 < 0 then
      j41 x2 x3 x4 (x5 + 1) q1.2
    else
      if x3 = 0 then
        if x2 = 0 then
          some (x4, q1.2)
        else
          if x2 = 1 then
            some (x5, q1.2)
          else
            some (q1.1, q1.2)
      else
        j41 x2 (x3 + (-1)) x4 (x5 + 1) q1.2
  else
    j24 x2 x3 (x4 + 1) M
def mK_clash_41 (r24 : Int32 → Int32 → Int32 → Mem → Option (Int32 × Mem)) : Nat → Int32 → Int32 → Int32 → Int32 → Mem → Option (Int32 × Mem)
  | 0, _, _, _, _, _ => none
  | n + 1, x2, x3, x4, x5, M => mK_clash_41b r24 (mK_clash_41 r24 n) x2 x3 x4 x5 M
def mK_clash_24b (j41 : Int32 → Int32 → Int32 → Int32 → Mem → Option (Int32 × Mem)) (x2 : Int32) (x3 : Int32) (x4 : Int32) (M : Mem) : Option (Int32 × Mem) :=
  if x4 < (M 41 0 0 5) then
    j41 x2 x3 x4 (x4 + 1) M
  else
    (mK_finds 2 M).bind fun q1 =>
    some (q1.1, q1.2)
def mK_clash_24 : Nat → Int32 → Int32 → Int32 → Mem → Option (Int32 × Mem)
  | 0, _, _, _, _ => none
  | n + 1, x2, x3, x4, M => mK_clash_24b (mK_clash_41 (mK_clash_24 n) fuel) x2 x3 x4 M
def mK_clashb (j24 : Int32 → Int32 → Int32 → Mem → Option (Int32 × Mem)) (x1 : Int32) (x2 : Int32) (M : Mem) : Option (Int32 × Mem) :=
  if x1 < 0 then
    (mK_finds 1 M).bind fun q1 =>
    some (q1.1, q1.2)
  else
    (mK_in x2 0 2 M).bind fun q2 =>
    if q2.1 = 0 then
      (mK_finds 1 q2.2).bind fun q3 =>
      some (q3.1, q3.2)
    else
      j24 x2 x1 0 q2.2
def mK_clash (x1 : Int32) (x2 : Int32) (M : Mem) : Option (Int32 × Mem) := mK_clashb (mK_clash_24 fuel) x1 x2 M
/-! FreeLancesModel.free -/
def mK_free_114b (j43 : Int32 → Int32 → Int32 → Int32 → Int32 → Mem → Option (Int32 × Mem)) (x1 : Int32) (x2 : Int32) (x3 : Int32) (x4 : Int32) (x5 : Int32) (y0 : Int32) (M : Mem) : Option (Int32 × Mem) :=
  (mK_bond x5 3 M).bind fun q1 =>
  if y0 = 0 then
    (mK_bond x5 2 q1.2).bind fun q2 =>
    (mK_in x3 q2.1 (q1.1 + 0) q2.2).bind fun q3 =>
    if q3.1 = 0 then
      j43 x1 x2 x3 x4 (x5 + 1) q3.2
    else
      j43 x1 x2 ((q1.1 + 0) + 1) 1 (x5 + 1) q3.2
  else
    (mK_bond x5 2 q1.2).bind fun q4 =>
    (mK_in x3 q4.1 (q1.1 + 30) q4.2).bind fun q5 =>
    if q5.1 = 0 then
      j43 x1 x2 x3 x4 (x5 + 1) q5.2
    else
      j43 x1 x2 ((q1.1 + 30) + 1) 1 (x5 + 1) q5.2
def mK_free_114 (r25 : Int32 → Int32 → Int32 → Int32 → Mem → Option (Int32 × Mem)) (r43 : Int32 → Int32 → Int32 → Int32 → Int32 → Mem → Option (Int32 × Mem)) (x1 : Int32) (x2 : Int32) (x3 : Int32) (x4 : Int32) (x5 : Int32) (y0 : Int32) (M : Mem) : Option (Int32 × Mem) := mK_free_114b r43 x1 x2 x3 x4 x5 y0 M
def mK_free_43b (j25 : Int32 → Int32 → Int32 → Int32 → Mem → Option (Int32 × Mem)) (j43 : Int32 → Int32 → Int32 → Int32 → Int32 → Mem → Option (Int32 × Mem)) (j114 : Int32 → Int32 → Int32 → Int32 → Int32 → Int32 → Mem → Option (Int32 × Mem)) (x1 : Int32) (x2 : Int32) (x3 : Int32) (x4 : Int32) (x5 : Int32) (M : Mem) : Option (Int32 × Mem) :=
  if x5 < (M 41 0 0 5) then
    (mK_isContract x5 M).bind fun q1 =>
    if q1.1 = 0 then
      j43 x1 x2 x3 x4 (x5 + 1) q1.2
    else
      (mK_bond x5 1 q1.2).bind fun q2 =>
      if q2.1 = x1 then
        if x2 = 0 then
          j114 x1 x2 x3 x4 x5 0 q2.2
        else
          (mK_bond x5 11 q2.2).bind fun q3 =>
          if q3.1 = 0 then
            (mK_bond x5 3 q3.2).bind fun q4 =>
            if q4.1 < (q4.2 41 0 0 6) then
              j114 x1 x2 x3 x4 x5 0 q4.2
            else
              j114 x1 x2 x3 x4 x5 1 q4.2
          else
            j114 x1 x2 x3 x4 x5 0 q3.2
      else
        j43 x1 x2 x3 x4 (x5 + 1) q2.2
  else
    j25 x1 x2 x3 x4 M
def mK_free_43 (r25 : Int32 → Int32 → Int32 → Int32 → Mem → Option (Int32 × Mem)) : Nat → Int32 → Int32 → Int32 → Int32 → Int32 → Mem → Option (Int32 × Mem)
  | 0, _, _, _, _, _, _ => none
  | n + 1, x1, x2, x3, x4, x5, M => mK_free_43b r25 (mK_free_43 r25 n) (mK_free_114 r25 (mK_free_43 r25 n)) x1 x2 x3 x4 x5 M
def mK_free_25b (j43 : Int32 → Int32 → Int32 → Int32 → Int32 → Mem → Option (Int32 × Mem)) (x1 : Int32) (x2 : Int32) (x3 : Int32) (x4 : Int32) (M : Mem) : Option (Int32 × Mem) :=
  if x4 = 0 then
    if x3 ≤ 3000 then
      some (x3, M)
    else
      (mK_finds 2 M).bind fun q1 =>
      some (q1.1, q1.2)
  else
    if x3 ≤ 3000 then
      j43 x1 x2 x3 0 0 M
    else
      if x3 ≤ 3000 then
        some (x3, M)
      else
        (mK_finds 2 M).bind fun q2 =>
        some (q2.1, q2.2)
def mK_free_25 : Nat → Int32 → Int32 → Int32 → Int32 → Mem → Option (Int32 × Mem)
  | 0, _, _, _, _, _ => none
  | n + 1, x1, x2, x3, x4, M => mK_free_25b (mK_free_43 (mK_free_25 n) fuel) x1 x2 x3 x4 M
def mK_freeb (j25 : Int32 → Int32 → Int32 → Int32 → Mem → Option (Int32 × Mem)) (x1 : Int32) (x2 : Int32) (M : Mem) : Option (Int32 × Mem) :=
  (mK_isCompany x1 M).bind fun q1 =>
  if q1.1 = 0 then
    (mK_finds 1 q1.2).bind fun q2 =>
    some (q2.1, q2.2)
  else
    j25 x1 x2 (q1.2 41 0 0 6) 1 q1.2
def mK_free (x1 : Int32) (x2 : Int32) (M : Mem) : Option (Int32 × Mem) := mK_freeb (mK_free_25 fuel) x1 x2 M
/-! FreeLancesModel.isSheet -/
def mK_isSheet (x0 : Int32) (M : Mem) : Option (Int32 × Mem) :=
  (mK_in x0 0 3 M).bind fun q1 =>
  if q1.1 = 0 ∨ q1.1 = 1 then
    some (q1.1, q1.2)
  else
    none
/-! FreeLancesModel.marked -/
def mK_marked_2b (j2 : Int32 → Int32 → Int32 → Mem → Option (Int32 × Mem)) (x1 : Int32) (x2 : Int32) (x3 : Int32) (M : Mem) : Option (Int32 × Mem) :=
  if x3 < (M 41 0 0 3) then
    (mK_its x3 0 M).bind fun q1 =>
    if q1.1 = x1 then
      (mK_its x3 1 q1.2).bind fun q2 =>
      if q2.1 = x2 then
        (mK_its x3 3 q2.2).bind fun q3 =>
        if q3.1 ≤ 1 then
          some (x3, q3.2)
        else
          j2 x1 x2 (x3 + 1) q3.2
      else
        j2 x1 x2 (x3 + 1) q2.2
    else
      j2 x1 x2 (x3 + 1) q1.2
  else
    some ((-1), M)
def mK_marked_2 : Nat → Int32 → Int32 → Int32 → Mem → Option (Int32 × Mem)
  | 0, _, _, _, _ => none
  | n + 1, x1, x2, x3, M => mK_marked_2b (mK_marked_2 n) x1 x2 x3 M
def mK_markedb (j2 : Int32 → Int32 → Int32 → Mem → Option (Int32 × Mem)) (x1 : Int32) (x2 : Int32) (M : Mem) : Option (Int32 × Mem) :=
  j2 x1 x2 0 M
def mK_marked (x1 : Int32) (x2 : Int32) (M : Mem) : Option (Int32 × Mem) := mK_markedb (mK_marked_2 fuel) x1 x2 M
/-! FreeLancesModel.counts -/
def mK_counts (x1 : Int32) (M : Mem) : Option (Int32 × Mem) :=
  (mK_inForce 0 (M 41 0 0 6) M).bind fun q1 =>
  if q1.1 < 0 then
    (mK_its x1 3 q1.2).bind fun q2 =>
    if q2.1 = 0 then
      some (1, q2.2)
    else
      some (0, q2.2)
  else
    (mK_its x1 2 q1.2).bind fun q3 =>
    (mK_its x1 1 q3.2).bind fun q4 =>
    (mK_its x1 3 q4.2).bind fun q5 =>
    (mK_comesTo q1.1 q3.1 q4.1 q5.1 q5.2).bind fun q6 =>
    if q6.1 = 0 then
      some (0, q6.2)
    else
      some (1, q6.2)
/-! FreeLancesModel.muster -/
def mK_muster_172b (j135 : Int32 → Int32 → Int32 → Int32 → Mem → Option (Int32 × Mem)) (x1 : Int32) (x2 : Int32) (x4 : Int32) (x5 : Int32) (y0 : Int32) (M : Mem) : Option (Int32 × Mem) :=
  ixx ((24 * x2) + x5) 96 fun k1 =>
  if (M 66 0 0 k1) < 0 then
    (mK_sets x1 (10 + x5) y0 M).bind fun q2 =>
    j135 x1 x2 x4 (x5 + 1) q2
  else
    ixx ((24 * x2) + x5) 96 fun k3 =>
    (mK_sets x1 (10 + x5) (M 66 0 0 k3) M).bind fun q4 =>
    j135 x1 x2 x4 (x5 + 1) q4
def mK_muster_172 (r135 : Int32 → Int32 → Int32 → Int32 → Mem → Option (Int32 × Mem)) (x1 : Int32) (x2 : Int32) (x4 : Int32) (x5 : Int32) (y0 : Int32) (M : Mem) : Option (Int32 × Mem) := mK_muster_172b r135 x1 x2 x4 x5 y0 M
def mK_muster_263b (j225 : Int32 → Int32 → Int32 → Int32 → Mem → Option (Int32 × Mem)) (j263 : Int32 → Int32 → Int32 → Int32 → Int32 → Int32 → Int32 → Mem → Option (Int32 × Mem)) (x1 : Int32) (x2 : Int32) (x4 : Int32) (x5 : Int32) (x6 : Int32) (x7 : Int32) (x8 : Int32) (M : Mem) : Option (Int32 × Mem) :=
  if x8 < x5 then
    if x7 = 0 then
      (mK_own x1 (10 + x8) M).bind fun q1 =>
      if q1.1 = x6 then
        j263 x1 x2 x4 x5 x6 1 (x8 + 1) q1.2
      else
        j263 x1 x2 x4 x5 x6 0 (x8 + 1) q1.2
    else
      j263 x1 x2 x4 x5 x6 1 (x8 + 1) M
  else
    if x7 = 0 then
      (mK_marked x1 x6 M).bind fun q2 =>
      if q2.1 < 0 then
        j225 x1 x2 (x4 + 0) (x5 + 1) q2.2
      else
        (mK_counts q2.1 q2.2).bind fun q3 =>
        if q3.1 = 0 then
          j225 x1 x2 (x4 + 0) (x5 + 1) q3.2
        else
          j225 x1 x2 (x4 + 1) (x5 + 1) q3.2
    else
      j225 x1 x2 (x4 + 0) (x5 + 1) M
def mK_muster_263 (r225 : Int32 → Int32 → Int32 → Int32 → Mem → Option (Int32 × Mem)) : Nat → Int32 → Int32 → Int32 → Int32 → Int32 → Int32 → Int32 → Mem → Option (Int32 × Mem)
  | 0, _, _, _, _, _, _, _, _ => none
  | n + 1, x1, x2, x4, x5, x6, x7, x8, M => mK_muster_263b r225 (mK_muster_263 r225 n) x1 x2 x4 x5 x6 x7 x8 M
def mK_muster_225b (j263 : Int32 → Int32 → Int32 → Int32 → Int32 → Int32 → Int32 → Mem → Option (Int32 × Mem)) (x1 : Int32) (x2 : Int32) (x4 : Int32) (x5 : Int32) (M : Mem) : Option (Int32 × Mem) :=
  ixx x2 4 fun k1 =>
  if x5 < (M 65 0 0 k1) then
    (mK_own x1 (10 + x5) M).bind fun q2 =>
    if q2.1 < 0 then
      j263 x1 x2 x4 x5 q2.1 1 0 q2.2
    else
      j263 x1 x2 x4 x5 q2.1 0 0 q2.2
  else
    ixx x2 4 fun k3 =>
    (mK_sets x1 9 (M 65 0 0 k3) M).bind fun q4 =>
    (mK_sets x1 6 x4 q4).bind fun q5 =>
    (mK_sets x1 7 (q5 41 0 0 6) q5).bind fun q6 =>
    (mK_own x1 2 q6).bind fun q7 =>
    (mK_sets x1 8 q7.1 q7.2).bind fun q8 =>
    some (x4, q8)
def mK_muster_225 : Nat → Int32 → Int32 → Int32 → Int32 → Mem → Option (Int32 × Mem)
  | 0, _, _, _, _, _ => none
  | n + 1, x1, x2, x4, x5, M => mK_muster_225b (mK_muster_263 (mK_muster_225 n) fuel) x1 x2 x4 x5 M
def mK_muster_135b (j172 : Int32 → Int32 → Int32 → Int32 → Int32 → Mem → Option (Int32 × Mem)) (j225 : Int32 → Int32 → Int32 → Int32 → Mem → Option (Int32 × Mem)) (x1 : Int32) (x2 : Int32) (x4 : Int32) (x5 : Int32) (M : Mem) : Option (Int32 × Mem) :=
  ixx x2 4 fun k1 =>
  if x5 < (M 65 0 0 k1) then
    (mK_own x1 9 M).bind fun q2 =>
    if x5 < q2.1 then
      (mK_own x1 (10 + x5) q2.2).bind fun q3 =>
      j172 x1 x2 x4 x5 q3.1 q3.2
    else
      j172 x1 x2 x4 x5 (-1) q2.2
  else
    j225 x1 x2 x4 0 M
def mK_muster_135 : Nat → Int32 → Int32 → Int32 → Int32 → Mem → Option (Int32 × Mem)
  | 0, _, _, _, _, _ => none
  | n + 1, x1, x2, x4, x5, M => mK_muster_135b (mK_muster_172 (mK_muster_135 n)) (mK_muster_225 fuel) x1 x2 x4 x5 M
def mK_muster_71b (j71 : Int32 → Int32 → Int32 → Int32 → Mem → Option (Int32 × Mem)) (j135 : Int32 → Int32 → Int32 → Int32 → Mem → Option (Int32 × Mem)) (x1 : Int32) (x2 : Int32) (x3 : Int32) (x4 : Int32) (M : Mem) : Option (Int32 × Mem) :=
  ixx x2 4 fun k1 =>
  if x4 < (M 65 0 0 k1) then
    if x3 = 0 then
      j71 x1 x2 0 (x4 + 1) M
    else
      ixx ((24 * x2) + x4) 96 fun k2 =>
      (mK_in (M 66 0 0 k2) (-1) 99 M).bind fun q3 =>
      if q3.1 = 0 then
        j71 x1 x2 0 (x4 + 1) q3.2
      else
        j71 x1 x2 1 (x4 + 1) q3.2
  else
    if x3 = 0 then
      (mK_finds 5 M).bind fun q4 =>
      some (q4.1, q4.2)
    else
      j135 x1 x2 0 0 M
def mK_muster_71 : Nat → Int32 → Int32 → Int32 → Int32 → Mem → Option (Int32 × Mem)
  | 0, _, _, _, _, _ => none
  | n + 1, x1, x2, x3, x4, M => mK_muster_71b (mK_muster_71 n) (mK_muster_135 fuel) x1 x2 x3 x4 M
def mK_musterb (j71 : Int32 → Int32 → Int32 → Int32 → Mem → Option (Int32 × Mem)) (x1 : Int32) (x2 : Int32) (M : Mem) : Option (Int32 × Mem) :=
  (mK_isCompany x1 M).bind fun q1 =>
  if q1.1 = 0 then
    (mK_finds 1 q1.2).bind fun q2 =>
    some (q2.1, q2.2)
  else
    (mK_isSheet x2 q1.2).bind fun q3 =>
    if q3.1 = 0 then
      (mK_finds 1 q3.2).bind fun q4 =>
      some (q4.1, q4.2)
    else
      ixx x2 4 fun k5 =>
      if (q3.2 64 0 0 k5) = 0 then
        (mK_finds 2 q3.2).bind fun q6 =>
        some (q6.1, q6.2)
      else
        (mK_own x1 2 q3.2).bind fun q7 =>
        if q7.1 < 0 then
          (mK_finds 3 q7.2).bind fun q8 =>
          some (q8.1, q8.2)
        else
          ixx x2 4 fun k9 =>
          if (q7.2 65 0 0 k9) ≤ 12 then
            j71 x1 x2 1 0 q7.2
          else
            j71 x1 x2 0 0 q7.2
def mK_muster (x1 : Int32) (x2 : Int32) (M : Mem) : Option (Int32 × Mem) := mK_musterb (mK_muster_71 fuel) x1 x2 M
/-! FreeLancesModel.isShown -/
def mK_isShown_2b (j2 : Int32 → Int32 → Int32 → Mem → Option (Int32 × Mem)) (x1 : Int32) (x2 : Int32) (x3 : Int32) (M : Mem) : Option (Int32 × Mem) :=
  (mK_own x1 9 M).bind fun q1 =>
  if x3 < q1.1 then
    (mK_own x1 (10 + x3) q1.2).bind fun q2 =>
    if q2.1 = x2 then
      some (1, q2.2)
    else
      j2 x1 x2 (x3 + 1) q2.2
  else
    some (0, q1.2)
def mK_isShown_2 : Nat → Int32 → Int32 → Int32 → Mem → Option (Int32 × Mem)
  | 0, _, _, _, _ => none
  | n + 1, x1, x2, x3, M => mK_isShown_2b (mK_isShown_2 n) x1 x2 x3 M
def mK_isShownb (j2 : Int32 → Int32 → Int32 → Mem → Option (Int32 × Mem)) (x1 : Int32) (x2 : Int32) (M : Mem) : Option (Int32 × Mem) :=
  j2 x1 x2 0 M
def mK_isShown (x1 : Int32) (x2 : Int32) (M : Mem) : Option (Int32 × Mem) := mK_isShownb (mK_isShown_2 fuel) x1 x2 M
/-! FreeLancesModel.twiceOf -/
def mK_twiceOf (x1 : Int32) (x2 : Int32) (x3 : Int32) (M : Mem) : Option (Int32 × Mem) :=
  (mK_isShown x2 x1 M).bind fun q1 =>
  if q1.1 = 0 then
    some (0, q1.2)
  else
    (mK_isShown x3 x1 q1.2).bind fun q2 =>
    if q2.1 = 0 then
      some (0, q2.2)
    else
      (mK_own x2 7 q2.2).bind fun q3 =>
      (mK_own x3 7 q3.2).bind fun q4 =>
      (mK_own x2 8 q4.2).bind fun q5 =>
      (mK_own x3 8 q5.2).bind fun q6 =>
      (mK_farOf q5.1 q6.1 q6.2).bind fun q7 =>
      if q7.1 < 0 then
        some (2, q7.2)
      else
        if (q3.1 - q4.1) < 0 then
          if (-(q3.1 - q4.1)) < q7.1 then
            some (2, q7.2)
          else
            some (1, q7.2)
        else
          if (q3.1 - q4.1) < q7.1 then
            some (2, q7.2)
          else
            some (1, q7.2)
/-! FreeLancesModel.twice -/
def mK_twice (x1 : Int32) (x2 : Int32) (x3 : Int32) (M : Mem) : Option (Int32 × Mem) :=
  (mK_in x1 0 99 M).bind fun q1 =>
  if q1.1 = 0 then
    (mK_finds 1 q1.2).bind fun q2 =>
    some (q2.1, q2.2)
  else
    (mK_isCompany x2 q1.2).bind fun q3 =>
    if q3.1 = 0 then
      (mK_finds 1 q3.2).bind fun q4 =>
      some (q4.1, q4.2)
    else
      (mK_isCompany x3 q3.2).bind fun q5 =>
      if q5.1 = 0 then
        (mK_finds 1 q5.2).bind fun q6 =>
        some (q6.1, q6.2)
      else
        if x2 = x3 then
          (mK_finds 1 q5.2).bind fun q7 =>
          some (q7.1, q7.2)
        else
          (mK_twiceOf x1 x2 x3 q5.2).bind fun q8 =>
          some (q8.1, q8.2)
/-! FreeLancesModel.shown -/
def mK_shown_26b (j14 : Int32 → Int32 → Mem → Option (Int32 × Mem)) (j26 : Int32 → Int32 → Int32 → Int32 → Mem → Option (Int32 × Mem)) (x2 : Int32) (x3 : Int32) (x4 : Int32) (x5 : Int32) (M : Mem) : Option (Int32 × Mem) :=
  if x5 < (M 41 0 0 2) then
    (mK_isShown x5 x3 M).bind fun q1 =>
    if q1.1 = 0 then
      j26 x2 x3 (x4 + 0) (x5 + 1) q1.2
    else
      j26 x2 x3 (x4 + 1) (x5 + 1) q1.2
  else
    if x4 < 2 then
      j14 x2 (x3 + 1) M
    else
      if x2 = 0 then
        some (x3, M)
      else
        j14 (x2 + (-1)) (x3 + 1) M
def mK_shown_26 (r14 : Int32 → Int32 → Mem → Option (Int32 × Mem)) : Nat → Int32 → Int32 → Int32 → Int32 → Mem → Option (Int32 × Mem)
  | 0, _, _, _, _, _ => none
  | n + 1, x2, x3, x4, x5, M => mK_shown_26b r14 (mK_shown_26 r14 n) x2 x3 x4 x5 M
def mK_shown_14b (j26 : Int32 → Int32 → Int32 → Int32 → Mem → Option (Int32 × Mem)) (x2 : Int32) (x3 : Int32) (M : Mem) : Option (Int32 × Mem) :=
  if x3 < 100 then
    j26 x2 x3 0 0 M
  else
    (mK_finds 2 M).bind fun q1 =>
    some (q1.1, q1.2)
def mK_shown_14 : Nat → Int32 → Int32 → Mem → Option (Int32 × Mem)
  | 0, _, _, _ => none
  | n + 1, x2, x3, M => mK_shown_14b (mK_shown_26 (mK_shown_14 n) fuel) x2 x3 M
def mK_shownb (j14 : Int32 → Int32 → Mem → Option (Int32 × Mem)) (x1 : Int32) (M : Mem) : Option (Int32 × Mem) :=
  if x1 < 0 then
    (mK_finds 1 M).bind fun q1 =>
    some (q1.1, q1.2)
  else
    j14 x1 0 M
def mK_shown (x1 : Int32) (M : Mem) : Option (Int32 × Mem) := mK_shownb (mK_shown_14 fuel) x1 M
/-! FreeLancesModel.hold -/
def mK_hold_62b (j62 : Int32 → Int32 → Int32 → Int32 → Mem → Option (Int32 × Mem)) (x1 : Int32) (x5 : Int32) (x6 : Int32) (x7 : Int32) (M : Mem) : Option (Int32 × Mem) :=
  if x7 ≤ 400 then
    (mK_ofTown x1 3 M).bind fun q1 =>
    (mK_ofTown x1 2 q1.2).bind fun q2 =>
    if ((x5 - x6) + (q1.1 / 10)) ≤ q2.1 then
      if ((x5 - x6) + (q1.1 / 10)) ≤ 0 then
        some (x7, q2.2)
      else
        j62 x1 ((x5 - x6) + (q1.1 / 10)) x6 (x7 + 1) q2.2
    else
      (mK_ofTown x1 2 q2.2).bind fun q3 =>
      if q3.1 ≤ 0 then
        some (x7, q3.2)
      else
        j62 x1 q3.1 x6 (x7 + 1) q3.2
  else
    (mK_finds 2 M).bind fun q4 =>
    some (q4.1, q4.2)
def mK_hold_62 : Nat → Int32 → Int32 → Int32 → Int32 → Mem → Option (Int32 × Mem)
  | 0, _, _, _, _, _ => none
  | n + 1, x1, x5, x6, x7, M => mK_hold_62b (mK_hold_62 n) x1 x5 x6 x7 M
def mK_holdb (j62 : Int32 → Int32 → Int32 → Int32 → Mem → Option (Int32 × Mem)) (x1 : Int32) (x2 : Int32) (x3 : Int32) (x4 : Int32) (M : Mem) : Option (Int32 × Mem) :=
  (mK_isTown x1 M).bind fun q1 =>
  if q1.1 = 0 then
    (mK_finds 1 q1.2).bind fun q2 =>
    some (q2.1, q2.2)
  else
    (mK_isCompany x2 q1.2).bind fun q3 =>
    if q3.1 = 0 then
      (mK_finds 1 q3.2).bind fun q4 =>
      some (q4.1, q4.2)
    else
      (mK_in x3 0 99 q3.2).bind fun q5 =>
      if q5.1 = 0 then
        (mK_finds 1 q5.2).bind fun q6 =>
        some (q6.1, q6.2)
      else
        (mK_ofTown x1 2 q5.2).bind fun q7 =>
        if x4 = 0 then
          j62 x1 q7.1 (x3 + 0) 1 q7.2
        else
          (mK_manySo x2 0 q7.2).bind fun q8 =>
          j62 x1 q7.1 (x3 + q8.1) 1 q8.2
def mK_hold (x1 : Int32) (x2 : Int32) (x3 : Int32) (x4 : Int32) (M : Mem) : Option (Int32 × Mem) := mK_holdb (mK_hold_62 fuel) x1 x2 x3 x4 M
/-! FreeLancesModel.isOfThrees -/
def mK_isOfThrees_36b (j36 : Int32 → Int32 → Int32 → Mem → Option (Int32 × Mem)) (x1 : Int32) (x3 : Int32) (x4 : Int32) (M : Mem) : Option (Int32 × Mem) :=
  ixx x1 4 fun k1 =>
  if x4 < (M 65 0 0 k1) then
    if x3 = 0 then
      j36 x1 0 (x4 + 1) M
    else
      ixx ((24 * x1) + x4) 96 fun k2 =>
      (mK_in (M 66 0 0 k2) 0 9999 M).bind fun q3 =>
      if q3.1 = 0 then
        j36 x1 0 (x4 + 1) q3.2
      else
        j36 x1 1 (x4 + 1) q3.2
  else
    if x3 = 0 ∨ x3 = 1 then
      some (x3, M)
    else
      none
def mK_isOfThrees_36 : Nat → Int32 → Int32 → Int32 → Mem → Option (Int32 × Mem)
  | 0, _, _, _, _ => none
  | n + 1, x1, x3, x4, M => mK_isOfThrees_36b (mK_isOfThrees_36 n) x1 x3 x4 M
def mK_isOfThreesb (j36 : Int32 → Int32 → Int32 → Mem → Option (Int32 × Mem)) (x1 : Int32) (x2 : Int32) (M : Mem) : Option (Int32 × Mem) :=
  ixx x1 4 fun k1 =>
  if ((M 65 0 0 k1) - (M 65 0 0 k1) / 3 * 3) = 0 then
    ixx x1 4 fun k2 =>
    (mK_in ((M 65 0 0 k2) / 3) 1 x2 M).bind fun q3 =>
    if q3.1 = 0 then
      j36 x1 0 0 q3.2
    else
      j36 x1 1 0 q3.2
  else
    j36 x1 0 0 M
def mK_isOfThrees (x1 : Int32) (x2 : Int32) (M : Mem) : Option (Int32 × Mem) := mK_isOfThreesb (mK_isOfThrees_36 fuel) x1 x2 M
/-! FreeLancesModel.ask -/
def mK_ask_109b (j88 : Int32 → Int32 → Int32 → Int32 → Int32 → Int32 → Int32 → Mem → Option (Int32 × Mem)) (j109 : Int32 → Int32 → Int32 → Int32 → Int32 → Int32 → Int32 → Int32 → Int32 → Int32 → Int32 → Mem → Option (Int32 × Mem)) (x1 : Int32) (x2 : Int32) (x3 : Int32) (x4 : Int32) (x5 : Int32) (x6 : Int32) (x7 : Int32) (x8 : Int32) (x9 : Int32) (x10 : Int32) (x11 : Int32) (M : Mem) : Option (Int32 × Mem) :=
  if x11 < x4 then
    if ((x7 >>> (((x4 - 1) - x11) &&& 31)) &&& 1) = 0 then
      ixx (((24 * x2) + (3 * x11)) + 1) 96 fun k1 =>
      j109 x1 x2 x3 x4 x5 x6 x7 x8 (x9 + (M 66 0 0 k1)) x10 (x11 + 1) M
    else
      ixx ((24 * x2) + (3 * x11)) 96 fun k2 =>
      ixx (((24 * x2) + (3 * x11)) + 2) 96 fun k3 =>
      j109 x1 x2 x3 x4 x5 x6 x7 (x8 + ((M 66 0 0 k2) + x10)) x9 (x10 + (M 66 0 0 k3)) (x11 + 1) M
  else
    (mK_ofTown x1 0 M).bind fun q4 =>
    if x8 ≤ q4.1 then
      if x5 < 0 then
        j88 x1 x2 x3 x4 x7 (x8 + x9) (x7 + 1) q4.2
      else
        if (x8 + x9) < x6 then
          j88 x1 x2 x3 x4 x7 (x8 + x9) (x7 + 1) q4.2
        else
          j88 x1 x2 x3 x4 x5 x6 (x7 + 1) q4.2
    else
      j88 x1 x2 x3 x4 x5 x6 (x7 + 1) q4.2
def mK_ask_109 (r88 : Int32 → Int32 → Int32 → Int32 → Int32 → Int32 → Int32 → Mem → Option (Int32 × Mem)) : Nat → Int32 → Int32 → Int32 → Int32 → Int32 → Int32 → Int32 → Int32 → Int32 → Int32 → Int32 → Mem → Option (Int32 × Mem)
  | 0, _, _, _, _, _, _, _, _, _, _, _, _ => none
  | n + 1, x1, x2, x3, x4, x5, x6, x7, x8, x9, x10, x11, M => mK_ask_109b r88 (mK_ask_109 r88 n) x1 x2 x3 x4 x5 x6 x7 x8 x9 x10 x11 M
def mK_ask_88b (j109 : Int32 → Int32 → Int32 → Int32 → Int32 → Int32 → Int32 → Int32 → Int32 → Int32 → Int32 → Mem → Option (Int32 × Mem)) (x1 : Int32) (x2 : Int32) (x3 : Int32) (x4 : Int32) (x5 : Int32) (x6 : Int32) (x7 : Int32) (M : Mem) : Option (Int32 × Mem) :=
  if x7 < (1 <<< (x4 &&& 31)) then
    j109 x1 x2 x3 x4 x5 x6 x7 0 0 0 0 M
  else
    if x3 < 0 then
      some (x6, M)
    else
      some ((x5 >>> (((x4 - 1) - x3) &&& 31)) &&& 1, M)
def mK_ask_88 : Nat → Int32 → Int32 → Int32 → Int32 → Int32 → Int32 → Int32 → Mem → Option (Int32 × Mem)
  | 0, _, _, _, _, _, _, _, _ => none
  | n + 1, x1, x2, x3, x4, x5, x6, x7, M => mK_ask_88b (mK_ask_109 (mK_ask_88 n) fuel) x1 x2 x3 x4 x5 x6 x7 M
def mK_askb (j88 : Int32 → Int32 → Int32 → Int32 → Int32 → Int32 → Int32 → Mem → Option (Int32 × Mem)) (x1 : Int32) (x2 : Int32) (x3 : Int32) (M : Mem) : Option (Int32 × Mem) :=
  (mK_isTown x1 M).bind fun q1 =>
  if q1.1 = 0 then
    (mK_finds 1 q1.2).bind fun q2 =>
    some (q2.1, q2.2)
  else
    (mK_isSheet x2 q1.2).bind fun q3 =>
    if q3.1 = 0 then
      (mK_finds 1 q3.2).bind fun q4 =>
      some (q4.1, q4.2)
    else
      ixx x2 4 fun k5 =>
      if (q3.2 64 0 0 k5) = 0 then
        (mK_finds 2 q3.2).bind fun q6 =>
        some (q6.1, q6.2)
      else
        (mK_isOfThrees x2 4 q3.2).bind fun q7 =>
        if q7.1 = 0 then
          (mK_finds 5 q7.2).bind fun q8 =>
          some (q8.1, q8.2)
        else
          ixx x2 4 fun k9 =>
          (mK_in x3 (-1) (((q7.2 65 0 0 k9) / 3) - 1) q7.2).bind fun q10 =>
          if q10.1 = 0 then
            (mK_finds 1 q10.2).bind fun q11 =>
            some (q11.1, q11.2)
          else
            j88 x1 x2 x3 ((q7.2 65 0 0 k9) / 3) (-1) 0 0 q10.2
def mK_ask (x1 : Int32) (x2 : Int32) (x3 : Int32) (M : Mem) : Option (Int32 × Mem) := mK_askb (mK_ask_88 fuel) x1 x2 x3 M
/-! FreeLancesModel.parts -/
def mK_parts_231b (j231 : Int32 → Int32 → Int32 → Int32 → Int32 → Int32 → Int32 → Int32 → Mem → Option (Int32 × Mem)) (x1 : Int32) (x2 : Int32) (x3 : Int32) (x4 : Int32) (x6 : Int32) (x7 : Int32) (x8 : Int32) (x9 : Int32) (M : Mem) : Option (Int32 × Mem) :=
  ixx x2 4 fun k1 =>
  if x9 < (M 65 0 0 k1) then
    ixx ((24 * x2) + x9) 96 fun k2 =>
    if x4 = 0 then
      none
    else
      let t3 : Int32 := (x1 * (M 66 0 0 k2)) - (x1 * (M 66 0 0 k2)) / x4 * x4
      if t3 ≤ x7 then
        if t3 = x7 then
          if x9 < x3 then
            j231 x1 x2 x3 x4 x6 x7 (x8 + 1) (x9 + 1) M
          else
            j231 x1 x2 x3 x4 x6 x7 (x8 + 0) (x9 + 1) M
        else
          j231 x1 x2 x3 x4 x6 x7 (x8 + 0) (x9 + 1) M
      else
        j231 x1 x2 x3 x4 x6 x7 (x8 + 1) (x9 + 1) M
  else
    ixx ((24 * x2) + x3) 96 fun k4 =>
    if x4 = 0 then
      none
    else
      if x8 < x6 then
        some (((x1 * (M 66 0 0 k4)) / x4) + 1, M)
      else
        some (((x1 * (M 66 0 0 k4)) / x4) + 0, M)
def mK_parts_231 : Nat → Int32 → Int32 → Int32 → Int32 → Int32 → Int32 → Int32 → Int32 → Mem → Option (Int32 × Mem)
  | 0, _, _, _, _, _, _, _, _, _ => none
  | n + 1, x1, x2, x3, x4, x6, x7, x8, x9, M => mK_parts_231b (mK_parts_231 n) x1 x2 x3 x4 x6 x7 x8 x9 M
def mK_parts_168b (j168 : Int32 → Int32 → Int32 → Int32 → Int32 → Int32 → Mem → Option (Int32 × Mem)) (j231 : Int32 → Int32 → Int32 → Int32 → Int32 → Int32 → Int32 → Int32 → Mem → Option (Int32 × Mem)) (x1 : Int32) (x2 : Int32) (x3 : Int32) (x4 : Int32) (x6 : Int32) (x7 : Int32) (M : Mem) : Option (Int32 × Mem) :=
  ixx x2 4 fun k1 =>
  if x7 < (M 65 0 0 k1) then
    ixx ((24 * x2) + x7) 96 fun k2 =>
    if x4 = 0 then
      none
    else
      j168 x1 x2 x3 x4 (x6 - ((x1 * (M 66 0 0 k2)) / x4)) (x7 + 1) M
  else
    ixx ((24 * x2) + x3) 96 fun k3 =>
    if x4 = 0 then
      none
    else
      let t4 : Int32 := (x1 * (M 66 0 0 k3)) - (x1 * (M 66 0 0 k3)) / x4 * x4
      j231 x1 x2 x3 x4 x6 t4 0 0 M
def mK_parts_168 : Nat → Int32 → Int32 → Int32 → Int32 → Int32 → Int32 → Mem → Option (Int32 × Mem)
  | 0, _, _, _, _, _, _, _ => none
  | n + 1, x1, x2, x3, x4, x6, x7, M => mK_parts_168b (mK_parts_168 n) (mK_parts_231 fuel) x1 x2 x3 x4 x6 x7 M
def mK_parts_47b (j47 : Int32 → Int32 → Int32 → Int32 → Int32 → Int32 → Mem → Option (Int32 × Mem)) (j168 : Int32 → Int32 → Int32 → Int32 → Int32 → Int32 → Mem → Option (Int32 × Mem)) (x1 : Int32) (x2 : Int32) (x3 : Int32) (x4 : Int32) (x5 : Int32) (x6 : Int32) (M : Mem) : Option (Int32 × Mem) :=
  ixx x2 4 fun k1 =>
  if x6 < (M 65 0 0 k1) then
    if x5 = 0 then
      j47 x1 x2 x3 (x4 + 0) 0 (x6 + 1) M
    else
      ixx ((24 * x2) + x6) 96 fun k2 =>
      (mK_in (M 66 0 0 k2) 0 999 M).bind fun q3 =>
      if q3.1 = 0 then
        j47 x1 x2 x3 (x4 + 0) 0 (x6 + 1) q3.2
      else
        ixx ((24 * x2) + x6) 96 fun k4 =>
        j47 x1 x2 x3 (x4 + (q3.2 66 0 0 k4)) 1 (x6 + 1) q3.2
  else
    if x5 = 0 then
      (mK_finds 5 M).bind fun q5 =>
      some (q5.1, q5.2)
    else
      if x4 = 0 then
        (mK_finds 5 M).bind fun q6 =>
        some (q6.1, q6.2)
      else
        ixx x2 4 fun k7 =>
        (mK_in x3 0 ((M 65 0 0 k7) - 1) M).bind fun q8 =>
        if q8.1 = 0 then
          (mK_finds 1 q8.2).bind fun q9 =>
          some (q9.1, q9.2)
        else
          j168 x1 x2 x3 x4 x1 0 q8.2
def mK_parts_47 : Nat → Int32 → Int32 → Int32 → Int32 → Int32 → Int32 → Mem → Option (Int32 × Mem)
  | 0, _, _, _, _, _, _, _ => none
  | n + 1, x1, x2, x3, x4, x5, x6, M => mK_parts_47b (mK_parts_47 n) (mK_parts_168 fuel) x1 x2 x3 x4 x5 x6 M
def mK_partsb (j47 : Int32 → Int32 → Int32 → Int32 → Int32 → Int32 → Mem → Option (Int32 × Mem)) (x1 : Int32) (x2 : Int32) (x3 : Int32) (M : Mem) : Option (Int32 × Mem) :=
  (mK_in x1 0 99999 M).bind fun q1 =>
  if q1.1 = 0 then
    (mK_finds 1 q1.2).bind fun q2 =>
    some (q2.1, q2.2)
  else
    (mK_isSheet x2 q1.2).bind fun q3 =>
    if q3.1 = 0 then
      (mK_finds 1 q3.2).bind fun q4 =>
      some (q4.1, q4.2)
    else
      ixx x2 4 fun k5 =>
      if (q3.2 64 0 0 k5) = 0 then
        (mK_finds 2 q3.2).bind fun q6 =>
        some (q6.1, q6.2)
      else
        j47 x1 x2 x3 0 1 0 q3.2
def mK_parts (x1 : Int32) (x2 : Int32) (x3 : Int32) (M : Mem) : Option (Int32 × Mem) := mK_partsb (mK_parts_47 fuel) x1 x2 x3 M
/-! FreeLancesModel.share -/
def mK_share (x1 : Int32) (M : Mem) : Option (Int32 × Mem) :=
  (mK_in x1 0 99999 M).bind fun q1 =>
  if q1.1 = 0 then
    (mK_finds 1 q1.2).bind fun q2 =>
    some (q2.1, q2.2)
  else
    (mK_inForce 3 (q1.2 41 0 0 6) q1.2).bind fun q3 =>
    if q3.1 < 0 then
      if (x1 / 3) < 0 then
        some (0, q3.2)
      else
        if (x1 / 3) ≤ x1 then
          some (x1 / 3, q3.2)
        else
          some (x1, q3.2)
    else
      (mK_comesTo q3.1 x1 0 0 q3.2).bind fun q4 =>
      if q4.1 < 0 then
        some (0, q4.2)
      else
        if q4.1 ≤ x1 then
          some (q4.1, q4.2)
        else
          some (x1, q4.2)
/-! FreeLancesModel.winter -/
def mK_winter (x1 : Int32) (x2 : Int32) (x3 : Int32) (M : Mem) : Option (Int32 × Mem) :=
  (mK_isCompany x1 M).bind fun q1 =>
  if q1.1 = 0 then
    (mK_finds 1 q1.2).bind fun q2 =>
    some (q2.1, q2.2)
  else
    (mK_isTown x2 q1.2).bind fun q3 =>
    if q3.1 = 0 then
      (mK_finds 1 q3.2).bind fun q4 =>
      some (q4.1, q4.2)
    else
      (mK_in x3 0 9999 q3.2).bind fun q5 =>
      if q5.1 = 0 then
        (mK_finds 1 q5.2).bind fun q6 =>
        some (q6.1, q6.2)
      else
        ixx ((1392 + (8 * x1)) + x2) 1502 fun k7 =>
        ixx ((1392 + (8 * x1)) + x2) 1502 fun k9 =>
        let M8 : Mem := up q5.2 41 0 0 k9 x3
        some (q5.2 41 0 0 k7, M8)
/-! FreeLancesModel.settle -/
def mK_settle_64b (rK_settle : Int32 → Int32 → Int32 → Mem → Option Mem) (j64 : Int32 → Int32 → Int32 → Int32 → Mem → Option Mem) (x1 : Int32) (x2 : Int32) (x3 : Int32) (x4 : Int32) (M : Mem) : Option Mem :=
  if x4 < (M 41 0 0 0) then
    if ((x2 >>> (x4 &&& 31)) &&& 1) = 1 then
      j64 x1 x2 x3 (x4 + 1) M
    else
      ixx x1 5 fun k2 =>
      let M1 : Mem := up M 54 0 0 k2 x4
      ixx ((1392 + (8 * x1)) + x4) 1502 fun k3 =>
      (rK_settle (x1 + 1) (x2 ||| (1 <<< (x4 &&& 31))) (x3 + (M1 41 0 0 k3)) M1).bind fun q4 =>
      j64 x1 x2 x3 (x4 + 1) q4
  else
    some M
def mK_settle_64 (rK_settle : Int32 → Int32 → Int32 → Mem → Option Mem) : Nat → Int32 → Int32 → Int32 → Int32 → Mem → Option Mem
  | 0, _, _, _, _, _ => none
  | n + 1, x1, x2, x3, x4, M => mK_settle_64b rK_settle (mK_settle_64 rK_settle n) x1 x2 x3 x4 M
def mK_settle_34b (rK_settle : Int32 → Int32 → Int32 → Mem → Option Mem) (j34 : Int32 → Int32 → Mem → Option Mem) (x1 : Int32) (x4 : Int32) (M : Mem) : Option Mem :=
  if x4 < x1 then
    ixx x4 5 fun k1 =>
    ixx x4 5 fun k3 =>
    let M2 : Mem := up M 55 0 0 k3 (M 54 0 0 k1)
    j34 x1 (x4 + 1) M2
  else
    some M
def mK_settle_34 (rK_settle : Int32 → Int32 → Int32 → Mem → Option Mem) : Nat → Int32 → Int32 → Mem → Option Mem
  | 0, _, _, _ => none
  | n + 1, x1, x4, M => mK_settle_34b rK_settle (mK_settle_34 rK_settle n) x1 x4 M
def mK_settleb (rK_settle : Int32 → Int32 → Int32 → Mem → Option Mem) (j34 : Int32 → Int32 → Mem → Option Mem) (j64 : Int32 → Int32 → Int32 → Int32 → Mem → Option Mem) (x1 : Int32) (x2 : Int32) (x3 : Int32) (M : Mem) : Option Mem :=
  if (M 40 0 0 15) < 0 then
    if x1 = (M 41 0 0 2) then
      let M1 : Mem := up M 40 0 0 15 x3
      j34 x1 0 M1
    else
      j64 x1 x2 x3 0 M
  else
    if x3 < (M 40 0 0 15) then
      if x1 = (M 41 0 0 2) then
        let M2 : Mem := up M 40 0 0 15 x3
        j34 x1 0 M2
      else
        j64 x1 x2 x3 0 M
    else
      some M
def mK_settle (rK_settle : Int32 → Int32 → Int32 → Mem → Option Mem) (x1 : Int32) (x2 : Int32) (x3 : Int32) (M : Mem) : Option Mem := mK_settleb rK_settle (mK_settle_34 rK_settle fuel) (mK_settle_64 rK_settle fuel) x1 x2 x3 M
def g3 : Nat → Nat → Int32 → Int32 → Int32 → Mem → Option Mem
  | 0, _, _, _, _, _ => none
  | n + 1, 0, x1, x2, x3, M => mK_settle (fun x1 x2 x3 M => g3 n 0 x1 x2 x3 M) x1 x2 x3 M
  | _ + 1, _, _, _, _, _ => none
def xK_settle (x1 : Int32) (x2 : Int32) (x3 : Int32) (M : Mem) : Option Mem := g3 60 0 x1 x2 x3 M
/-! FreeLancesModel.findWinter -/
def mK_findWinter (M : Mem) : Option Mem :=
  let M1 : Mem := up M 40 0 0 15 (-1)
  (xK_settle 0 0 0 M1).bind fun q2 =>
  some q2
/-! FreeLancesModel.wintering -/
def mK_wintering (x1 : Int32) (M : Mem) : Option (Int32 × Mem) :=
  (mK_in x1 (-1) ((M 41 0 0 2) - 1) M).bind fun q1 =>
  if q1.1 = 0 then
    (mK_finds 1 q1.2).bind fun q2 =>
    some (q2.1, q2.2)
  else
    if (q1.2 41 0 0 0) < (q1.2 41 0 0 2) then
      (mK_finds 3 q1.2).bind fun q3 =>
      some (q3.1, q3.2)
    else
      (mK_findWinter q1.2).bind fun q4 =>
      if x1 < 0 then
        some (q4 40 0 0 15, q4)
      else
        ixx x1 5 fun k5 =>
        some (q4 55 0 0 k5, q4)
/-! FreeLancesModel.hires -/
def mK_hires_136b (rK_hires : Int32 → Int32 → Int32 → Mem → Option Mem) (j82 : Int32 → Int32 → Int32 → Int32 → Int32 → Mem → Option Mem) (x1 : Int32) (x2 : Int32) (x3 : Int32) (x4 : Int32) (x5 : Int32) (x6 : Int32) (y0 : Int32) (M : Mem) : Option Mem :=
  ixx (x4 + 2) 96 fun k1 =>
  if x5 < 0 then
    ixx x1 5 fun k3 =>
    let M2 : Mem := up M 57 0 0 k3 x5
    (rK_hires (x1 + 1) x5 (x3 + ((y0 + (x6 * (M 66 0 0 k1))) + 0)) M2).bind fun q4 =>
    j82 x1 x2 x3 x4 (x5 + 1) q4
  else
    if x5 = x2 then
      ixx x1 5 fun k6 =>
      let M5 : Mem := up M 57 0 0 k6 x5
      (rK_hires (x1 + 1) x5 (x3 + ((y0 + (x6 * (M 66 0 0 k1))) + 0)) M5).bind fun q7 =>
      j82 x1 x2 x3 x4 (x5 + 1) q7
    else
      ixx x1 5 fun k9 =>
      let M8 : Mem := up M 57 0 0 k9 x5
      (rK_hires (x1 + 1) x5 (x3 + ((y0 + (x6 * (M 66 0 0 k1))) + 10)) M8).bind fun q10 =>
      j82 x1 x2 x3 x4 (x5 + 1) q10
def mK_hires_136 (rK_hires : Int32 → Int32 → Int32 → Mem → Option Mem) (r82 : Int32 → Int32 → Int32 → Int32 → Int32 → Mem → Option Mem) (x1 : Int32) (x2 : Int32) (x3 : Int32) (x4 : Int32) (x5 : Int32) (x6 : Int32) (y0 : Int32) (M : Mem) : Option Mem := mK_hires_136b rK_hires r82 x1 x2 x3 x4 x5 x6 y0 M
def mK_hires_82b (rK_hires : Int32 → Int32 → Int32 → Mem → Option Mem) (j136 : Int32 → Int32 → Int32 → Int32 → Int32 → Int32 → Int32 → Mem → Option Mem) (x1 : Int32) (x2 : Int32) (x3 : Int32) (x4 : Int32) (x5 : Int32) (M : Mem) : Option Mem :=
  if x5 < (M 41 0 0 2) then
    if x5 < 0 then
      ixx x4 96 fun k1 =>
      if (0 : Int32) < (M 66 0 0 k1) then
        ixx (x4 + 1) 96 fun k2 =>
        j136 x1 x2 x3 x4 x5 0 (M 66 0 0 k2) M
      else
        j136 x1 x2 x3 x4 x5 0 0 M
    else
      ixx x5 5 fun k3 =>
      ixx x4 96 fun k4 =>
      if (M 59 0 0 k3) < (M 66 0 0 k4) then
        ixx (x4 + 1) 96 fun k5 =>
        j136 x1 x2 x3 x4 x5 (M 59 0 0 k3) (M 66 0 0 k5) M
      else
        j136 x1 x2 x3 x4 x5 (M 59 0 0 k3) 0 M
  else
    some M
def mK_hires_82 (rK_hires : Int32 → Int32 → Int32 → Mem → Option Mem) : Nat → Int32 → Int32 → Int32 → Int32 → Int32 → Mem → Option Mem
  | 0, _, _, _, _, _, _ => none
  | n + 1, x1, x2, x3, x4, x5, M => mK_hires_82b rK_hires (mK_hires_136 rK_hires (mK_hires_82 rK_hires n)) x1 x2 x3 x4 x5 M
def mK_hires_39b (rK_hires : Int32 → Int32 → Int32 → Mem → Option Mem) (j39 : Int32 → Int32 → Mem → Option Mem) (x1 : Int32) (x4 : Int32) (M : Mem) : Option Mem :=
  if x4 < x1 then
    ixx x4 5 fun k1 =>
    ixx x4 5 fun k3 =>
    let M2 : Mem := up M 58 0 0 k3 (M 57 0 0 k1)
    j39 x1 (x4 + 1) M2
  else
    some M
def mK_hires_39 (rK_hires : Int32 → Int32 → Int32 → Mem → Option Mem) : Nat → Int32 → Int32 → Mem → Option Mem
  | 0, _, _, _ => none
  | n + 1, x1, x4, M => mK_hires_39b rK_hires (mK_hires_39 rK_hires n) x1 x4 M
def mK_hiresb (rK_hires : Int32 → Int32 → Int32 → Mem → Option Mem) (j39 : Int32 → Int32 → Mem → Option Mem) (j82 : Int32 → Int32 → Int32 → Int32 → Int32 → Mem → Option Mem) (x1 : Int32) (x2 : Int32) (x3 : Int32) (M : Mem) : Option Mem :=
  if (M 40 0 0 20) < 0 then
    ixx (M 40 0 0 19) 4 fun k1 =>
    if x1 = ((M 65 0 0 k1) / 3) then
      let M2 : Mem := up M 40 0 0 20 x3
      j39 x1 0 M2
    else
      j82 x1 x2 x3 ((24 * (M 40 0 0 19)) + (3 * x1)) (-1) M
  else
    if x3 < (M 40 0 0 20) then
      ixx (M 40 0 0 19) 4 fun k3 =>
      if x1 = ((M 65 0 0 k3) / 3) then
        let M4 : Mem := up M 40 0 0 20 x3
        j39 x1 0 M4
      else
        j82 x1 x2 x3 ((24 * (M 40 0 0 19)) + (3 * x1)) (-1) M
    else
      some M
def mK_hires (rK_hires : Int32 → Int32 → Int32 → Mem → Option Mem) (x1 : Int32) (x2 : Int32) (x3 : Int32) (M : Mem) : Option Mem := mK_hiresb rK_hires (mK_hires_39 rK_hires fuel) (mK_hires_82 rK_hires fuel) x1 x2 x3 M
def g4 : Nat → Nat → Int32 → Int32 → Int32 → Mem → Option Mem
  | 0, _, _, _, _, _ => none
  | n + 1, 0, x1, x2, x3, M => mK_hires (fun x1 x2 x3 M => g4 n 0 x1 x2 x3 M) x1 x2 x3 M
  | _ + 1, _, _, _, _, _ => none
def xK_hires (x1 : Int32) (x2 : Int32) (x3 : Int32) (M : Mem) : Option Mem := g4 60 0 x1 x2 x3 M
/-! FreeLancesModel.hiring -/
def mK_hiring_79b (j79 : Int32 → Int32 → Mem → Option (Int32 × Mem)) (x2 : Int32) (x3 : Int32) (M : Mem) : Option (Int32 × Mem) :=
  if x3 < (M 41 0 0 2) then
    (mK_manySo x3 0 M).bind fun q1 =>
    ixx x3 5 fun k3 =>
    let M2 : Mem := up q1.2 59 0 0 k3 q1.1
    j79 x2 (x3 + 1) M2
  else
    (xK_hires 0 (-1) 0 M).bind fun q4 =>
    if x2 < 0 then
      some (q4 40 0 0 20, q4)
    else
      ixx x2 5 fun k5 =>
      some (q4 58 0 0 k5, q4)
def mK_hiring_79 : Nat → Int32 → Int32 → Mem → Option (Int32 × Mem)
  | 0, _, _, _ => none
  | n + 1, x2, x3, M => mK_hiring_79b (mK_hiring_79 n) x2 x3 M
def mK_hiringb (j79 : Int32 → Int32 → Mem → Option (Int32 × Mem)) (x1 : Int32) (x2 : Int32) (M : Mem) : Option (Int32 × Mem) :=
  (mK_isSheet x1 M).bind fun q1 =>
  if q1.1 = 0 then
    (mK_finds 1 q1.2).bind fun q2 =>
    some (q2.1, q2.2)
  else
    ixx x1 4 fun k3 =>
    if (q1.2 64 0 0 k3) = 0 then
      (mK_finds 2 q1.2).bind fun q4 =>
      some (q4.1, q4.2)
    else
      (mK_isOfThrees x1 5 q1.2).bind fun q5 =>
      if q5.1 = 0 then
        (mK_finds 5 q5.2).bind fun q6 =>
        some (q6.1, q6.2)
      else
        ixx x1 4 fun k7 =>
        (mK_in x2 (-1) (((q5.2 65 0 0 k7) / 3) - 1) q5.2).bind fun q8 =>
        if q8.1 = 0 then
          (mK_finds 1 q8.2).bind fun q9 =>
          some (q9.1, q9.2)
        else
          let M10 : Mem := up q8.2 40 0 0 19 x1
          let M11 : Mem := up M10 40 0 0 20 (-1)
          j79 x2 0 M11
def mK_hiring (x1 : Int32) (x2 : Int32) (M : Mem) : Option (Int32 × Mem) := mK_hiringb (mK_hiring_79 fuel) x1 x2 M
/-! FreeLancesModel.changes -/
def mK_changes_3b (j3 : Int32 → Int32 → Int32 → Int32 → Mem → Option Mem) (x1 : Int32) (x2 : Int32) (x3 : Int32) (x4 : Int32) (M : Mem) : Option Mem :=
  if x4 < (M 41 0 0 3) then
    (mK_its x4 0 M).bind fun q1 =>
    if q1.1 = x1 then
      (mK_its x4 3 q1.2).bind fun q2 =>
      if q2.1 = x2 then
        (mK_turns x4 x3 q2.2).bind fun q3 =>
        some q3
      else
        j3 x1 x2 x3 (x4 + 1) q2.2
    else
      j3 x1 x2 x3 (x4 + 1) q1.2
  else
    some M
def mK_changes_3 : Nat → Int32 → Int32 → Int32 → Int32 → Mem → Option Mem
  | 0, _, _, _, _, _ => none
  | n + 1, x1, x2, x3, x4, M => mK_changes_3b (mK_changes_3 n) x1 x2 x3 x4 M
def mK_changesb (j3 : Int32 → Int32 → Int32 → Int32 → Mem → Option Mem) (x1 : Int32) (x2 : Int32) (x3 : Int32) (M : Mem) : Option Mem :=
  j3 x1 x2 x3 0 M
def mK_changes (x1 : Int32) (x2 : Int32) (x3 : Int32) (M : Mem) : Option Mem := mK_changesb (mK_changes_3 fuel) x1 x2 x3 M
/-! FreeLancesModel.eats -/
def mK_eats_132b (x1 : Int32) (y0 : Int32) (y1 : Int32) (y2 : Int32) (M : Mem) : Option Mem :=
  (mK_sets y2 y1 y0 M).bind fun q1 =>
  (mK_own x1 5 q1).bind fun q2 =>
  if q2.1 < 6 then
    if q2.1 < 3 then
      if q2.1 = 0 then
        (mK_changes x1 1 0 q2.2).bind fun q3 =>
        some q3
      else
        some q2.2
    else
      (mK_changes x1 0 1 q2.2).bind fun q4 =>
      some q4
  else
    (mK_changes x1 1 3 q2.2).bind fun q5 =>
    some q5
def mK_eats_132 (x1 : Int32) (y0 : Int32) (y1 : Int32) (y2 : Int32) (M : Mem) : Option Mem := mK_eats_132b x1 y0 y1 y2 M
def mK_eats_78b (j132 : Int32 → Int32 → Int32 → Int32 → Mem → Option Mem) (x1 : Int32) (x2 : Int32) (x3 : Int32) (x4 : Int32) (y0 : Int32) (M : Mem) : Option Mem :=
  (mK_own x1 1 M).bind fun q1 =>
  (mK_sets x1 1 (q1.1 - x3) q1.2).bind fun q2 =>
  if x4 < 0 then
    if (x3 + y0) < x2 then
      (mK_own x1 5 q2).bind fun q3 =>
      j132 x1 (q3.1 + 1) 5 x1 q3.2
    else
      j132 x1 0 5 x1 q2
  else
    (mK_townGets x4 1 (-y0) q2).bind fun q4 =>
    if (x3 + y0) < x2 then
      (mK_own x1 5 q4).bind fun q5 =>
      j132 x1 (q5.1 + 1) 5 x1 q5.2
    else
      j132 x1 0 5 x1 q4
def mK_eats_78 (x1 : Int32) (x2 : Int32) (x3 : Int32) (x4 : Int32) (y0 : Int32) (M : Mem) : Option Mem := mK_eats_78b mK_eats_132 x1 x2 x3 x4 y0 M
def mK_eatsb (j78 : Int32 → Int32 → Int32 → Int32 → Int32 → Mem → Option Mem) (x1 : Int32) (M : Mem) : Option Mem :=
  (mK_manySo x1 0 M).bind fun q1 =>
  (mK_manySo x1 1 q1.2).bind fun q2 =>
  (mK_own x1 1 q2.2).bind fun q3 =>
  if q3.1 < (q1.1 + q2.1) then
    (mK_own x1 1 q3.2).bind fun q4 =>
    (mK_own x1 2 q4.2).bind fun q5 =>
    if q5.1 < 0 then
      j78 x1 (q1.1 + q2.1) q4.1 q5.1 0 q5.2
    else
      (mK_ofTown q5.1 1 q5.2).bind fun q6 =>
      if q6.1 < ((q1.1 + q2.1) - q4.1) then
        (mK_ofTown q5.1 1 q6.2).bind fun q7 =>
        j78 x1 (q1.1 + q2.1) q4.1 q5.1 q7.1 q7.2
      else
        j78 x1 (q1.1 + q2.1) q4.1 q5.1 ((q1.1 + q2.1) - q4.1) q6.2
  else
    (mK_own x1 2 q3.2).bind fun q8 =>
    if q8.1 < 0 then
      j78 x1 (q1.1 + q2.1) (q1.1 + q2.1) q8.1 0 q8.2
    else
      (mK_ofTown q8.1 1 q8.2).bind fun q9 =>
      if q9.1 < ((q1.1 + q2.1) - (q1.1 + q2.1)) then
        (mK_ofTown q8.1 1 q9.2).bind fun q10 =>
        j78 x1 (q1.1 + q2.1) (q1.1 + q2.1) q8.1 q10.1 q10.2
      else
        j78 x1 (q1.1 + q2.1) (q1.1 + q2.1) q8.1 ((q1.1 + q2.1) - (q1.1 + q2.1)) q9.2
def mK_eats (x1 : Int32) (M : Mem) : Option Mem := mK_eatsb mK_eats_78 x1 M
/-! FreeLancesModel.month -/
def mK_month_185b (x1 : Int32) (x2 : Int32) (x3 : Int32) (y0 : Int32) (M : Mem) : Option Mem :=
  (mK_bond x1 10 M).bind fun q1 =>
  (mK_writes x1 10 (q1.1 - y0) q1.2).bind fun q2 =>
  (mK_owes x1 y0 q2).bind fun q3 =>
  (mK_ofTown x3 0 q3).bind fun q4 =>
  (mK_bond x1 8 q4.2).bind fun q5 =>
  if q4.1 < q5.1 then
    (mK_ofTown x3 0 q5.2).bind fun q6 =>
    (mK_gives x3 x2 q6.1 q6.2).bind fun q7 =>
    (mK_owes x1 q6.1 q7).bind fun q8 =>
    some q8
  else
    (mK_bond x1 8 q5.2).bind fun q9 =>
    (mK_gives x3 x2 q9.1 q9.2).bind fun q10 =>
    (mK_owes x1 q9.1 q10).bind fun q11 =>
    some q11
def mK_month_185 (x1 : Int32) (x2 : Int32) (x3 : Int32) (y0 : Int32) (M : Mem) : Option Mem := mK_month_185b x1 x2 x3 y0 M
def mK_month_108b (j185 : Int32 → Int32 → Int32 → Int32 → Mem → Option Mem) (x1 : Int32) (x2 : Int32) (x3 : Int32) (y0 : Int32) (M : Mem) : Option Mem :=
  (mK_bond x1 8 M).bind fun q1 =>
  if q1.1 = 0 then
    (mK_writes x1 9 (q1.2 41 0 0 6) q1.2).bind fun q2 =>
    (mK_bond x1 8 q2).bind fun q3 =>
    (mK_writes x1 8 (q3.1 + y0) q3.2).bind fun q4 =>
    (mK_bond x1 10 q4).bind fun q5 =>
    (mK_bond x1 8 q5.2).bind fun q6 =>
    if q5.1 < q6.1 then
      (mK_bond x1 10 q6.2).bind fun q7 =>
      j185 x1 x2 x3 q7.1 q7.2
    else
      (mK_bond x1 8 q6.2).bind fun q8 =>
      j185 x1 x2 x3 q8.1 q8.2
  else
    (mK_bond x1 8 q1.2).bind fun q9 =>
    (mK_writes x1 8 (q9.1 + y0) q9.2).bind fun q10 =>
    (mK_bond x1 10 q10).bind fun q11 =>
    (mK_bond x1 8 q11.2).bind fun q12 =>
    if q11.1 < q12.1 then
      (mK_bond x1 10 q12.2).bind fun q13 =>
      j185 x1 x2 x3 q13.1 q13.2
    else
      (mK_bond x1 8 q12.2).bind fun q14 =>
      j185 x1 x2 x3 q14.1 q14.2
def mK_month_108 (x1 : Int32) (x2 : Int32) (x3 : Int32) (y0 : Int32) (M : Mem) : Option Mem := mK_month_108b mK_month_185 x1 x2 x3 y0 M
def mK_month_49b (j108 : Int32 → Int32 → Int32 → Int32 → Mem → Option Mem) (x1 : Int32) (x2 : Int32) (x3 : Int32) (x4 : Int32) (y0 : Int32) (M : Mem) : Option Mem :=
  if x4 < 0 then
    (mK_bond x1 4 M).bind fun q1 =>
    if (y0 * q1.1) < 0 then
      j108 x1 x2 x3 0 q1.2
    else
      if (y0 * q1.1) ≤ 99999 then
        j108 x1 x2 x3 (y0 * q1.1) q1.2
      else
        j108 x1 x2 x3 99999 q1.2
  else
    (mK_bond x1 4 M).bind fun q2 =>
    (mK_comesTo x4 y0 q2.1 0 q2.2).bind fun q3 =>
    if q3.1 < 0 then
      j108 x1 x2 x3 0 q3.2
    else
      if q3.1 ≤ 99999 then
        j108 x1 x2 x3 q3.1 q3.2
      else
        j108 x1 x2 x3 99999 q3.2
def mK_month_49 (x1 : Int32) (x2 : Int32) (x3 : Int32) (x4 : Int32) (y0 : Int32) (M : Mem) : Option Mem := mK_month_49b mK_month_108 x1 x2 x3 x4 y0 M
def mK_monthb (j49 : Int32 → Int32 → Int32 → Int32 → Int32 → Mem → Option Mem) (x1 : Int32) (M : Mem) : Option Mem :=
  (mK_bond x1 1 M).bind fun q1 =>
  (mK_bond x1 5 q1.2).bind fun q2 =>
  (mK_inForce 1 (q2.2 41 0 0 6) q2.2).bind fun q3 =>
  (mK_own q1.1 6 q3.2).bind fun q4 =>
  if q4.1 < 0 then
    j49 x1 q1.1 q2.1 q3.1 0 q4.2
  else
    (mK_own q1.1 6 q4.2).bind fun q5 =>
    j49 x1 q1.1 q2.1 q3.1 q5.1 q5.2
def mK_month (x1 : Int32) (M : Mem) : Option Mem := mK_monthb mK_month_49 x1 M
/-! FreeLancesModel.run -/
def mK_run_98b (j2 : Int32 → Int32 → Mem → Option Mem) (j98 : Int32 → Int32 → Int32 → Mem → Option Mem) (x1 : Int32) (x2 : Int32) (x3 : Int32) (M : Mem) : Option Mem :=
  if x3 < (M 41 0 0 5) then
    if ((M 41 0 0 6) - (M 41 0 0 6) / 30 * 30) = 0 then
      (mK_isContract x3 M).bind fun q1 =>
      if q1.1 = 0 then
        j98 x1 x2 (x3 + 1) q1.2
      else
        (mK_isIn x3 (q1.2 41 0 0 6) q1.2).bind fun q2 =>
        if q2.1 = 0 then
          j98 x1 x2 (x3 + 1) q2.2
        else
          (mK_month x3 q2.2).bind fun q3 =>
          j98 x1 x2 (x3 + 1) q3
    else
      j2 x1 (x2 + 1) M
  else
    j2 x1 (x2 + 1) M
def mK_run_98 (r2 : Int32 → Int32 → Mem → Option Mem) : Nat → Int32 → Int32 → Int32 → Mem → Option Mem
  | 0, _, _, _, _ => none
  | n + 1, x1, x2, x3, M => mK_run_98b r2 (mK_run_98 r2 n) x1 x2 x3 M
def mK_run_75b (j75 : Int32 → Int32 → Int32 → Mem → Option Mem) (j98 : Int32 → Int32 → Int32 → Mem → Option Mem) (x1 : Int32) (x2 : Int32) (x3 : Int32) (M : Mem) : Option Mem :=
  if x3 < (M 41 0 0 2) then
    (mK_eats x3 M).bind fun q1 =>
    j75 x1 x2 (x3 + 1) q1
  else
    j98 x1 x2 0 M
def mK_run_75 (r2 : Int32 → Int32 → Mem → Option Mem) : Nat → Int32 → Int32 → Int32 → Mem → Option Mem
  | 0, _, _, _, _ => none
  | n + 1, x1, x2, x3, M => mK_run_75b (mK_run_75 r2 n) (mK_run_98 r2 fuel) x1 x2 x3 M
def mK_run_20b (j20 : Int32 → Int32 → Int32 → Mem → Option Mem) (j75 : Int32 → Int32 → Int32 → Mem → Option Mem) (x1 : Int32) (x2 : Int32) (x3 : Int32) (M : Mem) : Option Mem :=
  if x3 < (M 41 0 0 2) then
    (mK_own x3 2 M).bind fun q1 =>
    if q1.1 < 0 then
      (mK_own x3 4 q1.2).bind fun q2 =>
      if q2.1 = (q2.2 41 0 0 6) then
        (mK_own x3 3 q2.2).bind fun q3 =>
        (mK_sets x3 2 q3.1 q3.2).bind fun q4 =>
        j20 x1 x2 (x3 + 1) q4
      else
        j20 x1 x2 (x3 + 1) q2.2
    else
      j20 x1 x2 (x3 + 1) q1.2
  else
    j75 x1 x2 0 M
def mK_run_20 (r2 : Int32 → Int32 → Mem → Option Mem) : Nat → Int32 → Int32 → Int32 → Mem → Option Mem
  | 0, _, _, _, _ => none
  | n + 1, x1, x2, x3, M => mK_run_20b (mK_run_20 r2 n) (mK_run_75 r2 fuel) x1 x2 x3 M
def mK_run_2b (j20 : Int32 → Int32 → Int32 → Mem → Option Mem) (x1 : Int32) (x2 : Int32) (M : Mem) : Option Mem :=
  if x2 < x1 then
    let M1 : Mem := up M 41 0 0 6 ((M 41 0 0 6) + 1)
    j20 x1 x2 0 M1
  else
    some M
def mK_run_2 : Nat → Int32 → Int32 → Mem → Option Mem
  | 0, _, _, _ => none
  | n + 1, x1, x2, M => mK_run_2b (mK_run_20 (mK_run_2 n) fuel) x1 x2 M
def mK_runb (j2 : Int32 → Int32 → Mem → Option Mem) (x1 : Int32) (M : Mem) : Option Mem :=
  j2 x1 0 M
def mK_run (x1 : Int32) (M : Mem) : Option Mem := mK_runb (mK_run_2 fuel) x1 M
/-! FreeLancesModel.days -/
def mK_days (x1 : Int32) (M : Mem) : Option (Int32 × Mem) :=
  (mK_in x1 1 200 M).bind fun q1 =>
  if q1.1 = 0 then
    (mK_finds 1 q1.2).bind fun q2 =>
    some (q2.1, q2.2)
  else
    if ((q1.2 41 0 0 6) + x1) ≤ 3000 then
      (mK_run x1 q1.2).bind fun q3 =>
      some (q3 41 0 0 6, q3)
    else
      (mK_finds 1 q1.2).bind fun q4 =>
      some (q4.1, q4.2)
/-! FreeLancesModel.seen -/
def mK_seen (x1 : Int32) (x2 : Int32) (M : Mem) : Option (Int32 × Mem) :=
  if x1 = 0 then
    (mK_ofTown x2 0 M).bind fun q7 =>
    some (q7.1, q7.2)
  else
    if x1 = 1 then
      (mK_ofTown x2 1 M).bind fun q6 =>
      some (q6.1, q6.2)
    else
      if x1 = 2 then
        (mK_own x2 0 M).bind fun q5 =>
        some (q5.1, q5.2)
      else
        if x1 = 3 then
          (mK_own x2 1 M).bind fun q4 =>
          some (q4.1, q4.2)
        else
          if x1 = 4 then
            (mK_manySo x2 0 M).bind fun q3 =>
            some (q3.1, q3.2)
          else
            if x1 = 5 then
              (mK_manySo x2 1 M).bind fun q2 =>
              some (q2.1, q2.2)
            else
              (mK_bond x2 8 M).bind fun q1 =>
              some (q1.1, q1.2)
/-! FreeLancesModel.ahead -/
def mK_ahead_81b (x1 : Int32) (x2 : Int32) (x3 : Int32) (M : Mem) : Option (Int32 × Mem) :=
  (mK_finds 1 M).bind fun q1 =>
  some (q1.1, q1.2)
def mK_ahead_81 (x1 : Int32) (x2 : Int32) (x3 : Int32) (M : Mem) : Option (Int32 × Mem) := mK_ahead_81b x1 x2 x3 M
def mK_ahead_142b (j142 : Int32 → Int32 → Mem → Option (Int32 × Mem)) (x5 : Int32) (x6 : Int32) (M : Mem) : Option (Int32 × Mem) :=
  if x6 < 1502 then
    ixx x6 1502 fun k1 =>
    ixx x6 1502 fun k3 =>
    let M2 : Mem := up M 41 0 0 k3 (M 43 0 0 k1)
    j142 x5 (x6 + 1) M2
  else
    some (x5, M)
def mK_ahead_142 : Nat → Int32 → Int32 → Mem → Option (Int32 × Mem)
  | 0, _, _, _ => none
  | n + 1, x5, x6, M => mK_ahead_142b (mK_ahead_142 n) x5 x6 M
def mK_ahead_98b (j98 : Int32 → Int32 → Int32 → Int32 → Mem → Option (Int32 × Mem)) (j142 : Int32 → Int32 → Mem → Option (Int32 × Mem)) (x1 : Int32) (x2 : Int32) (x3 : Int32) (x5 : Int32) (M : Mem) : Option (Int32 × Mem) :=
  if x5 < 1502 then
    ixx x5 1502 fun k1 =>
    ixx x5 1502 fun k3 =>
    let M2 : Mem := up M 43 0 0 k3 (M 41 0 0 k1)
    j98 x1 x2 x3 (x5 + 1) M2
  else
    (mK_run x1 M).bind fun q4 =>
    (mK_seen x2 x3 q4).bind fun q5 =>
    j142 q5.1 0 q5.2
def mK_ahead_98 : Nat → Int32 → Int32 → Int32 → Int32 → Mem → Option (Int32 × Mem)
  | 0, _, _, _, _, _ => none
  | n + 1, x1, x2, x3, x5, M => mK_ahead_98b (mK_ahead_98 n) (mK_ahead_142 fuel) x1 x2 x3 x5 M
def mK_aheadb (j81 : Int32 → Int32 → Int32 → Mem → Option (Int32 × Mem)) (j98 : Int32 → Int32 → Int32 → Int32 → Mem → Option (Int32 × Mem)) (x1 : Int32) (x2 : Int32) (x3 : Int32) (M : Mem) : Option (Int32 × Mem) :=
  (mK_in x1 0 200 M).bind fun q1 =>
  if q1.1 = 0 then
    j81 x1 x2 x3 q1.2
  else
    if ((q1.2 41 0 0 6) + x1) ≤ 3000 then
      (mK_in x2 0 6 q1.2).bind fun q2 =>
      if q2.1 = 0 then
        j81 x1 x2 x3 q2.2
      else
        if x2 < 2 then
          (mK_isTown x3 q2.2).bind fun q3 =>
          if q3.1 = 0 then
            j81 x1 x2 x3 q3.2
          else
            j98 x1 x2 x3 0 q3.2
        else
          if x2 < 6 then
            (mK_isCompany x3 q2.2).bind fun q4 =>
            if q4.1 = 0 then
              j81 x1 x2 x3 q4.2
            else
              j98 x1 x2 x3 0 q4.2
          else
            (mK_isBond x3 q2.2).bind fun q5 =>
            if q5.1 = 0 then
              j81 x1 x2 x3 q5.2
            else
              j98 x1 x2 x3 0 q5.2
    else
      j81 x1 x2 x3 q1.2
def mK_ahead (x1 : Int32) (x2 : Int32) (x3 : Int32) (M : Mem) : Option (Int32 × Mem) := mK_aheadb mK_ahead_81 (mK_ahead_98 fuel) x1 x2 x3 M
/-! FreeLancesModel.ran -/
def mK_ran (x1 : Int32) (M : Mem) : Option Mem :=
  if (M 40 0 0 22) = 40 then
    some M
  else
    ixx (M 40 0 0 22) 40 fun k2 =>
    let M1 : Mem := up M 62 0 0 k2 x1
    let M3 : Mem := up M1 40 0 0 22 ((M1 40 0 0 22) + 1)
    some M3
/-! FreeLancesModel.bindsBond -/
def mK_bindsBond (x1 : Int32) (x2 : Int32) (M : Mem) : Option (Int32 × Mem) :=
  (mK_ran 10 M).bind fun q1 =>
  some (x2 + x1, q1)
/-! FreeLancesModel.bindsOf -/
def mK_bindsOf (x1 : Int32) (x2 : Int32) (M : Mem) : Option (Int32 × Mem) :=
  (mK_bond x1 0 M).bind fun q1 =>
  if q1.1 = 2 then
    (mK_ran 31 q1.2).bind fun q2 =>
    (mK_bindsBond x1 x2 q2).bind fun q3 =>
    some (q3.1 * 3, q3.2)
  else
    (mK_bond x1 0 q1.2).bind fun q4 =>
    if q4.1 = 4 then
      (mK_ran 51 q4.2).bind fun q5 =>
      (mK_bond x1 4 q5).bind fun q6 =>
      (mK_bindsBond x1 (x2 + q6.1) q6.2).bind fun q7 =>
      some (q7.1, q7.2)
    else
      (mK_bindsBond x1 x2 q4.2).bind fun q8 =>
      some (q8.1, q8.2)
/-! FreeLancesModel.paysBond -/
def mK_paysBond (x1 : Int32) (x2 : Int32) (M : Mem) : Option (Int32 × Mem) :=
  (mK_ran 11 M).bind fun q1 =>
  (mK_bindsOf x1 x2 q1).bind fun q2 =>
  (mK_bond x1 4 q2.2).bind fun q3 =>
  some (q2.1 + q3.1, q3.2)
/-! FreeLancesModel.paysOf -/
def mK_paysOf (x1 : Int32) (x2 : Int32) (M : Mem) : Option (Int32 × Mem) :=
  (mK_isContract x1 M).bind fun q1 =>
  if q1.1 = 0 then
    (mK_bond x1 0 q1.2).bind fun q2 =>
    if q2.1 = 3 then
      (mK_ran 40 q2.2).bind fun q3 =>
      (mK_paysBond x1 x2 q3).bind fun q4 =>
      some (x2 - q4.1, q4.2)
    else
      (mK_paysBond x1 x2 q2.2).bind fun q5 =>
      some (q5.1, q5.2)
  else
    (mK_ran 20 q1.2).bind fun q6 =>
    (mK_paysBond x1 x2 q6).bind fun q7 =>
    some (q7.1 * 2, q7.2)
/-! FreeLancesModel.endsBond -/
def mK_endsBond (x1 : Int32) (x2 : Int32) (M : Mem) : Option (Int32 × Mem) :=
  (mK_ran 12 M).bind fun q1 =>
  some ((x2 * 2) - x1, q1)
/-! FreeLancesModel.endsContract -/
def mK_endsContract (x1 : Int32) (x2 : Int32) (M : Mem) : Option (Int32 × Mem) :=
  (mK_ran 21 M).bind fun q1 =>
  (mK_endsBond x1 (x2 - 1) q1).bind fun q2 =>
  some (q2.1, q2.2)
/-! FreeLancesModel.endsOf -/
def mK_endsOf (x1 : Int32) (x2 : Int32) (M : Mem) : Option (Int32 × Mem) :=
  (mK_bond x1 0 M).bind fun q1 =>
  if q1.1 = 1 then
    (mK_endsContract x1 x2 q1.2).bind fun q11 =>
    some (q11.1, q11.2)
  else
    if q1.1 = 2 then
      (mK_ran 30 q1.2).bind fun q8 =>
      (mK_endsContract x1 x2 q8).bind fun q9 =>
      (mK_bindsOf x1 x2 q9.2).bind fun q10 =>
      some (q9.1 + q10.1, q10.2)
    else
      if q1.1 = 3 then
        (mK_endsBond x1 x2 q1.2).bind fun q7 =>
        some (q7.1, q7.2)
      else
        if q1.1 = 4 then
          (mK_endsBond x1 x2 q1.2).bind fun q6 =>
          some (q6.1, q6.2)
        else
          if q1.1 = 5 then
            (mK_ran 60 q1.2).bind fun q3 =>
            (mK_paysOf x1 x2 q3).bind fun q4 =>
            (mK_endsBond x1 x2 q4.2).bind fun q5 =>
            some (q4.1 - q5.1, q5.2)
          else
            (mK_endsBond x1 x2 q1.2).bind fun q2 =>
            some (q2.1, q2.2)
/-! FreeLancesModel.tellsBond -/
def mK_tellsBond (x1 : Int32) (x2 : Int32) (M : Mem) : Option (Int32 × Mem) :=
  (mK_ran 13 M).bind fun q1 =>
  (mK_paysOf x1 x2 q1).bind fun q2 =>
  (mK_endsOf x1 x2 q2.2).bind fun q3 =>
  some (q2.1 ^^^ q3.1, q3.2)
/-! FreeLancesModel.tellsOf -/
def mK_tellsOf (x1 : Int32) (x2 : Int32) (M : Mem) : Option (Int32 × Mem) :=
  (mK_bond x1 0 M).bind fun q1 =>
  if q1.1 = 4 then
    (mK_ran 50 q1.2).bind fun q2 =>
    (mK_tellsBond x1 x2 q2).bind fun q3 =>
    some (q3.1 - 1, q3.2)
  else
    (mK_bond x1 0 q1.2).bind fun q4 =>
    if q4.1 = 6 then
      (mK_ran 70 q4.2).bind fun q5 =>
      (mK_endsOf x1 x2 q5).bind fun q6 =>
      (mK_tellsBond x1 (x2 + 1) q6.2).bind fun q7 =>
      some (q6.1 + q7.1, q7.2)
    else
      (mK_tellsBond x1 x2 q4.2).bind fun q8 =>
      some (q8.1, q8.2)
/-! FreeLancesModel.voice -/
def mK_voice (x1 : Int32) (x2 : Int32) (x3 : Int32) (M : Mem) : Option (Int32 × Mem) :=
  (mK_isBond x1 M).bind fun q1 =>
  if q1.1 = 0 then
    (mK_finds 1 q1.2).bind fun q2 =>
    some (q2.1, q2.2)
  else
    (mK_in x2 0 3 q1.2).bind fun q3 =>
    if q3.1 = 0 then
      (mK_finds 1 q3.2).bind fun q4 =>
      some (q4.1, q4.2)
    else
      let M5 : Mem := up q3.2 40 0 0 22 0
      if x2 = 0 then
        (mK_bindsOf x1 x3 M5).bind fun q6 =>
        some (q6.1, q6.2)
      else
        if x2 = 1 then
          (mK_paysOf x1 x3 M5).bind fun q7 =>
          some (q7.1, q7.2)
        else
          if x2 = 2 then
            (mK_endsOf x1 x3 M5).bind fun q8 =>
            some (q8.1, q8.2)
          else
            (mK_tellsOf x1 x3 M5).bind fun q9 =>
            some (q9.1, q9.2)
/-! FreeLancesModel.trace -/
def mK_trace (x1 : Int32) (M : Mem) : Option (Int32 × Mem) :=
  (mK_in x1 0 ((M 40 0 0 22) - 1) M).bind fun q1 =>
  if q1.1 = 0 then
    (mK_finds 2 q1.2).bind fun q2 =>
    some (q2.1, q2.2)
  else
    ixx x1 40 fun k3 =>
    some (q1.2 62 0 0 k3, q1.2)
/-! FreeLancesModel.sheet -/
def mK_sheet_90b (j90 : Int32 → Int32 → Mem → Option (Int32 × Mem)) (x1 : Int32) (x4 : Int32) (M : Mem) : Option (Int32 × Mem) :=
  if x4 < 24 then
    ixx ((24 * x1) + x4) 96 fun k2 =>
    let M1 : Mem := up M 66 0 0 k2 0
    j90 x1 (x4 + 1) M1
  else
    some (1, M)
def mK_sheet_90 : Nat → Int32 → Int32 → Mem → Option (Int32 × Mem)
  | 0, _, _, _ => none
  | n + 1, x1, x4, M => mK_sheet_90b (mK_sheet_90 n) x1 x4 M
def mK_sheet_49b (j90 : Int32 → Int32 → Mem → Option (Int32 × Mem)) (x1 : Int32) (x2 : Int32) (x3 : Int32) (M : Mem) : Option (Int32 × Mem) :=
  if x2 = 0 then
    ixx x1 4 fun k2 =>
    let M1 : Mem := up M 64 0 0 k2 x2
    if x2 = 0 then
      ixx x1 4 fun k4 =>
      let M3 : Mem := up M1 65 0 0 k4 0
      j90 x1 0 M3
    else
      ixx x1 4 fun k6 =>
      let M5 : Mem := up M1 65 0 0 k6 x3
      j90 x1 0 M5
  else
    if x3 ≤ 24 then
      ixx x1 4 fun k8 =>
      let M7 : Mem := up M 64 0 0 k8 x2
      if x2 = 0 then
        ixx x1 4 fun k10 =>
        let M9 : Mem := up M7 65 0 0 k10 0
        j90 x1 0 M9
      else
        ixx x1 4 fun k12 =>
        let M11 : Mem := up M7 65 0 0 k12 x3
        j90 x1 0 M11
    else
      (mK_finds 1 M).bind fun q13 =>
      some (q13.1, q13.2)
def mK_sheet_49 (x1 : Int32) (x2 : Int32) (x3 : Int32) (M : Mem) : Option (Int32 × Mem) := mK_sheet_49b (mK_sheet_90 fuel) x1 x2 x3 M
def mK_sheetb (j49 : Int32 → Int32 → Int32 → Mem → Option (Int32 × Mem)) (x1 : Int32) (x2 : Int32) (x3 : Int32) (M : Mem) : Option (Int32 × Mem) :=
  (mK_isSheet x1 M).bind fun q1 =>
  if q1.1 = 0 then
    (mK_finds 1 q1.2).bind fun q2 =>
    some (q2.1, q2.2)
  else
    if x2 = 0 then
      if x2 = 0 then
        j49 x1 x2 x3 q1.2
      else
        if x3 < 0 then
          (mK_finds 3 q1.2).bind fun q3 =>
          some (q3.1, q3.2)
        else
          j49 x1 x2 x3 q1.2
    else
      if x2 = 8 then
        if x2 = 0 then
          j49 x1 x2 x3 q1.2
        else
          if x3 < 0 then
            (mK_finds 3 q1.2).bind fun q4 =>
            some (q4.1, q4.2)
          else
            j49 x1 x2 x3 q1.2
      else
        if x2 = 16 then
          if x2 = 0 then
            j49 x1 x2 x3 q1.2
          else
            if x3 < 0 then
              (mK_finds 3 q1.2).bind fun q5 =>
              some (q5.1, q5.2)
            else
              j49 x1 x2 x3 q1.2
        else
          if x2 = 32 then
            if x2 = 0 then
              j49 x1 x2 x3 q1.2
            else
              if x3 < 0 then
                (mK_finds 3 q1.2).bind fun q6 =>
                some (q6.1, q6.2)
              else
                j49 x1 x2 x3 q1.2
          else
            (mK_finds 1 q1.2).bind fun q7 =>
            some (q7.1, q7.2)
def mK_sheet (x1 : Int32) (x2 : Int32) (x3 : Int32) (M : Mem) : Option (Int32 × Mem) := mK_sheetb mK_sheet_49 x1 x2 x3 M
/-! FreeLancesModel.put -/
def mK_put (x1 : Int32) (x2 : Int32) (x3 : Int32) (M : Mem) : Option (Int32 × Mem) :=
  (mK_isSheet x1 M).bind fun q1 =>
  if q1.1 = 0 then
    (mK_finds 1 q1.2).bind fun q2 =>
    some (q2.1, q2.2)
  else
    ixx x1 4 fun k3 =>
    if (q1.2 64 0 0 k3) = 0 then
      (mK_finds 2 q1.2).bind fun q4 =>
      some (q4.1, q4.2)
    else
      ixx x1 4 fun k5 =>
      (mK_in x2 0 ((q1.2 65 0 0 k5) - 1) q1.2).bind fun q6 =>
      if q6.1 = 0 then
        (mK_finds 1 q6.2).bind fun q7 =>
        some (q7.1, q7.2)
      else
        ixx x1 4 fun k8 =>
        if (q6.2 64 0 0 k8) = 8 then
          ixx ((24 * x1) + x2) 96 fun k10 =>
          let M9 : Mem := up q6.2 66 0 0 k10 x3.toInt8.toInt32
          some (1, M9)
        else
          ixx x1 4 fun k11 =>
          if (q6.2 64 0 0 k11) = 16 then
            ixx ((24 * x1) + x2) 96 fun k13 =>
            let M12 : Mem := up q6.2 66 0 0 k13 x3.toInt16.toInt32
            some (1, M12)
          else
            ixx ((24 * x1) + x2) 96 fun k15 =>
            let M14 : Mem := up q6.2 66 0 0 k15 x3
            some (1, M14)
/-! FreeLancesModel.move -/
def mK_move_160b (j160 : Int32 → Int32 → Int32 → Int32 → Mem → Option (Int32 × Mem)) (x3 : Int32) (x4 : Int32) (x5 : Int32) (x6 : Int32) (M : Mem) : Option (Int32 × Mem) :=
  if x6 < x5 then
    ixx x6 24 fun k1 =>
    ixx (((24 * x3) + x4) + x6) 96 fun k3 =>
    let M2 : Mem := up M 66 0 0 k3 (M 67 0 0 k1)
    j160 x3 x4 x5 (x6 + 1) M2
  else
    some (x5, M)
def mK_move_160 : Nat → Int32 → Int32 → Int32 → Int32 → Mem → Option (Int32 × Mem)
  | 0, _, _, _, _, _ => none
  | n + 1, x3, x4, x5, x6, M => mK_move_160b (mK_move_160 n) x3 x4 x5 x6 M
def mK_move_123b (j123 : Int32 → Int32 → Int32 → Int32 → Int32 → Int32 → Mem → Option (Int32 × Mem)) (j160 : Int32 → Int32 → Int32 → Int32 → Mem → Option (Int32 × Mem)) (x1 : Int32) (x2 : Int32) (x3 : Int32) (x4 : Int32) (x5 : Int32) (x6 : Int32) (M : Mem) : Option (Int32 × Mem) :=
  if x6 < x5 then
    ixx (((24 * x1) + x2) + x6) 96 fun k1 =>
    ixx x6 24 fun k3 =>
    let M2 : Mem := up M 67 0 0 k3 (M 66 0 0 k1)
    j123 x1 x2 x3 x4 x5 (x6 + 1) M2
  else
    j160 x3 x4 x5 0 M
def mK_move_123 : Nat → Int32 → Int32 → Int32 → Int32 → Int32 → Int32 → Mem → Option (Int32 × Mem)
  | 0, _, _, _, _, _, _, _ => none
  | n + 1, x1, x2, x3, x4, x5, x6, M => mK_move_123b (mK_move_123 n) (mK_move_160 fuel) x1 x2 x3 x4 x5 x6 M
def mK_moveb (j123 : Int32 → Int32 → Int32 → Int32 → Int32 → Int32 → Mem → Option (Int32 × Mem)) (x1 : Int32) (x2 : Int32) (x3 : Int32) (x4 : Int32) (x5 : Int32) (M : Mem) : Option (Int32 × Mem) :=
  (mK_isSheet x1 M).bind fun q1 =>
  if q1.1 = 0 then
    (mK_finds 1 q1.2).bind fun q2 =>
    some (q2.1, q2.2)
  else
    (mK_isSheet x3 q1.2).bind fun q3 =>
    if q3.1 = 0 then
      (mK_finds 1 q3.2).bind fun q4 =>
      some (q4.1, q4.2)
    else
      ixx x1 4 fun k5 =>
      if (q3.2 64 0 0 k5) = 0 then
        (mK_finds 2 q3.2).bind fun q6 =>
        some (q6.1, q6.2)
      else
        ixx x3 4 fun k7 =>
        if (q3.2 64 0 0 k7) = 0 then
          (mK_finds 2 q3.2).bind fun q8 =>
          some (q8.1, q8.2)
        else
          ixx x1 4 fun k9 =>
          ixx x3 4 fun k10 =>
          if (q3.2 64 0 0 k9) = (q3.2 64 0 0 k10) then
            if x5 < 0 then
              (mK_finds 1 q3.2).bind fun q11 =>
              some (q11.1, q11.2)
            else
              if x2 < 0 then
                (mK_finds 1 q3.2).bind fun q12 =>
                some (q12.1, q12.2)
              else
                if x4 < 0 then
                  (mK_finds 1 q3.2).bind fun q13 =>
                  some (q13.1, q13.2)
                else
                  ixx x1 4 fun k14 =>
                  if (lg_cmp (x2.toInt64 + x5.toInt64) ((q3.2 65 0 0 k14).toInt64)) ≤ 0 then
                    ixx x3 4 fun k15 =>
                    if (lg_cmp (x4.toInt64 + x5.toInt64) ((q3.2 65 0 0 k15).toInt64)) ≤ 0 then
                      j123 x1 x2 x3 x4 x5 0 q3.2
                    else
                      (mK_finds 1 q3.2).bind fun q16 =>
                      some (q16.1, q16.2)
                  else
                    (mK_finds 1 q3.2).bind fun q17 =>
                    some (q17.1, q17.2)
          else
            (mK_finds 5 q3.2).bind fun q18 =>
            some (q18.1, q18.2)
def mK_move (x1 : Int32) (x2 : Int32) (x3 : Int32) (x4 : Int32) (x5 : Int32) (M : Mem) : Option (Int32 × Mem) := mK_moveb (mK_move_123 fuel) x1 x2 x3 x4 x5 M
/-! FreeLancesModel.image -/
def mK_image_2b (j2 : Int32 → Mem → Option (Int32 × Mem)) (x1 : Int32) (M : Mem) : Option (Int32 × Mem) :=
  if x1 < 1502 then
    ixx x1 1502 fun k1 =>
    ixx x1 1502 fun k3 =>
    let M2 : Mem := up M 42 0 0 k3 (M 41 0 0 k1)
    j2 (x1 + 1) M2
  else
    let M4 : Mem := up M 40 0 0 4 ((M 40 0 0 4) + 1)
    some (M4 40 0 0 4, M4)
def mK_image_2 : Nat → Int32 → Mem → Option (Int32 × Mem)
  | 0, _, _ => none
  | n + 1, x1, M => mK_image_2b (mK_image_2 n) x1 M
def mK_imageb (j2 : Int32 → Mem → Option (Int32 × Mem)) (M : Mem) : Option (Int32 × Mem) :=
  j2 0 M
def mK_image (M : Mem) : Option (Int32 × Mem) := mK_imageb (mK_image_2 fuel) M
/-! FreeLancesModel.restore -/
def mK_restore_15b (j15 : Int32 → Mem → Option (Int32 × Mem)) (x1 : Int32) (M : Mem) : Option (Int32 × Mem) :=
  if x1 < 1502 then
    ixx x1 1502 fun k1 =>
    ixx x1 1502 fun k3 =>
    let M2 : Mem := up M 41 0 0 k3 (M 42 0 0 k1)
    j15 (x1 + 1) M2
  else
    some (M 41 0 0 6, M)
def mK_restore_15 : Nat → Int32 → Mem → Option (Int32 × Mem)
  | 0, _, _ => none
  | n + 1, x1, M => mK_restore_15b (mK_restore_15 n) x1 M
def mK_restoreb (j15 : Int32 → Mem → Option (Int32 × Mem)) (M : Mem) : Option (Int32 × Mem) :=
  if (M 40 0 0 4) = 0 then
    (mK_finds 2 M).bind fun q1 =>
    some (q1.1, q1.2)
  else
    j15 0 M
def mK_restore (M : Mem) : Option (Int32 × Mem) := mK_restoreb (mK_restore_15 fuel) M
/-! FreeLancesModel.tell -/
def mK_tell (x1 : Int32) (M : Mem) : Option (Int32 × Mem) :=
  if (M 41 0 0 8) = 20 then
    (mK_finds 4 M).bind fun q1 =>
    some (q1.1, q1.2)
  else
    ixx (1482 + (M 41 0 0 8)) 1502 fun k3 =>
    let M2 : Mem := up M 41 0 0 k3 x1
    let M4 : Mem := up M2 41 0 0 8 ((M2 41 0 0 8) + 1)
    some (M4 41 0 0 8, M4)
/-! FreeLancesModel.judge -/
def mK_judge_119b (j110 : Int32 → Int64 → Int32 → Mem → Option (Int32 × Mem)) (j119 : Int32 → Int64 → Int32 → Int32 → Mem → Option (Int32 × Mem)) (x2 : Int32) (x3 : Int64) (x5 : Int32) (x6 : Int32) (M : Mem) : Option (Int32 × Mem) :=
  if x6 < (M 41 0 0 0) then
    ixx (1482 + x5) 1502 fun k1 =>
    ixx ((1482 + x2) + x6) 1502 fun k2 =>
    ixx ((1392 + (8 * x5)) + x6) 1502 fun k3 =>
    if (lg_cmp (((M 41 0 0 k1).toInt64) + ((M 41 0 0 k2).toInt64)) ((M 41 0 0 k3).toInt64)) ≤ 0 then
      j119 x2 x3 x5 (x6 + 1) M
    else
      some (3, M)
  else
    j110 x2 x3 (x5 + 1) M
def mK_judge_119 (r110 : Int32 → Int64 → Int32 → Mem → Option (Int32 × Mem)) : Nat → Int32 → Int64 → Int32 → Int32 → Mem → Option (Int32 × Mem)
  | 0, _, _, _, _, _ => none
  | n + 1, x2, x3, x5, x6, M => mK_judge_119b r110 (mK_judge_119 r110 n) x2 x3 x5 x6 M
def mK_judge_110b (j119 : Int32 → Int64 → Int32 → Int32 → Mem → Option (Int32 × Mem)) (x2 : Int32) (x3 : Int64) (x5 : Int32) (M : Mem) : Option (Int32 × Mem) :=
  if x5 < x2 then
    j119 x2 x3 x5 0 M
  else
    (mK_findWinter M).bind fun q1 =>
    if (lg_cmp x3 ((q1 40 0 0 15).toInt64)) = 0 then
      some (0, q1)
    else
      some (4, q1)
def mK_judge_110 : Nat → Int32 → Int64 → Int32 → Mem → Option (Int32 × Mem)
  | 0, _, _, _, _ => none
  | n + 1, x2, x3, x5, M => mK_judge_110b (mK_judge_119 (mK_judge_110 n) fuel) x2 x3 x5 M
def mK_judge_58b (j58 : Int32 → Int32 → Int64 → Int32 → Mem → Option (Int32 × Mem)) (j110 : Int32 → Int64 → Int32 → Mem → Option (Int32 × Mem)) (x1 : Int32) (x2 : Int32) (x3 : Int64) (x5 : Int32) (M : Mem) : Option (Int32 × Mem) :=
  if x5 < x1 then
    if x5 < x2 then
      ixx (1482 + x5) 1502 fun k1 =>
      j58 x1 x2 (x3 + ((M 41 0 0 k1).toInt64)) (x5 + 1) M
    else
      ixx (1482 + x5) 1502 fun k2 =>
      if (M 41 0 0 k2) ≤ 0 then
        ixx (1482 + x5) 1502 fun k3 =>
        j58 x1 x2 (x3 + ((M 41 0 0 k3).toInt64)) (x5 + 1) M
      else
        some (2, M)
  else
    j110 x2 x3 0 M
def mK_judge_58 : Nat → Int32 → Int32 → Int64 → Int32 → Mem → Option (Int32 × Mem)
  | 0, _, _, _, _, _ => none
  | n + 1, x1, x2, x3, x5, M => mK_judge_58b (mK_judge_58 n) (mK_judge_110 fuel) x1 x2 x3 x5 M
def mK_judgeb (j58 : Int32 → Int32 → Int64 → Int32 → Mem → Option (Int32 × Mem)) (M : Mem) : Option (Int32 × Mem) :=
  let M1 : Mem := up M 41 0 0 8 0
  if (M1 41 0 0 0) < (M1 41 0 0 2) then
    (mK_finds 3 M1).bind fun q2 =>
    some (q2.1, q2.2)
  else
    if (M 41 0 0 8) = ((M1 41 0 0 2) + (M1 41 0 0 0)) then
      j58 (M 41 0 0 8) (M1 41 0 0 2) 0 0 M1
    else
      some (1, M1)
def mK_judge (M : Mem) : Option (Int32 × Mem) := mK_judgeb (mK_judge_58 fuel) M
/-! FreeLancesModel.count -/
def mK_count_247b (j247 : Int32 → Int32 → Mem → Option (Int32 × Mem)) (x2 : Int32) (x3 : Int32) (M : Mem) : Option (Int32 × Mem) :=
  if x3 < (M 41 0 0 5) then
    (mK_bond x3 8 M).bind fun q1 =>
    j247 (x2 + q1.1) (x3 + 1) q1.2
  else
    some (x2, M)
def mK_count_247 : Nat → Int32 → Int32 → Mem → Option (Int32 × Mem)
  | 0, _, _, _ => none
  | n + 1, x2, x3, M => mK_count_247b (mK_count_247 n) x2 x3 M
def mK_count_202b (j187 : Int32 → Int32 → Mem → Option (Int32 × Mem)) (j202 : Int32 → Int32 → Int32 → Mem → Option (Int32 × Mem)) (x2 : Int32) (x3 : Int32) (x4 : Int32) (M : Mem) : Option (Int32 × Mem) :=
  if x4 < (M 41 0 0 5) then
    (mK_clashOf x3 x4 M).bind fun q1 =>
    if q1.1 < 0 then
      j202 (x2 + 0) x3 (x4 + 1) q1.2
    else
      j202 (x2 + 1) x3 (x4 + 1) q1.2
  else
    j187 x2 (x3 + 1) M
def mK_count_202 (r187 : Int32 → Int32 → Mem → Option (Int32 × Mem)) : Nat → Int32 → Int32 → Int32 → Mem → Option (Int32 × Mem)
  | 0, _, _, _, _ => none
  | n + 1, x2, x3, x4, M => mK_count_202b r187 (mK_count_202 r187 n) x2 x3 x4 M
def mK_count_187b (j202 : Int32 → Int32 → Int32 → Mem → Option (Int32 × Mem)) (x2 : Int32) (x3 : Int32) (M : Mem) : Option (Int32 × Mem) :=
  if x3 < (M 41 0 0 5) then
    j202 x2 x3 (x3 + 1) M
  else
    some (x2, M)
def mK_count_187 : Nat → Int32 → Int32 → Mem → Option (Int32 × Mem)
  | 0, _, _, _ => none
  | n + 1, x2, x3, M => mK_count_187b (mK_count_202 (mK_count_187 n) fuel) x2 x3 M
def mK_count_150b (j150 : Int32 → Int32 → Mem → Option (Int32 × Mem)) (x2 : Int32) (x3 : Int32) (M : Mem) : Option (Int32 × Mem) :=
  if x3 < (M 41 0 0 3) then
    (mK_its x3 3 M).bind fun q1 =>
    if q1.1 = 0 then
      j150 (x2 + 1) (x3 + 1) q1.2
    else
      j150 (x2 + 0) (x3 + 1) q1.2
  else
    some (x2, M)
def mK_count_150 : Nat → Int32 → Int32 → Mem → Option (Int32 × Mem)
  | 0, _, _, _ => none
  | n + 1, x2, x3, M => mK_count_150b (mK_count_150 n) x2 x3 M
def mK_count_121b (j121 : Int32 → Int32 → Mem → Option (Int32 × Mem)) (x2 : Int32) (x3 : Int32) (M : Mem) : Option (Int32 × Mem) :=
  if x3 < (M 41 0 0 2) then
    (mK_own x3 0 M).bind fun q1 =>
    j121 (x2 + q1.1) (x3 + 1) q1.2
  else
    some (x2, M)
def mK_count_121 : Nat → Int32 → Int32 → Mem → Option (Int32 × Mem)
  | 0, _, _, _ => none
  | n + 1, x2, x3, M => mK_count_121b (mK_count_121 n) x2 x3 M
def mK_count_94b (j94 : Int32 → Int32 → Mem → Option (Int32 × Mem)) (j121 : Int32 → Int32 → Mem → Option (Int32 × Mem)) (x2 : Int32) (x3 : Int32) (M : Mem) : Option (Int32 × Mem) :=
  if x3 < (M 41 0 0 0) then
    (mK_ofTown x3 0 M).bind fun q1 =>
    j94 (x2 + q1.1) (x3 + 1) q1.2
  else
    j121 x2 0 M
def mK_count_94 : Nat → Int32 → Int32 → Mem → Option (Int32 × Mem)
  | 0, _, _, _ => none
  | n + 1, x2, x3, M => mK_count_94b (mK_count_94 n) (mK_count_121 fuel) x2 x3 M
def mK_countb (j94 : Int32 → Int32 → Mem → Option (Int32 × Mem)) (j150 : Int32 → Int32 → Mem → Option (Int32 × Mem)) (j187 : Int32 → Int32 → Mem → Option (Int32 × Mem)) (j247 : Int32 → Int32 → Mem → Option (Int32 × Mem)) (x1 : Int32) (M : Mem) : Option (Int32 × Mem) :=
  if x1 = 0 then
    ixx x1 1502 fun k9 =>
    some (M 41 0 0 k9, M)
  else
    if x1 = 1 then
      ixx x1 1502 fun k8 =>
      some (M 41 0 0 k8, M)
    else
      if x1 = 2 then
        ixx x1 1502 fun k7 =>
        some (M 41 0 0 k7, M)
      else
        if x1 = 3 then
          ixx x1 1502 fun k6 =>
          some (M 41 0 0 k6, M)
        else
          if x1 = 4 then
            ixx x1 1502 fun k5 =>
            some (M 41 0 0 k5, M)
          else
            if x1 = 5 then
              ixx x1 1502 fun k4 =>
              some (M 41 0 0 k4, M)
            else
              if x1 = 6 then
                ixx x1 1502 fun k3 =>
                some (M 41 0 0 k3, M)
              else
                if x1 = 7 then
                  ixx x1 1502 fun k2 =>
                  some (M 41 0 0 k2, M)
                else
                  if x1 = 8 then
                    some (M 40 0 0 22, M)
                  else
                    if x1 = 9 then
                      some (M 41 0 0 8, M)
                    else
                      if x1 = 10 then
                        j94 0 0 M
                      else
                        if x1 = 11 then
                          j150 0 0 M
                        else
                          if x1 = 12 then
                            j187 0 0 M
                          else
                            if x1 = 13 then
                              j247 0 0 M
                            else
                              (mK_finds 1 M).bind fun q1 =>
                              some (q1.1, q1.2)
def mK_count (x1 : Int32) (M : Mem) : Option (Int32 × Mem) := mK_countb (mK_count_94 fuel) (mK_count_150 fuel) (mK_count_187 fuel) (mK_count_247 fuel) x1 M
/-! FreeLancesModel.found -/
def mK_found (x1 : Int32) (M : Mem) : Option (Int32 × Mem) :=
  (mK_in x1 1 5 M).bind fun q1 =>
  if q1.1 = 0 then
    (mK_finds 1 q1.2).bind fun q2 =>
    some (q2.1, q2.2)
  else
    ixx x1 6 fun k3 =>
    some (q1.2 44 0 0 k3, q1.2)
