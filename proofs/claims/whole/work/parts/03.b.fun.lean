def f_X5_in (F : Nat) (a0 : Int64) (a2 : Int64) (a4 : Int64) : Option (Int32) :=
  if (lg_cmp a0 a2) < 0 then
    some ((0 : Int32))
  else
    if 0 < (lg_cmp a0 a4) then
      some ((0 : Int32))
    else
      some ((1 : Int32))
def f_X5_bad (F : Nat) (a1 : Int32) (t_refused : Nat → Int32) : Option (Int32 × (Nat → Int32)) :=
  chk (ix (0 : Int32) 3) <|
  chk (ix (0 : Int32) 3) <|
  some (a1, upd t_refused (0 : Int32).toNatClampNeg ((t_refused (0 : Int32).toNatClampNeg) + (1 : Int32)))
def f_X5_no (F : Nat) (t_refused : Nat → Int32) : Option (Int32 × (Nat → Int32)) :=
  chk (ix (1 : Int32) 3) <|
  chk (ix (1 : Int32) 3) <|
  some ((-3 : Int32), upd t_refused (1 : Int32).toNatClampNeg ((t_refused (1 : Int32).toNatClampNeg) + (1 : Int32)))
def f_X5_full (F : Nat) (t_refused : Nat → Int32) : Option (Int32 × (Nat → Int32)) :=
  chk (ix (2 : Int32) 3) <|
  chk (ix (2 : Int32) 3) <|
  some ((-4 : Int32), upd t_refused (2 : Int32).toNatClampNeg ((t_refused (2 : Int32).toNatClampNeg) + (1 : Int32)))
def f_X5_has (F : Nat) (a0 : Int32) (a1 : Int32) : Option (Int32) :=
  if ((a0 >>> (a1 &&& 31)) &&& (1 : Int32)) = (1 : Int32) then
    some ((1 : Int32))
  else
    some ((0 : Int32))
def f_X5_begin_b2 (F : Nat) (n_p0 : Nat) (a1 : Int32) : Nat → Int32 → (Nat → Int32) → Option ((Nat → Int32))
  | 0, _, _ => none
  | n + 1, v2, p0 =>
    if (75 : Int32) ≤ v2 then
      chk (ix (24 : Int32) n_p0) <|
      some (upd p0 (24 : Int32).toNatClampNeg a1)
    else
      chk (ix v2 n_p0) <|
      (f_X5_begin_b2 F n_p0 a1 n) (v2 + (1 : Int32)) (upd p0 v2.toNatClampNeg (0 : Int32))
def f_X5_begin (F : Nat) (n_p0 : Nat) (a1 : Int32) (p0 : Nat → Int32) : Option ((Nat → Int32)) :=
  (f_X5_begin_b2 F n_p0 a1 F) (0 : Int32) p0
def f_X5_many (F : Nat) (t_told : Nat → Int32) : Option (Int32) :=
  chk (ix (0 : Int32) 251) <|
  some (t_told (0 : Int32).toNatClampNeg)
def f_X5_isWell (F : Nat) (a1 : Int32) (t_told : Nat → Int32) : Option (Int32) :=
  (f_X5_many F t_told).bind fun o1 =>
  (f_X5_in F a1.toInt64 (0 : Int64) ((o1 - (1 : Int32)).toInt64)).bind fun o3 =>
  chk (bo o3) <|
  some (o3)
def f_X5_isHour (F : Nat) (a0 : Int32) : Option (Int32) :=
  (f_X5_in F a0.toInt64 (0 : Int64) (7 : Int64)).bind fun o1 =>
  chk (bo o1) <|
  some (o1)
def f_X5_isPressure (F : Nat) (a0 : Int32) : Option (Int32) :=
  (f_X5_in F a0.toInt64 (0 : Int64) (60 : Int64)).bind fun o1 =>
  chk (bo o1) <|
  some (o1)
def f_X5_isWanted (F : Nat) (a0 : Int32) : Option (Int32) :=
  (f_X5_in F a0.toInt64 (1 : Int64) (20 : Int64)).bind fun o1 =>
  chk (bo o1) <|
  some (o1)
def f_X5_board (F : Nat) (a1 : Int32) (t_told : Nat → Int32) (t_refused : Nat → Int32) : Option (Int32 × (Nat → Int32) × (Nat → Int32)) :=
  (f_X5_isPressure F a1).bind fun o1 =>
  if o1 = 0 then
    (f_X5_bad F (-2 : Int32) t_refused).bind fun o7 =>
    some (o7.1, t_told, o7.2)
  else
    (f_X5_many F t_told).bind fun o3 =>
    (f_X5_begin F 251 a1 t_told).bind fun o5 =>
    some (o3, o5, t_refused)
def f_X5_layWell (F : Nat) (n_p0 : Nat) (a1 : Int32) (a2 : Int32) (a3 : Int32) (p0 : Nat → Int32) : Option ((Nat → Int32)) :=
  chk (ix (0 : Int32) n_p0) <|
  chk (ix ((26 : Int32) + (p0 (0 : Int32).toNatClampNeg)) n_p0) <|
  chk (ix ((19 : Int32) + (p0 (0 : Int32).toNatClampNeg)) n_p0) <|
  chk (ix ((14 : Int32) + (p0 (0 : Int32).toNatClampNeg)) n_p0) <|
  chk (ix ((4 : Int32) + (p0 (0 : Int32).toNatClampNeg)) n_p0) <|
  chk (ix ((9 : Int32) + (p0 (0 : Int32).toNatClampNeg)) n_p0) <|
  chk (ix (0 : Int32) n_p0) <|
  chk (ix (0 : Int32) n_p0) <|
  some (upd (upd (upd (upd (upd (upd p0 ((26 : Int32) + (p0 (0 : Int32).toNatClampNeg)).toNatClampNeg a1) ((19 : Int32) + (p0 (0 : Int32).toNatClampNeg)).toNatClampNeg a2) ((14 : Int32) + (p0 (0 : Int32).toNatClampNeg)).toNatClampNeg a3) ((4 : Int32) + (p0 (0 : Int32).toNatClampNeg)).toNatClampNeg (0 : Int32)) ((9 : Int32) + (p0 (0 : Int32).toNatClampNeg)).toNatClampNeg (0 : Int32)) (0 : Int32).toNatClampNeg (((upd (upd (upd (upd (upd p0 ((26 : Int32) + (p0 (0 : Int32).toNatClampNeg)).toNatClampNeg a1) ((19 : Int32) + (p0 (0 : Int32).toNatClampNeg)).toNatClampNeg a2) ((14 : Int32) + (p0 (0 : Int32).toNatClampNeg)).toNatClampNeg a3) ((4 : Int32) + (p0 (0 : Int32).toNatClampNeg)).toNatClampNeg (0 : Int32)) ((9 : Int32) + (p0 (0 : Int32).toNatClampNeg)).toNatClampNeg (0 : Int32)) (0 : Int32).toNatClampNeg) + (1 : Int32)))
def f_X5_well_b31 (F : Nat) (a1 : Int32) (a2 : Int32) (a3 : Int32) (t_told : Nat → Int32) (t_refused : Nat → Int32) : Option (Int32 × (Nat → Int32) × (Nat → Int32)) :=
  (f_X5_bad F (-2 : Int32) t_refused).bind fun o16 =>
  some (o16.1, t_told, o16.2)
def f_X5_well (F : Nat) (a1 : Int32) (a2 : Int32) (a3 : Int32) (t_told : Nat → Int32) (t_refused : Nat → Int32) : Option (Int32 × (Nat → Int32) × (Nat → Int32)) :=
  (f_X5_in F a1.toInt64 (0 : Int64) (5 : Int64)).bind fun o1 =>
  if o1 = 0 then
    (f_X5_well_b31 F a1 a2 a3) t_told t_refused
  else
    (f_X5_isWanted F a2).bind fun o3 =>
    if o3 = 0 then
      (f_X5_well_b31 F a1 a2 a3) t_told t_refused
    else
      (f_X5_in F a3.toInt64 (0 : Int64) (255 : Int64)).bind fun o5 =>
      if o5 = 0 then
        (f_X5_well_b31 F a1 a2 a3) t_told t_refused
      else
        (f_X5_many F t_told).bind fun o7 =>
        if o7 = (5 : Int32) then
          (f_X5_full F t_refused).bind fun o14 =>
          some (o14.1, t_told, o14.2)
        else
          (f_X5_layWell F 251 a1 a2 a3 t_told).bind fun o9 =>
          chk (ix (3 : Int32) 251) <|
          (f_X5_many F (upd o9 (3 : Int32).toNatClampNeg (0 : Int32))).bind fun o12 =>
          some (o12 - (1 : Int32), upd o9 (3 : Int32).toNatClampNeg (0 : Int32), t_refused)
def f_X5_getsAs_b27 (F : Nat) (a0 : Int32) (a1 : Int32) (a2 : Int32) (a3 : Int32) (v4 : Int32) (s0 : Int32) : Option (Int32) :=
  if a0 = (2 : Int32) then
    some (s0)
  else
  if a0 = (3 : Int32) then
    some (v4)
  else
  if a0 = (4 : Int32) then
    if (a1 - a1 / (2 : Int32) * (2 : Int32)) = (1 : Int32) then
      some (v4)
    else
      some ((0 : Int32))
  else
  if a0 = (5 : Int32) then
    if a3 ≤ ((2 : Int32) * s0) then
      some (a3)
    else
      some ((2 : Int32) * s0)
  else
    some (v4)
def f_X5_getsAs_b10 (F : Nat) (a0 : Int32) (a1 : Int32) (a2 : Int32) (a3 : Int32) (s0 : Int32) : Option (Int32) :=
  if (10 : Int32) ≤ a3 then
    (f_X5_getsAs_b27 F a0 a1 a2 a3) s0 s0
  else
    (f_X5_getsAs_b27 F a0 a1 a2 a3) s0 (s0 / (2 : Int32))
def f_X5_getsAs (F : Nat) (a0 : Int32) (a1 : Int32) (a2 : Int32) (a3 : Int32) : Option (Int32) :=
  if a3 ≤ a2 then
    (f_X5_getsAs_b10 F a0 a1 a2 a3) a3
  else
    (f_X5_getsAs_b10 F a0 a1 a2 a3) a2
def f_X5_dueAs (F : Nat) (a0 : Int32) (a1 : Int32) : Option (Int32) :=
  if a0 = (1 : Int32) then
    some ((2 : Int32) * a1)
  else
  if a0 = (2 : Int32) then
    some (a1)
  else
  if a0 = (3 : Int32) then
    some ((0 : Int32))
  else
  if a0 = (4 : Int32) then
    some ((2 : Int32) * a1)
  else
  if a0 = (5 : Int32) then
    if a1 < (1 : Int32) then
      some (a1)
    else
      some (a1 + (1 : Int32))
  else
    some (a1)
def f_X5_goHour_b69 (F : Nat) (n_p1 : Nat) (a2 : Int32) (a3 : Int32) (a4 : Int32) (p1 : Nat → Int32) (K8 : Int32 → Int32 → (Nat → Int32) → (Nat → Int32) → Option (Int32 × (Nat → Int32) × (Nat → Int32))) (v5 : Int32) (s1 : Int32) (s2 : Int32) (t_leftBehind : Int32) (t_ahead : Nat → Int32) (t_gets : Nat → Int32) : Option (Int32 × (Nat → Int32) × (Nat → Int32)) :=
  chk (ix s1 5) <|
  chk (ix v5 5) <|
  K8 (v5 + (1 : Int32)) (t_leftBehind - ((upd t_gets s1.toNatClampNeg s2) v5.toNatClampNeg)) t_ahead (upd t_gets s1.toNatClampNeg s2)
def f_X5_goHour_b8 (F : Nat) (n_p1 : Nat) (a2 : Int32) (a3 : Int32) (a4 : Int32) (p1 : Nat → Int32) : Nat → Int32 → Int32 → (Nat → Int32) → (Nat → Int32) → Option (Int32 × (Nat → Int32) × (Nat → Int32))
  | 0, _, _, _, _ => none
  | n + 1, v5, t_leftBehind, t_ahead, t_gets =>
    chk (ix (0 : Int32) n_p1) <|
    if (p1 (0 : Int32).toNatClampNeg) ≤ v5 then
      some (t_leftBehind, t_ahead, t_gets)
    else
      chk (ix v5 5) <|
      (f_X5_has F a4 v5).bind fun o3 =>
      if o3 = 0 then
        (f_X5_goHour_b69 F n_p1 a2 a3 a4 p1 (f_X5_goHour_b8 F n_p1 a2 a3 a4 p1 n)) v5 v5 (0 : Int32) t_leftBehind (upd t_ahead v5.toNatClampNeg t_leftBehind) t_gets
      else
        chk (ix ((26 : Int32) + v5) n_p1) <|
        chk (ix ((19 : Int32) + v5) n_p1) <|
        (f_X5_getsAs F (p1 ((26 : Int32) + v5).toNatClampNeg) a2 (p1 ((19 : Int32) + v5).toNatClampNeg) t_leftBehind).bind fun o7 =>
        (f_X5_goHour_b69 F n_p1 a2 a3 a4 p1 (f_X5_goHour_b8 F n_p1 a2 a3 a4 p1 n)) v5 v5 o7 t_leftBehind (upd t_ahead v5.toNatClampNeg t_leftBehind) t_gets
def f_X5_goHour (F : Nat) (n_p1 : Nat) (a2 : Int32) (a3 : Int32) (a4 : Int32) (p1 : Nat → Int32) (t_leftBehind : Int32) (t_ahead : Nat → Int32) (t_gets : Nat → Int32) : Option (Int32 × (Nat → Int32) × (Nat → Int32)) :=
  (f_X5_goHour_b8 F n_p1 a2 a3 a4 p1 F) (0 : Int32) a3 t_ahead t_gets
def f_X5_openIn_b32 (F : Nat) (n_p0 : Nat) (a1 : Int32) (p0 : Nat → Int32) (K4 : Int32 → Int32 → Option (Int32)) (v3 : Int32) (s0 : Int32) (s1 : Int32) : Option (Int32) :=
  K4 (s0 ||| s1) (v3 + (1 : Int32))
def f_X5_openIn_b4 (F : Nat) (n_p0 : Nat) (a1 : Int32) (p0 : Nat → Int32) : Nat → Int32 → Int32 → Option (Int32)
  | 0, _, _ => none
  | n + 1, v2, v3 =>
    chk (ix (0 : Int32) n_p0) <|
    if (p0 (0 : Int32).toNatClampNeg) ≤ v3 then
      some (v2)
    else
      chk (ix ((14 : Int32) + v3) n_p0) <|
      (f_X5_has F (p0 ((14 : Int32) + v3).toNatClampNeg) a1).bind fun o3 =>
      if o3 = 0 then
        (f_X5_openIn_b32 F n_p0 a1 p0 (f_X5_openIn_b4 F n_p0 a1 p0 n)) v3 v2 (0 : Int32)
      else
        (f_X5_openIn_b32 F n_p0 a1 p0 (f_X5_openIn_b4 F n_p0 a1 p0 n)) v3 v2 ((1 : Int32) <<< (v3 &&& 31))
def f_X5_openIn (F : Nat) (n_p0 : Nat) (a1 : Int32) (p0 : Nat → Int32) : Option (Int32) :=
  (f_X5_openIn_b4 F n_p0 a1 p0 F) (0 : Int32) (0 : Int32)
def f_X5_sumOf_b4 (F : Nat) (n_p1 : Nat) (t_told : Nat → Int32) (p1 : Nat → Int32) : Nat → Int32 → Int32 → Option (Int32)
  | 0, _, _ => none
  | n + 1, v2, v3 =>
    (f_X5_many F t_told).bind fun o1 =>
    if o1 ≤ v3 then
      some (v2)
    else
      chk (ix v3 n_p1) <|
      (f_X5_sumOf_b4 F n_p1 t_told p1 n) (v2 + (p1 v3.toNatClampNeg)) (v3 + (1 : Int32))
def f_X5_sumOf (F : Nat) (n_p1 : Nat) (t_told : Nat → Int32) (p1 : Nat → Int32) : Option (Int32) :=
  (f_X5_sumOf_b4 F n_p1 t_told p1 F) (0 : Int32) (0 : Int32)
def f_X5_layDay_b62 (F : Nat) (n_p1 : Nat) (a2 : Int32) (a3 : Int32) (p1 : Nat → Int32) (K34 : Int32 → Int32 → (Nat → Int32) → (Nat → Int32) → (Nat → Int32) → (Nat → Int32) → Option (Int32 × (Nat → Int32) × (Nat → Int32) × (Nat → Int32) × (Nat → Int32))) : Nat → Int32 → Int32 → Int32 → (Nat → Int32) → (Nat → Int32) → (Nat → Int32) → (Nat → Int32) → Option (Int32 × (Nat → Int32) × (Nat → Int32) × (Nat → Int32) × (Nat → Int32))
  | 0, _, _, _, _, _, _, _ => none
  | n + 1, v4, v5, t_leftBehind, t_dayGets, t_dayDue, t_ahead, t_gets =>
    chk (ix (0 : Int32) n_p1) <|
    if (p1 (0 : Int32).toNatClampNeg) ≤ v5 then
      K34 (v4 + (1 : Int32)) t_leftBehind t_dayGets t_dayDue t_ahead t_gets
    else
      chk (ix v5 5) <|
      chk (ix v5 5) <|
      chk (ix v5 5) <|
      chk (ix v5 5) <|
      chk (ix ((26 : Int32) + v5) n_p1) <|
      chk (ix v5 5) <|
      (f_X5_dueAs F (p1 ((26 : Int32) + v5).toNatClampNeg) (t_gets v5.toNatClampNeg)).bind fun o14 =>
      chk (ix v5 5) <|
      (f_X5_layDay_b62 F n_p1 a2 a3 p1 K34 n) v4 (v5 + (1 : Int32)) t_leftBehind (upd t_dayGets v5.toNatClampNeg ((t_dayGets v5.toNatClampNeg) + (t_gets v5.toNatClampNeg))) (upd t_dayDue v5.toNatClampNeg ((t_dayDue v5.toNatClampNeg) + o14)) t_ahead t_gets
def f_X5_layDay_b34 (F : Nat) (n_p1 : Nat) (a2 : Int32) (a3 : Int32) (p1 : Nat → Int32) : Nat → Int32 → Int32 → (Nat → Int32) → (Nat → Int32) → (Nat → Int32) → (Nat → Int32) → Option (Int32 × (Nat → Int32) × (Nat → Int32) × (Nat → Int32) × (Nat → Int32))
  | 0, _, _, _, _, _, _ => none
  | n + 1, v4, t_leftBehind, t_dayGets, t_dayDue, t_ahead, t_gets =>
    if (8 : Int32) ≤ v4 then
      some (t_leftBehind, t_dayGets, t_dayDue, t_ahead, t_gets)
    else
      (f_X5_openIn F n_p1 v4 p1).bind fun o3 =>
      (f_X5_goHour F n_p1 v4 a2 (o3 &&& (a3 ^^^ (-1 : Int32))) p1 t_leftBehind t_ahead t_gets).bind fun o5 =>
      (f_X5_layDay_b62 F n_p1 a2 a3 p1 (f_X5_layDay_b34 F n_p1 a2 a3 p1 n) F) v4 (0 : Int32) o5.1 t_dayGets t_dayDue o5.2.1 o5.2.2
def f_X5_layDay_b3 (F : Nat) (n_p1 : Nat) (a2 : Int32) (a3 : Int32) (p1 : Nat → Int32) : Nat → Int32 → Int32 → (Nat → Int32) → (Nat → Int32) → (Nat → Int32) → (Nat → Int32) → Option (Int32 × (Nat → Int32) × (Nat → Int32) × (Nat → Int32) × (Nat → Int32))
  | 0, _, _, _, _, _, _ => none
  | n + 1, v4, t_leftBehind, t_dayGets, t_dayDue, t_ahead, t_gets =>
    if (5 : Int32) ≤ v4 then
      (f_X5_layDay_b34 F n_p1 a2 a3 p1 F) (0 : Int32) t_leftBehind t_dayGets t_dayDue t_ahead t_gets
    else
      chk (ix v4 5) <|
      chk (ix v4 5) <|
      (f_X5_layDay_b3 F n_p1 a2 a3 p1 n) (v4 + (1 : Int32)) t_leftBehind (upd t_dayGets v4.toNatClampNeg (0 : Int32)) (upd t_dayDue v4.toNatClampNeg (0 : Int32)) t_ahead t_gets
def f_X5_layDay (F : Nat) (n_p1 : Nat) (a2 : Int32) (a3 : Int32) (p1 : Nat → Int32) (t_leftBehind : Int32) (t_dayGets : Nat → Int32) (t_dayDue : Nat → Int32) (t_ahead : Nat → Int32) (t_gets : Nat → Int32) : Option (Int32 × (Nat → Int32) × (Nat → Int32) × (Nat → Int32) × (Nat → Int32)) :=
  (f_X5_layDay_b3 F n_p1 a2 a3 p1 F) (0 : Int32) t_leftBehind t_dayGets t_dayDue t_ahead t_gets
def f_X5_passDay_b14 (F : Nat) (n_p1 : Nat) : Nat → Int32 → Int32 → Int32 → (Nat → Int32) → (Nat → Int32) → (Nat → Int32) → (Nat → Int32) → (Nat → Int32) → Option (Int32 × Int32 × (Nat → Int32) × (Nat → Int32) × (Nat → Int32) × (Nat → Int32) × (Nat → Int32))
  | 0, _, _, _, _, _, _, _, _ => none
  | n + 1, v2, v3, t_leftBehind, p1, t_dayGets, t_dayDue, t_ahead, t_gets =>
    chk (ix (0 : Int32) n_p1) <|
    if (p1 (0 : Int32).toNatClampNeg) ≤ v3 then
      chk (ix (25 : Int32) n_p1) <|
      chk (ix (25 : Int32) n_p1) <|
      some (v2, t_leftBehind, upd p1 (25 : Int32).toNatClampNeg ((p1 (25 : Int32).toNatClampNeg) + (1 : Int32)), t_dayGets, t_dayDue, t_ahead, t_gets)
    else
      chk (ix ((4 : Int32) + v3) n_p1) <|
      chk (ix v3 5) <|
      chk (ix ((4 : Int32) + v3) n_p1) <|
      chk (ix ((9 : Int32) + v3) n_p1) <|
      chk (ix v3 5) <|
      chk (ix ((9 : Int32) + v3) n_p1) <|
      chk (ix v3 5) <|
      (f_X5_passDay_b14 F n_p1 n) (v2 + (t_dayGets v3.toNatClampNeg)) (v3 + (1 : Int32)) t_leftBehind (upd (upd p1 ((4 : Int32) + v3).toNatClampNeg ((p1 ((4 : Int32) + v3).toNatClampNeg) + (t_dayGets v3.toNatClampNeg))) ((9 : Int32) + v3).toNatClampNeg (((upd p1 ((4 : Int32) + v3).toNatClampNeg ((p1 ((4 : Int32) + v3).toNatClampNeg) + (t_dayGets v3.toNatClampNeg))) ((9 : Int32) + v3).toNatClampNeg) + (t_dayDue v3.toNatClampNeg))) t_dayGets t_dayDue t_ahead t_gets
def f_X5_passDay (F : Nat) (n_p1 : Nat) (t_leftBehind : Int32) (p1 : Nat → Int32) (t_dayGets : Nat → Int32) (t_dayDue : Nat → Int32) (t_ahead : Nat → Int32) (t_gets : Nat → Int32) : Option (Int32 × Int32 × (Nat → Int32) × (Nat → Int32) × (Nat → Int32) × (Nat → Int32) × (Nat → Int32)) :=
  chk (ix (24 : Int32) n_p1) <|
  (f_X5_layDay F n_p1 (p1 (24 : Int32).toNatClampNeg) (0 : Int32) p1 t_leftBehind t_dayGets t_dayDue t_ahead t_gets).bind fun o2 =>
  (f_X5_passDay_b14 F n_p1 F) (0 : Int32) (0 : Int32) o2.1 p1 o2.2.1 o2.2.2.1 o2.2.2.2.1 o2.2.2.2.2
def f_X5_keep_b13 (F : Nat) (K52 : (Nat → Int32) → Option ((Nat → Int32))) : Nat → Int32 → (Nat → Int32) → Option ((Nat → Int32))
  | 0, _, _ => none
  | n + 1, v1, t_told =>
    if (154 : Int32) ≤ v1 then
      chk (ix (3 : Int32) 251) <|
      K52 (upd t_told (3 : Int32).toNatClampNeg (7 : Int32))
    else
      chk (ix ((97 : Int32) + v1) 251) <|
      chk (ix ((75 : Int32) + v1) 251) <|
      (f_X5_keep_b13 F K52 n) (v1 + (1 : Int32)) (upd t_told ((75 : Int32) + v1).toNatClampNeg (t_told ((97 : Int32) + v1).toNatClampNeg))
def f_X5_keep_b54 (F : Nat) : Nat → Int32 → (Nat → Int32) → Option ((Nat → Int32))
  | 0, _, _ => none
  | n + 1, v1, t_told =>
    if (22 : Int32) ≤ v1 then
      chk (ix (3 : Int32) 251) <|
      chk (ix (3 : Int32) 251) <|
      some (upd t_told (3 : Int32).toNatClampNeg ((t_told (3 : Int32).toNatClampNeg) + (1 : Int32)))
    else
      chk (ix (3 : Int32) 251) <|
      chk (ix ((4 : Int32) + v1) 251) <|
      chk (ix (((75 : Int32) + ((22 : Int32) * (t_told (3 : Int32).toNatClampNeg))) + v1) 251) <|
      (f_X5_keep_b54 F n) (v1 + (1 : Int32)) (upd t_told (((75 : Int32) + ((22 : Int32) * (t_told (3 : Int32).toNatClampNeg))) + v1).toNatClampNeg (t_told ((4 : Int32) + v1).toNatClampNeg))
def f_X5_keep_b52 (F : Nat) (t_told : Nat → Int32) : Option ((Nat → Int32)) :=
  (f_X5_keep_b54 F F) (0 : Int32) t_told
def f_X5_keep (F : Nat) (t_told : Nat → Int32) : Option ((Nat → Int32)) :=
  chk (ix (3 : Int32) 251) <|
  if (t_told (3 : Int32).toNatClampNeg) = (8 : Int32) then
    (f_X5_keep_b13 F (f_X5_keep_b52 F) F) (0 : Int32) t_told
  else
    (f_X5_keep_b52 F) t_told
def f_X5_day_b27 (F : Nat) (a1 : Int32) : Nat → Int32 → Int32 → Int32 → (Nat → Int32) → (Nat → Int32) → (Nat → Int32) → (Nat → Int32) → (Nat → Int32) → (Nat → Int32) → Option (Int32 × Int32 × (Nat → Int32) × (Nat → Int32) × (Nat → Int32) × (Nat → Int32) × (Nat → Int32) × (Nat → Int32))
  | 0, _, _, _, _, _, _, _, _, _ => none
  | n + 1, v2, v3, t_leftBehind, t_told, t_refused, t_dayGets, t_dayDue, t_ahead, t_gets =>
    if a1 ≤ v3 then
      some (v2, t_leftBehind, t_told, t_refused, t_dayGets, t_dayDue, t_ahead, t_gets)
    else
      chk (ix (25 : Int32) 251) <|
      if (999 : Int32) ≤ (t_told (25 : Int32).toNatClampNeg) then
        some (v2, t_leftBehind, t_told, t_refused, t_dayGets, t_dayDue, t_ahead, t_gets)
      else
        (f_X5_passDay F 251 t_leftBehind t_told t_dayGets t_dayDue t_ahead t_gets).bind fun o8 =>
        (f_X5_day_b27 F a1 n) (v2 + o8.1) (v3 + (1 : Int32)) o8.2.1 o8.2.2.1 t_refused o8.2.2.2.1 o8.2.2.2.2.1 o8.2.2.2.2.2.1 o8.2.2.2.2.2.2
def f_X5_day (F : Nat) (a1 : Int32) (t_leftBehind : Int32) (t_told : Nat → Int32) (t_refused : Nat → Int32) (t_dayGets : Nat → Int32) (t_dayDue : Nat → Int32) (t_ahead : Nat → Int32) (t_gets : Nat → Int32) : Option (Int32 × Int32 × (Nat → Int32) × (Nat → Int32) × (Nat → Int32) × (Nat → Int32) × (Nat → Int32) × (Nat → Int32)) :=
  (f_X5_in F a1.toInt64 (1 : Int64) (30 : Int64)).bind fun o1 =>
  if o1 = 0 then
    (f_X5_bad F (-2 : Int32) t_refused).bind fun o5 =>
    some (o5.1, t_leftBehind, t_told, o5.2, t_dayGets, t_dayDue, t_ahead, t_gets)
  else
    (f_X5_keep F t_told).bind fun o3 =>
    (f_X5_day_b27 F a1 F) (0 : Int32) (0 : Int32) t_leftBehind o3 t_refused t_dayGets t_dayDue t_ahead t_gets
def f_X5_turn_b20 (F : Nat) (a1 : Int32) (a2 : Int32) (t_told : Nat → Int32) (t_refused : Nat → Int32) : Option (Int32 × (Nat → Int32) × (Nat → Int32)) :=
  (f_X5_bad F (-2 : Int32) t_refused).bind fun o9 =>
  some (o9.1, t_told, o9.2)
def f_X5_turn (F : Nat) (a1 : Int32) (a2 : Int32) (t_told : Nat → Int32) (t_refused : Nat → Int32) : Option (Int32 × (Nat → Int32) × (Nat → Int32)) :=
  (f_X5_isWell F a1 t_told).bind fun o1 =>
  if o1 = 0 then
    (f_X5_turn_b20 F a1 a2) t_told t_refused
  else
    (f_X5_in F a2.toInt64 (0 : Int64) (255 : Int64)).bind fun o3 =>
    if o3 = 0 then
      (f_X5_turn_b20 F a1 a2) t_told t_refused
    else
      chk (ix ((14 : Int32) + a1) 251) <|
      (f_X5_keep F t_told).bind fun o6 =>
      chk (ix ((14 : Int32) + a1) 251) <|
      some (t_told ((14 : Int32) + a1).toNatClampNeg, upd o6 ((14 : Int32) + a1).toNatClampNeg a2, t_refused)
def f_X5_want_b15 (F : Nat) (a1 : Int32) (a2 : Int32) (t_told : Nat → Int32) (t_refused : Nat → Int32) : Option (Int32 × (Nat → Int32) × (Nat → Int32)) :=
  (f_X5_bad F (-2 : Int32) t_refused).bind fun o9 =>
  some (o9.1, t_told, o9.2)
def f_X5_want (F : Nat) (a1 : Int32) (a2 : Int32) (t_told : Nat → Int32) (t_refused : Nat → Int32) : Option (Int32 × (Nat → Int32) × (Nat → Int32)) :=
  (f_X5_isWell F a1 t_told).bind fun o1 =>
  if o1 = 0 then
    (f_X5_want_b15 F a1 a2) t_told t_refused
  else
    (f_X5_isWanted F a2).bind fun o3 =>
    if o3 = 0 then
      (f_X5_want_b15 F a1 a2) t_told t_refused
    else
      chk (ix ((19 : Int32) + a1) 251) <|
      (f_X5_keep F t_told).bind fun o6 =>
      chk (ix ((19 : Int32) + a1) 251) <|
      some (t_told ((19 : Int32) + a1).toNatClampNeg, upd o6 ((19 : Int32) + a1).toNatClampNeg a2, t_refused)
def f_X5_press (F : Nat) (a1 : Int32) (t_told : Nat → Int32) (t_refused : Nat → Int32) : Option (Int32 × (Nat → Int32) × (Nat → Int32)) :=
  (f_X5_isPressure F a1).bind fun o1 =>
  if o1 = 0 then
    (f_X5_bad F (-2 : Int32) t_refused).bind fun o7 =>
    some (o7.1, t_told, o7.2)
  else
    chk (ix (24 : Int32) 251) <|
    (f_X5_keep F t_told).bind fun o4 =>
    chk (ix (24 : Int32) 251) <|
    some (t_told (24 : Int32).toNatClampNeg, upd o4 (24 : Int32).toNatClampNeg a1, t_refused)
def f_X5_undo_b26 (F : Nat) : Nat → Int32 → (Nat → Int32) → (Nat → Int32) → Option (Int32 × (Nat → Int32) × (Nat → Int32))
  | 0, _, _, _ => none
  | n + 1, v1, t_told, t_refused =>
    if (22 : Int32) ≤ v1 then
      chk (ix (25 : Int32) 251) <|
      some (t_told (25 : Int32).toNatClampNeg, t_told, t_refused)
    else
      chk (ix (3 : Int32) 251) <|
      chk (ix (((75 : Int32) + ((22 : Int32) * (t_told (3 : Int32).toNatClampNeg))) + v1) 251) <|
      chk (ix ((4 : Int32) + v1) 251) <|
      (f_X5_undo_b26 F n) (v1 + (1 : Int32)) (upd t_told ((4 : Int32) + v1).toNatClampNeg (t_told (((75 : Int32) + ((22 : Int32) * (t_told (3 : Int32).toNatClampNeg))) + v1).toNatClampNeg)) t_refused
def f_X5_undo (F : Nat) (t_told : Nat → Int32) (t_refused : Nat → Int32) : Option (Int32 × (Nat → Int32) × (Nat → Int32)) :=
  chk (ix (3 : Int32) 251) <|
  if (t_told (3 : Int32).toNatClampNeg) = 0 then
    (f_X5_no F t_refused).bind fun o4 =>
    some (o4.1, t_told, o4.2)
  else
    chk (ix (3 : Int32) 251) <|
    chk (ix (3 : Int32) 251) <|
    (f_X5_undo_b26 F F) (0 : Int32) (upd t_told (3 : Int32).toNatClampNeg ((t_told (3 : Int32).toNatClampNeg) - (1 : Int32))) t_refused
def f_X5_of_b20 (F : Nat) (a1 : Int32) (a2 : Int32) (t_told : Nat → Int32) (t_refused : Nat → Int32) : Option (Int32 × (Nat → Int32)) :=
  (f_X5_bad F (-2 : Int32) t_refused).bind fun o10 =>
  some (o10.1, o10.2)
def f_X5_of (F : Nat) (a1 : Int32) (a2 : Int32) (t_told : Nat → Int32) (t_refused : Nat → Int32) : Option (Int32 × (Nat → Int32)) :=
  (f_X5_isWell F a1 t_told).bind fun o1 =>
  if o1 = 0 then
    (f_X5_of_b20 F a1 a2 t_told) t_refused
  else
    (f_X5_in F a2.toInt64 (0 : Int64) (4 : Int64)).bind fun o3 =>
    if o3 = 0 then
      (f_X5_of_b20 F a1 a2 t_told) t_refused
    else
      if a2 = (0 : Int32) then
        chk (ix ((26 : Int32) + a1) 251) <|
        some (t_told ((26 : Int32) + a1).toNatClampNeg, t_refused)
      else
      if a2 = (1 : Int32) then
        chk (ix ((19 : Int32) + a1) 251) <|
        some (t_told ((19 : Int32) + a1).toNatClampNeg, t_refused)
      else
      if a2 = (2 : Int32) then
        chk (ix ((14 : Int32) + a1) 251) <|
        some (t_told ((14 : Int32) + a1).toNatClampNeg, t_refused)
      else
      if a2 = (3 : Int32) then
        chk (ix ((4 : Int32) + a1) 251) <|
        some (t_told ((4 : Int32) + a1).toNatClampNeg, t_refused)
      else
        chk (ix ((9 : Int32) + a1) 251) <|
        some (t_told ((9 : Int32) + a1).toNatClampNeg, t_refused)
def f_X5_hour_b27 (F : Nat) (a1 : Int32) (a2 : Int32) (a3 : Int32) (t_told : Nat → Int32) (t_leftBehind : Int32) (t_ahead : Nat → Int32) (t_gets : Nat → Int32) (t_refused : Nat → Int32) : Option (Int32 × Int32 × (Nat → Int32) × (Nat → Int32) × (Nat → Int32)) :=
  (f_X5_bad F (-2 : Int32) t_refused).bind fun o14 =>
  some (o14.1, t_leftBehind, t_ahead, t_gets, o14.2)
def f_X5_hour (F : Nat) (a1 : Int32) (a2 : Int32) (a3 : Int32) (t_told : Nat → Int32) (t_leftBehind : Int32) (t_ahead : Nat → Int32) (t_gets : Nat → Int32) (t_refused : Nat → Int32) : Option (Int32 × Int32 × (Nat → Int32) × (Nat → Int32) × (Nat → Int32)) :=
  (f_X5_isWell F a1 t_told).bind fun o1 =>
  if o1 = 0 then
    (f_X5_hour_b27 F a1 a2 a3 t_told) t_leftBehind t_ahead t_gets t_refused
  else
    (f_X5_isHour F a2).bind fun o3 =>
    if o3 = 0 then
      (f_X5_hour_b27 F a1 a2 a3 t_told) t_leftBehind t_ahead t_gets t_refused
    else
      (f_X5_in F a3.toInt64 (0 : Int64) (2 : Int64)).bind fun o5 =>
      if o5 = 0 then
        (f_X5_hour_b27 F a1 a2 a3 t_told) t_leftBehind t_ahead t_gets t_refused
      else
        chk (ix (24 : Int32) 251) <|
        (f_X5_openIn F 251 a2 t_told).bind fun o8 =>
        (f_X5_goHour F 251 a2 (t_told (24 : Int32).toNatClampNeg) o8 t_told t_leftBehind t_ahead t_gets).bind fun o10 =>
        if a3 = 0 then
          chk (ix a1 5) <|
          some (o10.2.2 a1.toNatClampNeg, o10.1, o10.2.1, o10.2.2, t_refused)
        else
          if a3 = (1 : Int32) then
            chk (ix a1 5) <|
            some (o10.2.1 a1.toNatClampNeg, o10.1, o10.2.1, o10.2.2, t_refused)
          else
            some (o10.1, o10.1, o10.2.1, o10.2.2, t_refused)
def f_X5_daily_b28 (F : Nat) (a1 : Int32) (a2 : Int32) (t_told : Nat → Int32) (t_leftBehind : Int32) (t_dayGets : Nat → Int32) (t_dayDue : Nat → Int32) (t_ahead : Nat → Int32) (t_gets : Nat → Int32) (t_refused : Nat → Int32) : Option (Int32 × Int32 × (Nat → Int32) × (Nat → Int32) × (Nat → Int32) × (Nat → Int32) × (Nat → Int32)) :=
  (f_X5_bad F (-2 : Int32) t_refused).bind fun o16 =>
  some (o16.1, t_leftBehind, t_dayGets, t_dayDue, t_ahead, t_gets, o16.2)
def f_X5_daily (F : Nat) (a1 : Int32) (a2 : Int32) (t_told : Nat → Int32) (t_leftBehind : Int32) (t_dayGets : Nat → Int32) (t_dayDue : Nat → Int32) (t_ahead : Nat → Int32) (t_gets : Nat → Int32) (t_refused : Nat → Int32) : Option (Int32 × Int32 × (Nat → Int32) × (Nat → Int32) × (Nat → Int32) × (Nat → Int32) × (Nat → Int32)) :=
  (f_X5_many F t_told).bind fun o1 =>
  (f_X5_in F a1.toInt64 (-1 : Int64) ((o1 - (1 : Int32)).toInt64)).bind fun o3 =>
  if o3 = 0 then
    (f_X5_daily_b28 F a1 a2 t_told) t_leftBehind t_dayGets t_dayDue t_ahead t_gets t_refused
  else
    (f_X5_in F a2.toInt64 (0 : Int64) (1 : Int64)).bind fun o5 =>
    if o5 = 0 then
      (f_X5_daily_b28 F a1 a2 t_told) t_leftBehind t_dayGets t_dayDue t_ahead t_gets t_refused
    else
      chk (ix (24 : Int32) 251) <|
      (f_X5_layDay F 251 (t_told (24 : Int32).toNatClampNeg) (0 : Int32) t_told t_leftBehind t_dayGets t_dayDue t_ahead t_gets).bind fun o8 =>
      if a1 = (-1 : Int32) then
        if a2 = 0 then
          (f_X5_sumOf F 5 t_told o8.2.1).bind fun o14 =>
          some (o14, o8.1, o8.2.1, o8.2.2.1, o8.2.2.2.1, o8.2.2.2.2, t_refused)
        else
          (f_X5_sumOf F 5 t_told o8.2.2.1).bind fun o12 =>
          some (o12, o8.1, o8.2.1, o8.2.2.1, o8.2.2.2.1, o8.2.2.2.2, t_refused)
      else
        if a2 = 0 then
          chk (ix a1 5) <|
          some (o8.2.1 a1.toNatClampNeg, o8.1, o8.2.1, o8.2.2.1, o8.2.2.2.1, o8.2.2.2.2, t_refused)
        else
          chk (ix a1 5) <|
          some (o8.2.2.1 a1.toNatClampNeg, o8.1, o8.2.1, o8.2.2.1, o8.2.2.2.1, o8.2.2.2.2, t_refused)
def f_X5_layOwn_b79 (F : Nat) (a1 : Int32) (t_told : Nat → Int32) (K50 : Int32 → Int32 → Int32 → Int32 → (Nat → Int32) → (Nat → Int32) → (Nat → Int32) → (Nat → Int32) → Option (Int32 × (Nat → Int32) × (Nat → Int32) × (Nat → Int32) × (Nat → Int32))) (v2 : Int32) (v4 : Int32) (s0 : Int32) (s1 : Int32) (t_leftBehind : Int32) (t_own : Nat → Int32) (t_ahead : Nat → Int32) (t_gets : Nat → Int32) (t_ownGets : Nat → Int32) : Option (Int32 × (Nat → Int32) × (Nat → Int32) × (Nat → Int32) × (Nat → Int32)) :=
  K50 v2 (s0 ||| s1) (v4 + (1 : Int32)) t_leftBehind t_own t_ahead t_gets t_ownGets
def f_X5_layOwn_b150 (F : Nat) (a1 : Int32) (t_told : Nat → Int32) (K107 : Int32 → Int32 → Int32 → (Nat → Int32) → (Nat → Int32) → (Nat → Int32) → (Nat → Int32) → Option (Int32 × (Nat → Int32) × (Nat → Int32) × (Nat → Int32) × (Nat → Int32))) (v2 : Int32) (v4 : Int32) (s1 : Int32) (s2 : Int32) (t_leftBehind : Int32) (t_own : Nat → Int32) (t_ahead : Nat → Int32) (t_gets : Nat → Int32) (t_ownGets : Nat → Int32) : Option (Int32 × (Nat → Int32) × (Nat → Int32) × (Nat → Int32) × (Nat → Int32)) :=
  chk (ix s1 5) <|
  K107 v2 (v4 + (1 : Int32)) t_leftBehind t_own t_ahead t_gets (upd t_ownGets s1.toNatClampNeg s2)
def f_X5_layOwn_b107 (F : Nat) (a1 : Int32) (t_told : Nat → Int32) (K39 : Int32 → Int32 → (Nat → Int32) → (Nat → Int32) → (Nat → Int32) → (Nat → Int32) → Option (Int32 × (Nat → Int32) × (Nat → Int32) × (Nat → Int32) × (Nat → Int32))) : Nat → Int32 → Int32 → Int32 → (Nat → Int32) → (Nat → Int32) → (Nat → Int32) → (Nat → Int32) → Option (Int32 × (Nat → Int32) × (Nat → Int32) × (Nat → Int32) × (Nat → Int32))
  | 0, _, _, _, _, _, _, _ => none
  | n + 1, v2, v4, t_leftBehind, t_own, t_ahead, t_gets, t_ownGets =>
    (f_X5_many F t_told).bind fun o12 =>
    if o12 ≤ v4 then
      K39 (v2 + (1 : Int32)) t_leftBehind t_own t_ahead t_gets t_ownGets
    else
      chk (ix v4 5) <|
      if (t_own v4.toNatClampNeg) = v2 then
        chk (ix v4 5) <|
        (f_X5_layOwn_b150 F a1 t_told (f_X5_layOwn_b107 F a1 t_told K39 n)) v2 v4 v4 (t_gets v4.toNatClampNeg) t_leftBehind t_own t_ahead t_gets t_ownGets
      else
        chk (ix v4 5) <|
        (f_X5_layOwn_b150 F a1 t_told (f_X5_layOwn_b107 F a1 t_told K39 n)) v2 v4 v4 (t_ownGets v4.toNatClampNeg) t_leftBehind t_own t_ahead t_gets t_ownGets
def f_X5_layOwn_b50 (F : Nat) (a1 : Int32) (t_told : Nat → Int32) (K39 : Int32 → Int32 → (Nat → Int32) → (Nat → Int32) → (Nat → Int32) → (Nat → Int32) → Option (Int32 × (Nat → Int32) × (Nat → Int32) × (Nat → Int32) × (Nat → Int32))) : Nat → Int32 → Int32 → Int32 → Int32 → (Nat → Int32) → (Nat → Int32) → (Nat → Int32) → (Nat → Int32) → Option (Int32 × (Nat → Int32) × (Nat → Int32) × (Nat → Int32) × (Nat → Int32))
  | 0, _, _, _, _, _, _, _, _ => none
  | n + 1, v2, v3, v4, t_leftBehind, t_own, t_ahead, t_gets, t_ownGets =>
    (f_X5_many F t_told).bind fun o6 =>
    if o6 ≤ v4 then
      chk (ix (24 : Int32) 251) <|
      (f_X5_goHour F 251 v2 (t_told (24 : Int32).toNatClampNeg) v3 t_told t_leftBehind t_ahead t_gets).bind fun o9 =>
      (f_X5_layOwn_b107 F a1 t_told K39 F) v2 (0 : Int32) o9.1 t_own o9.2.1 o9.2.2 t_ownGets
    else
      chk (ix v4 5) <|
      if (t_own v4.toNatClampNeg) = v2 then
        (f_X5_layOwn_b79 F a1 t_told (f_X5_layOwn_b50 F a1 t_told K39 n)) v2 v4 v3 ((1 : Int32) <<< (v4 &&& 31)) t_leftBehind t_own t_ahead t_gets t_ownGets
      else
        (f_X5_layOwn_b79 F a1 t_told (f_X5_layOwn_b50 F a1 t_told K39 n)) v2 v4 v3 (0 : Int32) t_leftBehind t_own t_ahead t_gets t_ownGets
def f_X5_layOwn_b39 (F : Nat) (a1 : Int32) (t_told : Nat → Int32) : Nat → Int32 → Int32 → (Nat → Int32) → (Nat → Int32) → (Nat → Int32) → (Nat → Int32) → Option (Int32 × (Nat → Int32) × (Nat → Int32) × (Nat → Int32) × (Nat → Int32))
  | 0, _, _, _, _, _, _ => none
  | n + 1, v2, t_leftBehind, t_own, t_ahead, t_gets, t_ownGets =>
    if (8 : Int32) ≤ v2 then
      some (t_leftBehind, t_own, t_ahead, t_gets, t_ownGets)
    else
      (f_X5_layOwn_b50 F a1 t_told (f_X5_layOwn_b39 F a1 t_told n) F) v2 (0 : Int32) (0 : Int32) t_leftBehind t_own t_ahead t_gets t_ownGets
def f_X5_layOwn_b2 (F : Nat) (a1 : Int32) (t_told : Nat → Int32) : Nat → Int32 → Int32 → (Nat → Int32) → (Nat → Int32) → (Nat → Int32) → (Nat → Int32) → Option (Int32 × (Nat → Int32) × (Nat → Int32) × (Nat → Int32) × (Nat → Int32))
  | 0, _, _, _, _, _, _ => none
  | n + 1, v2, t_leftBehind, t_own, t_ahead, t_gets, t_ownGets =>
    (f_X5_many F t_told).bind fun o1 =>
    if o1 ≤ v2 then
      (f_X5_layOwn_b39 F a1 t_told F) (0 : Int32) t_leftBehind t_own t_ahead t_gets t_ownGets
    else
      (f_X5_many F t_told).bind fun o3 =>
      chk (ix v2 5) <|
      (f_X5_layOwn_b2 F a1 t_told n) (v2 + (1 : Int32)) t_leftBehind (upd t_own v2.toNatClampNeg ((a1 >>> (((3 : Int32) * ((o3 - (1 : Int32)) - v2)) &&& 31)) &&& (7 : Int32))) t_ahead t_gets t_ownGets
def f_X5_layOwn (F : Nat) (a1 : Int32) (t_told : Nat → Int32) (t_leftBehind : Int32) (t_own : Nat → Int32) (t_ahead : Nat → Int32) (t_gets : Nat → Int32) (t_ownGets : Nat → Int32) : Option (Int32 × (Nat → Int32) × (Nat → Int32) × (Nat → Int32) × (Nat → Int32)) :=
  (f_X5_layOwn_b2 F a1 t_told F) (0 : Int32) t_leftBehind t_own t_ahead t_gets t_ownGets
def f_X5_turns_b106 (F : Nat) (a1 : Int32) (t_told : Nat → Int32) (K29 : Int32 → Int32 → Int32 → (Nat → Int32) → (Nat → Int32) → (Nat → Int32) → (Nat → Int32) → (Nat → Int32) → (Nat → Int32) → Option (Int32 × Int32 × (Nat → Int32) × (Nat → Int32) × (Nat → Int32) × (Nat → Int32) × (Nat → Int32) × (Nat → Int32))) (v3 : Int32) (s0 : Int32) (t_leftBehind : Int32) (t_refused : Nat → Int32) (t_bestOwn : Nat → Int32) (t_own : Nat → Int32) (t_ahead : Nat → Int32) (t_gets : Nat → Int32) (t_ownGets : Nat → Int32) : Option (Int32 × Int32 × (Nat → Int32) × (Nat → Int32) × (Nat → Int32) × (Nat → Int32) × (Nat → Int32) × (Nat → Int32)) :=
  K29 s0 (v3 + (1 : Int32)) t_leftBehind t_refused t_bestOwn t_own t_ahead t_gets t_ownGets
def f_X5_turns_b94 (F : Nat) (a1 : Int32) (t_told : Nat → Int32) (K29 : Int32 → Int32 → Int32 → (Nat → Int32) → (Nat → Int32) → (Nat → Int32) → (Nat → Int32) → (Nat → Int32) → (Nat → Int32) → Option (Int32 × Int32 × (Nat → Int32) × (Nat → Int32) × (Nat → Int32) × (Nat → Int32) × (Nat → Int32) × (Nat → Int32))) (v2 : Int32) (v3 : Int32) (v4 : Int32) (t_leftBehind : Int32) (t_refused : Nat → Int32) (t_bestOwn : Nat → Int32) (t_own : Nat → Int32) (t_ahead : Nat → Int32) (t_gets : Nat → Int32) (t_ownGets : Nat → Int32) : Option (Int32 × Int32 × (Nat → Int32) × (Nat → Int32) × (Nat → Int32) × (Nat → Int32) × (Nat → Int32) × (Nat → Int32)) :=
  if v4 ≤ v2 then
    (f_X5_turns_b106 F a1 t_told K29) v3 v2 t_leftBehind t_refused t_bestOwn t_own t_ahead t_gets t_ownGets
  else
    (f_X5_turns_b106 F a1 t_told K29) v3 v4 t_leftBehind t_refused t_bestOwn t_own t_ahead t_gets t_ownGets
def f_X5_turns_b59 (F : Nat) (a1 : Int32) (t_told : Nat → Int32) (K29 : Int32 → Int32 → Int32 → (Nat → Int32) → (Nat → Int32) → (Nat → Int32) → (Nat → Int32) → (Nat → Int32) → (Nat → Int32) → Option (Int32 × Int32 × (Nat → Int32) × (Nat → Int32) × (Nat → Int32) × (Nat → Int32) × (Nat → Int32) × (Nat → Int32))) : Nat → Int32 → Int32 → Int32 → Int32 → Int32 → (Nat → Int32) → (Nat → Int32) → (Nat → Int32) → (Nat → Int32) → (Nat → Int32) → (Nat → Int32) → Option (Int32 × Int32 × (Nat → Int32) × (Nat → Int32) × (Nat → Int32) × (Nat → Int32) × (Nat → Int32) × (Nat → Int32))
  | 0, _, _, _, _, _, _, _, _, _, _, _ => none
  | n + 1, v2, v3, v4, v5, t_leftBehind, t_refused, t_bestOwn, t_own, t_ahead, t_gets, t_ownGets =>
    (f_X5_many F t_told).bind fun o14 =>
    if o14 ≤ v5 then
      (f_X5_turns_b94 F a1 t_told K29) v2 v3 v4 t_leftBehind t_refused t_bestOwn t_own t_ahead t_gets t_ownGets
    else
      if v4 ≤ v2 then
        (f_X5_turns_b94 F a1 t_told K29) v2 v3 v4 t_leftBehind t_refused t_bestOwn t_own t_ahead t_gets t_ownGets
      else
        chk (ix v5 5) <|
        chk (ix v5 5) <|
        (f_X5_turns_b59 F a1 t_told K29 n) v2 v3 v4 (v5 + (1 : Int32)) t_leftBehind t_refused (upd t_bestOwn v5.toNatClampNeg (t_own v5.toNatClampNeg)) t_own t_ahead t_gets t_ownGets
def f_X5_turns_b29 (F : Nat) (a1 : Int32) (t_told : Nat → Int32) : Nat → Int32 → Int32 → Int32 → (Nat → Int32) → (Nat → Int32) → (Nat → Int32) → (Nat → Int32) → (Nat → Int32) → (Nat → Int32) → Option (Int32 × Int32 × (Nat → Int32) × (Nat → Int32) × (Nat → Int32) × (Nat → Int32) × (Nat → Int32) × (Nat → Int32))
  | 0, _, _, _, _, _, _, _, _, _ => none
  | n + 1, v2, v3, t_leftBehind, t_refused, t_bestOwn, t_own, t_ahead, t_gets, t_ownGets =>
    (f_X5_many F t_told).bind fun o7 =>
    if ((1 : Int32) <<< (((3 : Int32) * o7) &&& 31)) ≤ v3 then
      if a1 = (-1 : Int32) then
        some (v2, t_leftBehind, t_refused, t_bestOwn, t_own, t_ahead, t_gets, t_ownGets)
      else
        chk (ix a1 5) <|
        some (t_bestOwn a1.toNatClampNeg, t_leftBehind, t_refused, t_bestOwn, t_own, t_ahead, t_gets, t_ownGets)
    else
      (f_X5_layOwn F v3 t_told t_leftBehind t_own t_ahead t_gets t_ownGets).bind fun o10 =>
      (f_X5_sumOf F 5 t_told o10.2.2.2.2).bind fun o12 =>
      (f_X5_turns_b59 F a1 t_told (f_X5_turns_b29 F a1 t_told n) F) v2 v3 o12 (0 : Int32) o10.1 t_refused t_bestOwn o10.2.1 o10.2.2.1 o10.2.2.2.1 o10.2.2.2.2
def f_X5_turns (F : Nat) (a1 : Int32) (t_told : Nat → Int32) (t_leftBehind : Int32) (t_refused : Nat → Int32) (t_bestOwn : Nat → Int32) (t_own : Nat → Int32) (t_ahead : Nat → Int32) (t_gets : Nat → Int32) (t_ownGets : Nat → Int32) : Option (Int32 × Int32 × (Nat → Int32) × (Nat → Int32) × (Nat → Int32) × (Nat → Int32) × (Nat → Int32) × (Nat → Int32)) :=
  (f_X5_many F t_told).bind fun o1 =>
  (f_X5_in F a1.toInt64 (-1 : Int64) ((o1 - (1 : Int32)).toInt64)).bind fun o3 =>
  if o3 = 0 then
    (f_X5_bad F (-10 : Int32) t_refused).bind fun o5 =>
    some (o5.1, t_leftBehind, o5.2, t_bestOwn, t_own, t_ahead, t_gets, t_ownGets)
  else
    (f_X5_turns_b29 F a1 t_told F) (-1 : Int32) (0 : Int32) t_leftBehind t_refused t_bestOwn t_own t_ahead t_gets t_ownGets
def f_X5_bestAlone_b53 (F : Nat) (a1 : Int32) (t_told : Nat → Int32) (K4 : Int32 → Int32 → Option (Int32)) (v3 : Int32) (s0 : Int32) : Option (Int32) :=
  K4 s0 (v3 + (1 : Int32))
def f_X5_bestAlone_b4 (F : Nat) (a1 : Int32) (t_told : Nat → Int32) : Nat → Int32 → Int32 → Option (Int32)
  | 0, _, _ => none
  | n + 1, v2, v3 =>
    if (8 : Int32) ≤ v3 then
      some (v2)
    else
      chk (ix ((26 : Int32) + a1) 251) <|
      chk (ix ((19 : Int32) + a1) 251) <|
      chk (ix (24 : Int32) 251) <|
      (f_X5_getsAs F (t_told ((26 : Int32) + a1).toNatClampNeg) v3 (t_told ((19 : Int32) + a1).toNatClampNeg) (t_told (24 : Int32).toNatClampNeg)).bind fun o4 =>
      if o4 ≤ v2 then
        (f_X5_bestAlone_b53 F a1 t_told (f_X5_bestAlone_b4 F a1 t_told n)) v3 v2
      else
        (f_X5_bestAlone_b53 F a1 t_told (f_X5_bestAlone_b4 F a1 t_told n)) v3 o4
def f_X5_bestAlone (F : Nat) (a1 : Int32) (t_told : Nat → Int32) : Option (Int32) :=
  (f_X5_bestAlone_b4 F a1 t_told F) (0 : Int32) (0 : Int32)
def f_X5_dueIfFair_b51 (F : Nat) (t_told : Nat → Int32) (t_ownGets : Nat → Int32) (t_alone : Nat → Int32) (K4 : Int32 → Int32 → Option (Int32)) (v2 : Int32) (s0 : Int32) (s1 : Int32) : Option (Int32) :=
  K4 (s0 + s1) (v2 + (1 : Int32))
def f_X5_dueIfFair_b4 (F : Nat) (t_told : Nat → Int32) (t_ownGets : Nat → Int32) (t_alone : Nat → Int32) : Nat → Int32 → Int32 → Option (Int32)
  | 0, _, _ => none
  | n + 1, v1, v2 =>
    (f_X5_many F t_told).bind fun o1 =>
    if o1 ≤ v2 then
      if (1000000 : Int32) ≤ v1 then
        some ((1000000 : Int32))
      else
        some (v1)
    else
      chk (ix v2 5) <|
      chk (ix v2 5) <|
      if (t_ownGets v2.toNatClampNeg) = (t_alone v2.toNatClampNeg) then
        chk (ix ((26 : Int32) + v2) 251) <|
        chk (ix v2 5) <|
        (f_X5_dueAs F (t_told ((26 : Int32) + v2).toNatClampNeg) (t_ownGets v2.toNatClampNeg)).bind fun o7 =>
        (f_X5_dueIfFair_b51 F t_told t_ownGets t_alone (f_X5_dueIfFair_b4 F t_told t_ownGets t_alone n)) v2 v1 o7
      else
        (f_X5_dueIfFair_b51 F t_told t_ownGets t_alone (f_X5_dueIfFair_b4 F t_told t_ownGets t_alone n)) v2 v1 (1000000 : Int32)
def f_X5_dueIfFair (F : Nat) (t_told : Nat → Int32) (t_ownGets : Nat → Int32) (t_alone : Nat → Int32) : Option (Int32) :=
  (f_X5_dueIfFair_b4 F t_told t_ownGets t_alone F) (0 : Int32) (0 : Int32)
def f_X5_fair_b130 (F : Nat) (a1 : Int32) (t_told : Nat → Int32) (K57 : Int32 → Int32 → Int32 → (Nat → Int32) → (Nat → Int32) → (Nat → Int32) → (Nat → Int32) → (Nat → Int32) → (Nat → Int32) → (Nat → Int32) → Option (Int32 × Int32 × (Nat → Int32) × (Nat → Int32) × (Nat → Int32) × (Nat → Int32) × (Nat → Int32) × (Nat → Int32) × (Nat → Int32))) (v3 : Int32) (s0 : Int32) (t_leftBehind : Int32) (t_refused : Nat → Int32) (t_alone : Nat → Int32) (t_bestOwn : Nat → Int32) (t_own : Nat → Int32) (t_ahead : Nat → Int32) (t_gets : Nat → Int32) (t_ownGets : Nat → Int32) : Option (Int32 × Int32 × (Nat → Int32) × (Nat → Int32) × (Nat → Int32) × (Nat → Int32) × (Nat → Int32) × (Nat → Int32) × (Nat → Int32)) :=
  K57 s0 (v3 + (1 : Int32)) t_leftBehind t_refused t_alone t_bestOwn t_own t_ahead t_gets t_ownGets
def f_X5_fair_b118 (F : Nat) (a1 : Int32) (t_told : Nat → Int32) (K57 : Int32 → Int32 → Int32 → (Nat → Int32) → (Nat → Int32) → (Nat → Int32) → (Nat → Int32) → (Nat → Int32) → (Nat → Int32) → (Nat → Int32) → Option (Int32 × Int32 × (Nat → Int32) × (Nat → Int32) × (Nat → Int32) × (Nat → Int32) × (Nat → Int32) × (Nat → Int32) × (Nat → Int32))) (v2 : Int32) (v3 : Int32) (v4 : Int32) (t_leftBehind : Int32) (t_refused : Nat → Int32) (t_alone : Nat → Int32) (t_bestOwn : Nat → Int32) (t_own : Nat → Int32) (t_ahead : Nat → Int32) (t_gets : Nat → Int32) (t_ownGets : Nat → Int32) : Option (Int32 × Int32 × (Nat → Int32) × (Nat → Int32) × (Nat → Int32) × (Nat → Int32) × (Nat → Int32) × (Nat → Int32) × (Nat → Int32)) :=
  if v2 ≤ v4 then
    (f_X5_fair_b130 F a1 t_told K57) v3 v2 t_leftBehind t_refused t_alone t_bestOwn t_own t_ahead t_gets t_ownGets
  else
    (f_X5_fair_b130 F a1 t_told K57) v3 v4 t_leftBehind t_refused t_alone t_bestOwn t_own t_ahead t_gets t_ownGets
def f_X5_fair_b83 (F : Nat) (a1 : Int32) (t_told : Nat → Int32) (K57 : Int32 → Int32 → Int32 → (Nat → Int32) → (Nat → Int32) → (Nat → Int32) → (Nat → Int32) → (Nat → Int32) → (Nat → Int32) → (Nat → Int32) → Option (Int32 × Int32 × (Nat → Int32) × (Nat → Int32) × (Nat → Int32) × (Nat → Int32) × (Nat → Int32) × (Nat → Int32) × (Nat → Int32))) : Nat → Int32 → Int32 → Int32 → Int32 → Int32 → (Nat → Int32) → (Nat → Int32) → (Nat → Int32) → (Nat → Int32) → (Nat → Int32) → (Nat → Int32) → (Nat → Int32) → Option (Int32 × Int32 × (Nat → Int32) × (Nat → Int32) × (Nat → Int32) × (Nat → Int32) × (Nat → Int32) × (Nat → Int32) × (Nat → Int32))
  | 0, _, _, _, _, _, _, _, _, _, _, _, _ => none
  | n + 1, v2, v3, v4, v5, t_leftBehind, t_refused, t_alone, t_bestOwn, t_own, t_ahead, t_gets, t_ownGets =>
    (f_X5_many F t_told).bind fun o19 =>
    if o19 ≤ v5 then
      (f_X5_fair_b118 F a1 t_told K57) v2 v3 v4 t_leftBehind t_refused t_alone t_bestOwn t_own t_ahead t_gets t_ownGets
    else
      if v2 ≤ v4 then
        (f_X5_fair_b118 F a1 t_told K57) v2 v3 v4 t_leftBehind t_refused t_alone t_bestOwn t_own t_ahead t_gets t_ownGets
      else
        chk (ix v5 5) <|
        chk (ix v5 5) <|
        (f_X5_fair_b83 F a1 t_told K57 n) v2 v3 v4 (v5 + (1 : Int32)) t_leftBehind t_refused t_alone (upd t_bestOwn v5.toNatClampNeg (t_own v5.toNatClampNeg)) t_own t_ahead t_gets t_ownGets
def f_X5_fair_b57 (F : Nat) (a1 : Int32) (t_told : Nat → Int32) : Nat → Int32 → Int32 → Int32 → (Nat → Int32) → (Nat → Int32) → (Nat → Int32) → (Nat → Int32) → (Nat → Int32) → (Nat → Int32) → (Nat → Int32) → Option (Int32 × Int32 × (Nat → Int32) × (Nat → Int32) × (Nat → Int32) × (Nat → Int32) × (Nat → Int32) × (Nat → Int32) × (Nat → Int32))
  | 0, _, _, _, _, _, _, _, _, _, _ => none
  | n + 1, v2, v3, t_leftBehind, t_refused, t_alone, t_bestOwn, t_own, t_ahead, t_gets, t_ownGets =>
    (f_X5_many F t_told).bind fun o12 =>
    if ((1 : Int32) <<< (((3 : Int32) * o12) &&& 31)) ≤ v3 then
      if v2 = (1000000 : Int32) then
        some ((-1 : Int32), t_leftBehind, t_refused, t_alone, t_bestOwn, t_own, t_ahead, t_gets, t_ownGets)
      else
        if a1 = (-1 : Int32) then
          some (v2, t_leftBehind, t_refused, t_alone, t_bestOwn, t_own, t_ahead, t_gets, t_ownGets)
        else
          chk (ix a1 5) <|
          some (t_bestOwn a1.toNatClampNeg, t_leftBehind, t_refused, t_alone, t_bestOwn, t_own, t_ahead, t_gets, t_ownGets)
    else
      (f_X5_layOwn F v3 t_told t_leftBehind t_own t_ahead t_gets t_ownGets).bind fun o15 =>
      (f_X5_dueIfFair F t_told o15.2.2.2.2 t_alone).bind fun o17 =>
      (f_X5_fair_b83 F a1 t_told (f_X5_fair_b57 F a1 t_told n) F) v2 v3 o17 (0 : Int32) o15.1 t_refused t_alone t_bestOwn o15.2.1 o15.2.2.1 o15.2.2.2.1 o15.2.2.2.2
def f_X5_fair_b30 (F : Nat) (a1 : Int32) (t_told : Nat → Int32) : Nat → Int32 → Int32 → Int32 → (Nat → Int32) → (Nat → Int32) → (Nat → Int32) → (Nat → Int32) → (Nat → Int32) → (Nat → Int32) → (Nat → Int32) → Option (Int32 × Int32 × (Nat → Int32) × (Nat → Int32) × (Nat → Int32) × (Nat → Int32) × (Nat → Int32) × (Nat → Int32) × (Nat → Int32))
  | 0, _, _, _, _, _, _, _, _, _, _ => none
  | n + 1, v2, v3, t_leftBehind, t_refused, t_alone, t_bestOwn, t_own, t_ahead, t_gets, t_ownGets =>
    (f_X5_many F t_told).bind fun o7 =>
    if o7 ≤ v3 then
      (f_X5_fair_b57 F a1 t_told F) v2 (0 : Int32) t_leftBehind t_refused t_alone t_bestOwn t_own t_ahead t_gets t_ownGets
    else
      (f_X5_bestAlone F v3 t_told).bind fun o9 =>
      chk (ix v3 5) <|
      (f_X5_fair_b30 F a1 t_told n) v2 (v3 + (1 : Int32)) t_leftBehind t_refused (upd t_alone v3.toNatClampNeg o9) t_bestOwn t_own t_ahead t_gets t_ownGets
def f_X5_fair (F : Nat) (a1 : Int32) (t_told : Nat → Int32) (t_leftBehind : Int32) (t_refused : Nat → Int32) (t_alone : Nat → Int32) (t_bestOwn : Nat → Int32) (t_own : Nat → Int32) (t_ahead : Nat → Int32) (t_gets : Nat → Int32) (t_ownGets : Nat → Int32) : Option (Int32 × Int32 × (Nat → Int32) × (Nat → Int32) × (Nat → Int32) × (Nat → Int32) × (Nat → Int32) × (Nat → Int32) × (Nat → Int32)) :=
  (f_X5_many F t_told).bind fun o1 =>
  (f_X5_in F a1.toInt64 (-1 : Int64) ((o1 - (1 : Int32)).toInt64)).bind fun o3 =>
  if o3 = 0 then
    (f_X5_bad F (-10 : Int32) t_refused).bind fun o5 =>
    some (o5.1, t_leftBehind, o5.2, t_alone, t_bestOwn, t_own, t_ahead, t_gets, t_ownGets)
  else
    (f_X5_fair_b30 F a1 t_told F) (1000000 : Int32) (0 : Int32) t_leftBehind t_refused t_alone t_bestOwn t_own t_ahead t_gets t_ownGets
def f_X5_least_b30 (F : Nat) (t_told : Nat → Int32) (K2 : Int32 → Int32 → (Nat → Int32) → (Nat → Int32) → (Nat → Int32) → Option (Int32 × Int32 × (Nat → Int32) × (Nat → Int32) × (Nat → Int32))) : Nat → Int32 → Int32 → Int32 → (Nat → Int32) → (Nat → Int32) → (Nat → Int32) → Option (Int32 × Int32 × (Nat → Int32) × (Nat → Int32) × (Nat → Int32))
  | 0, _, _, _, _, _, _ => none
  | n + 1, v1, v2, t_leftBehind, t_ahead, t_gets, t_atMuch =>
    (f_X5_many F t_told).bind fun o5 =>
    if o5 ≤ v2 then
      K2 (v1 + (1 : Int32)) t_leftBehind t_ahead t_gets t_atMuch
    else
      chk (ix v2 5) <|
      chk (ix (((5 : Int32) * v1) + v2) 40) <|
      (f_X5_least_b30 F t_told K2 n) v1 (v2 + (1 : Int32)) t_leftBehind t_ahead t_gets (upd t_atMuch (((5 : Int32) * v1) + v2).toNatClampNeg (t_gets v2.toNatClampNeg))
def f_X5_least_b143 (F : Nat) (t_told : Nat → Int32) (K144 : Int32 → Int32 → Int32 → Int32 → Int32 → (Nat → Int32) → (Nat → Int32) → (Nat → Int32) → Option (Int32 × Int32 × (Nat → Int32) × (Nat → Int32) × (Nat → Int32))) (v1 : Int32) (v3 : Int32) (v4 : Int32) (t_leftBehind : Int32) (t_ahead : Nat → Int32) (t_gets : Nat → Int32) (t_atMuch : Nat → Int32) : Option (Int32 × Int32 × (Nat → Int32) × (Nat → Int32) × (Nat → Int32)) :=
  K144 v1 v3 v4 (0 : Int32) t_leftBehind t_ahead t_gets t_atMuch
def f_X5_least_b144 (F : Nat) (t_told : Nat → Int32) (K105 : Int32 → Int32 → Int32 → Int32 → Int32 → (Nat → Int32) → (Nat → Int32) → (Nat → Int32) → Option (Int32 × Int32 × (Nat → Int32) × (Nat → Int32) × (Nat → Int32))) (v1 : Int32) (v3 : Int32) (v4 : Int32) (s0 : Int32) (t_leftBehind : Int32) (t_ahead : Nat → Int32) (t_gets : Nat → Int32) (t_atMuch : Nat → Int32) : Option (Int32 × Int32 × (Nat → Int32) × (Nat → Int32) × (Nat → Int32)) :=
  K105 v1 s0 v3 (v4 + (1 : Int32)) t_leftBehind t_ahead t_gets t_atMuch
def f_X5_least_b105 (F : Nat) (t_told : Nat → Int32) (K78 : Int32 → Int32 → Int32 → Int32 → (Nat → Int32) → (Nat → Int32) → (Nat → Int32) → Option (Int32 × Int32 × (Nat → Int32) × (Nat → Int32) × (Nat → Int32))) : Nat → Int32 → Int32 → Int32 → Int32 → Int32 → (Nat → Int32) → (Nat → Int32) → (Nat → Int32) → Option (Int32 × Int32 × (Nat → Int32) × (Nat → Int32) × (Nat → Int32))
  | 0, _, _, _, _, _, _, _, _ => none
  | n + 1, v1, v2, v3, v4, t_leftBehind, t_ahead, t_gets, t_atMuch =>
    (f_X5_many F t_told).bind fun o13 =>
    if o13 ≤ v4 then
      K78 v1 v2 (v3 + (1 : Int32)) t_leftBehind t_ahead t_gets t_atMuch
    else
      if v2 = 0 then
        (f_X5_least_b143 F t_told (f_X5_least_b144 F t_told (f_X5_least_b105 F t_told K78 n))) v1 v3 v4 t_leftBehind t_ahead t_gets t_atMuch
      else
        chk (ix v4 5) <|
        chk (ix (((5 : Int32) * v3) + v4) 40) <|
        if (t_gets v4.toNatClampNeg) = (t_atMuch (((5 : Int32) * v3) + v4).toNatClampNeg) then
          (f_X5_least_b144 F t_told (f_X5_least_b105 F t_told K78 n)) v1 v3 v4 (1 : Int32) t_leftBehind t_ahead t_gets t_atMuch
        else
          (f_X5_least_b143 F t_told (f_X5_least_b144 F t_told (f_X5_least_b105 F t_told K78 n))) v1 v3 v4 t_leftBehind t_ahead t_gets t_atMuch
def f_X5_least_b78 (F : Nat) (t_told : Nat → Int32) (K68 : Int32 → Int32 → (Nat → Int32) → (Nat → Int32) → (Nat → Int32) → Option (Int32 × Int32 × (Nat → Int32) × (Nat → Int32) × (Nat → Int32))) : Nat → Int32 → Int32 → Int32 → Int32 → (Nat → Int32) → (Nat → Int32) → (Nat → Int32) → Option (Int32 × Int32 × (Nat → Int32) × (Nat → Int32) × (Nat → Int32))
  | 0, _, _, _, _, _, _, _ => none
  | n + 1, v1, v2, v3, t_leftBehind, t_ahead, t_gets, t_atMuch =>
    if (8 : Int32) ≤ v3 then
      if v2 = 0 then
        K68 (v1 + (1 : Int32)) t_leftBehind t_ahead t_gets t_atMuch
      else
        some (v1, t_leftBehind, t_ahead, t_gets, t_atMuch)
    else
      (f_X5_openIn F 251 v3 t_told).bind fun o9 =>
      (f_X5_goHour F 251 v3 v1 o9 t_told t_leftBehind t_ahead t_gets).bind fun o11 =>
      (f_X5_least_b105 F t_told (f_X5_least_b78 F t_told K68 n) F) v1 v2 v3 (0 : Int32) o11.1 o11.2.1 o11.2.2 t_atMuch
def f_X5_least_b68 (F : Nat) (t_told : Nat → Int32) : Nat → Int32 → Int32 → (Nat → Int32) → (Nat → Int32) → (Nat → Int32) → Option (Int32 × Int32 × (Nat → Int32) × (Nat → Int32) × (Nat → Int32))
  | 0, _, _, _, _, _ => none
  | n + 1, v1, t_leftBehind, t_ahead, t_gets, t_atMuch =>
    if (100 : Int32) ≤ v1 then
      some ((-1 : Int32), t_leftBehind, t_ahead, t_gets, t_atMuch)
    else
      (f_X5_least_b78 F t_told (f_X5_least_b68 F t_told n) F) v1 (1 : Int32) (0 : Int32) t_leftBehind t_ahead t_gets t_atMuch
def f_X5_least_b2 (F : Nat) (t_told : Nat → Int32) : Nat → Int32 → Int32 → (Nat → Int32) → (Nat → Int32) → (Nat → Int32) → Option (Int32 × Int32 × (Nat → Int32) × (Nat → Int32) × (Nat → Int32))
  | 0, _, _, _, _, _ => none
  | n + 1, v1, t_leftBehind, t_ahead, t_gets, t_atMuch =>
    if (8 : Int32) ≤ v1 then
      (f_X5_least_b68 F t_told F) (0 : Int32) t_leftBehind t_ahead t_gets t_atMuch
    else
      (f_X5_openIn F 251 v1 t_told).bind fun o1 =>
      (f_X5_goHour F 251 v1 (300 : Int32) o1 t_told t_leftBehind t_ahead t_gets).bind fun o3 =>
      (f_X5_least_b30 F t_told (f_X5_least_b2 F t_told n) F) v1 (0 : Int32) o3.1 o3.2.1 o3.2.2 t_atMuch
def f_X5_least (F : Nat) (t_told : Nat → Int32) (t_leftBehind : Int32) (t_ahead : Nat → Int32) (t_gets : Nat → Int32) (t_atMuch : Nat → Int32) : Option (Int32 × Int32 × (Nat → Int32) × (Nat → Int32) × (Nat → Int32)) :=
  (f_X5_least_b2 F t_told F) (0 : Int32) t_leftBehind t_ahead t_gets t_atMuch
def f_X5_shut_b114 (F : Nat) (a1 : Int32) (t_told : Nat → Int32) (K115 : Int32 → Int32 → Int32 → Int32 → (Nat → Int32) → (Nat → Int32) → (Nat → Int32) → (Nat → Int32) → (Nat → Int32) → Option (Int32 × Int32 × (Nat → Int32) × (Nat → Int32) × (Nat → Int32) × (Nat → Int32) × (Nat → Int32))) (v2 : Int32) (v4 : Int32) (s0 : Int32) (t_leftBehind : Int32) (t_dayGets : Nat → Int32) (t_dayDue : Nat → Int32) (t_ahead : Nat → Int32) (t_gets : Nat → Int32) (t_refused : Nat → Int32) : Option (Int32 × Int32 × (Nat → Int32) × (Nat → Int32) × (Nat → Int32) × (Nat → Int32) × (Nat → Int32)) :=
  K115 v2 s0 v4 t_leftBehind t_dayGets t_dayDue t_ahead t_gets t_refused
def f_X5_shut_b93 (F : Nat) (a1 : Int32) (t_told : Nat → Int32) (K115 : Int32 → Int32 → Int32 → Int32 → (Nat → Int32) → (Nat → Int32) → (Nat → Int32) → (Nat → Int32) → (Nat → Int32) → Option (Int32 × Int32 × (Nat → Int32) × (Nat → Int32) × (Nat → Int32) × (Nat → Int32) × (Nat → Int32))) (v3 : Int32) (v4 : Int32) (s0 : Int32) (t_leftBehind : Int32) (t_dayGets : Nat → Int32) (t_dayDue : Nat → Int32) (t_ahead : Nat → Int32) (t_gets : Nat → Int32) (t_refused : Nat → Int32) : Option (Int32 × Int32 × (Nat → Int32) × (Nat → Int32) × (Nat → Int32) × (Nat → Int32) × (Nat → Int32)) :=
  chk (ix a1 5) <|
  if (t_dayGets a1.toNatClampNeg) ≤ v3 then
    (f_X5_shut_b114 F a1 t_told K115) s0 v4 v3 t_leftBehind t_dayGets t_dayDue t_ahead t_gets t_refused
  else
    chk (ix a1 5) <|
    (f_X5_shut_b114 F a1 t_told K115) s0 v4 (t_dayGets a1.toNatClampNeg) t_leftBehind t_dayGets t_dayDue t_ahead t_gets t_refused
def f_X5_shut_b115 (F : Nat) (a1 : Int32) (t_told : Nat → Int32) (K43 : Int32 → Int32 → Int32 → Int32 → (Nat → Int32) → (Nat → Int32) → (Nat → Int32) → (Nat → Int32) → (Nat → Int32) → Option (Int32 × Int32 × (Nat → Int32) × (Nat → Int32) × (Nat → Int32) × (Nat → Int32) × (Nat → Int32))) (v2 : Int32) (v3 : Int32) (v4 : Int32) (t_leftBehind : Int32) (t_dayGets : Nat → Int32) (t_dayDue : Nat → Int32) (t_ahead : Nat → Int32) (t_gets : Nat → Int32) (t_refused : Nat → Int32) : Option (Int32 × Int32 × (Nat → Int32) × (Nat → Int32) × (Nat → Int32) × (Nat → Int32) × (Nat → Int32)) :=
  K43 v2 v3 (v4 + (1 : Int32)) t_leftBehind t_dayGets t_dayDue t_ahead t_gets t_refused
def f_X5_shut_b43 (F : Nat) (a1 : Int32) (t_told : Nat → Int32) : Nat → Int32 → Int32 → Int32 → Int32 → (Nat → Int32) → (Nat → Int32) → (Nat → Int32) → (Nat → Int32) → (Nat → Int32) → Option (Int32 × Int32 × (Nat → Int32) × (Nat → Int32) × (Nat → Int32) × (Nat → Int32) × (Nat → Int32))
  | 0, _, _, _, _, _, _, _, _, _ => none
  | n + 1, v2, v3, v4, t_leftBehind, t_dayGets, t_dayDue, t_ahead, t_gets, t_refused =>
    (f_X5_many F t_told).bind fun o9 =>
    if o9 ≤ v4 then
      some (v2, t_leftBehind, t_dayGets, t_dayDue, t_ahead, t_gets, t_refused)
    else
      if v4 = a1 then
        (f_X5_shut_b115 F a1 t_told (f_X5_shut_b43 F a1 t_told n)) v2 v3 v4 t_leftBehind t_dayGets t_dayDue t_ahead t_gets t_refused
      else
        chk (ix (24 : Int32) 251) <|
        (f_X5_layDay F 251 (t_told (24 : Int32).toNatClampNeg) ((1 : Int32) <<< (v4 &&& 31)) t_told t_leftBehind t_dayGets t_dayDue t_ahead t_gets).bind fun o12 =>
        chk (ix a1 5) <|
        if (o12.2.1 a1.toNatClampNeg) ≤ v3 then
          (f_X5_shut_b93 F a1 t_told (f_X5_shut_b115 F a1 t_told (f_X5_shut_b43 F a1 t_told n))) v3 v4 v2 o12.1 o12.2.1 o12.2.2.1 o12.2.2.2.1 o12.2.2.2.2 t_refused
        else
          (f_X5_shut_b93 F a1 t_told (f_X5_shut_b115 F a1 t_told (f_X5_shut_b43 F a1 t_told n))) v3 v4 v4 o12.1 o12.2.1 o12.2.2.1 o12.2.2.2.1 o12.2.2.2.2 t_refused
def f_X5_shut (F : Nat) (a1 : Int32) (t_told : Nat → Int32) (t_leftBehind : Int32) (t_dayGets : Nat → Int32) (t_dayDue : Nat → Int32) (t_ahead : Nat → Int32) (t_gets : Nat → Int32) (t_refused : Nat → Int32) : Option (Int32 × Int32 × (Nat → Int32) × (Nat → Int32) × (Nat → Int32) × (Nat → Int32) × (Nat → Int32)) :=
  (f_X5_isWell F a1 t_told).bind fun o1 =>
  if o1 = 0 then
    (f_X5_bad F (-2 : Int32) t_refused).bind fun o7 =>
    some (o7.1, t_leftBehind, t_dayGets, t_dayDue, t_ahead, t_gets, o7.2)
  else
    chk (ix (24 : Int32) 251) <|
    (f_X5_layDay F 251 (t_told (24 : Int32).toNatClampNeg) (0 : Int32) t_told t_leftBehind t_dayGets t_dayDue t_ahead t_gets).bind fun o4 =>
    chk (ix a1 5) <|
    (f_X5_shut_b43 F a1 t_told F) (-1 : Int32) (o4.2.1 a1.toNatClampNeg) (0 : Int32) o4.1 o4.2.1 o4.2.2.1 o4.2.2.2.1 o4.2.2.2.2 t_refused
def f_X5_left_b14 (F : Nat) (a1 : Int32) (a2 : Int32) (t_told : Nat → Int32) (t_refused : Nat → Int32) : Option (Int32 × (Nat → Int32) × (Nat → Int32)) :=
  (f_X5_bad F (-2 : Int32) t_refused).bind fun o15 =>
  some (o15.1, t_told, o15.2)
def f_X5_left (F : Nat) (a1 : Int32) (a2 : Int32) (t_told : Nat → Int32) (t_refused : Nat → Int32) : Option (Int32 × (Nat → Int32) × (Nat → Int32)) :=
  (f_X5_isHour F a1).bind fun o1 =>
  if o1 = 0 then
    (f_X5_left_b14 F a1 a2) t_told t_refused
  else
    (f_X5_isPressure F a2).bind fun o3 =>
    if o3 = 0 then
      (f_X5_left_b14 F a1 a2) t_told t_refused
    else
      chk (ix (1 : Int32) 251) <|
      if (t_told (1 : Int32).toNatClampNeg) = (4 : Int32) then
        (f_X5_full F t_refused).bind fun o13 =>
        some (o13.1, t_told, o13.2)
      else
        chk (ix (1 : Int32) 251) <|
        chk (ix ((31 : Int32) + ((2 : Int32) * (t_told (1 : Int32).toNatClampNeg))) 251) <|
        chk (ix (1 : Int32) 251) <|
        chk (ix (((31 : Int32) + ((2 : Int32) * ((upd t_told ((31 : Int32) + ((2 : Int32) * (t_told (1 : Int32).toNatClampNeg))).toNatClampNeg a1) (1 : Int32).toNatClampNeg))) + (1 : Int32)) 251) <|
        chk (ix (1 : Int32) 251) <|
        chk (ix (1 : Int32) 251) <|
        chk (ix (1 : Int32) 251) <|
        some ((upd (upd (upd t_told ((31 : Int32) + ((2 : Int32) * (t_told (1 : Int32).toNatClampNeg))).toNatClampNeg a1) (((31 : Int32) + ((2 : Int32) * ((upd t_told ((31 : Int32) + ((2 : Int32) * (t_told (1 : Int32).toNatClampNeg))).toNatClampNeg a1) (1 : Int32).toNatClampNeg))) + (1 : Int32)).toNatClampNeg a2) (1 : Int32).toNatClampNeg (((upd (upd t_told ((31 : Int32) + ((2 : Int32) * (t_told (1 : Int32).toNatClampNeg))).toNatClampNeg a1) (((31 : Int32) + ((2 : Int32) * ((upd t_told ((31 : Int32) + ((2 : Int32) * (t_told (1 : Int32).toNatClampNeg))).toNatClampNeg a1) (1 : Int32).toNatClampNeg))) + (1 : Int32)).toNatClampNeg a2) (1 : Int32).toNatClampNeg) + (1 : Int32))) (1 : Int32).toNatClampNeg, upd (upd (upd t_told ((31 : Int32) + ((2 : Int32) * (t_told (1 : Int32).toNatClampNeg))).toNatClampNeg a1) (((31 : Int32) + ((2 : Int32) * ((upd t_told ((31 : Int32) + ((2 : Int32) * (t_told (1 : Int32).toNatClampNeg))).toNatClampNeg a1) (1 : Int32).toNatClampNeg))) + (1 : Int32)).toNatClampNeg a2) (1 : Int32).toNatClampNeg (((upd (upd t_told ((31 : Int32) + ((2 : Int32) * (t_told (1 : Int32).toNatClampNeg))).toNatClampNeg a1) (((31 : Int32) + ((2 : Int32) * ((upd t_told ((31 : Int32) + ((2 : Int32) * (t_told (1 : Int32).toNatClampNeg))).toNatClampNeg a1) (1 : Int32).toNatClampNeg))) + (1 : Int32)).toNatClampNeg a2) (1 : Int32).toNatClampNeg) + (1 : Int32)), t_refused)
def f_X5_mayHaveDrawn_b69 (F : Nat) (a1 : Int32) (t_told : Nat → Int32) (K70 : Int32 → Int32 → Int32 → (Nat → Int32) → (Nat → Int32) → Option (Int32 × Int32 × (Nat → Int32) × (Nat → Int32))) (v3 : Int32) (t_leftBehind : Int32) (t_ahead : Nat → Int32) (t_gets : Nat → Int32) : Option (Int32 × Int32 × (Nat → Int32) × (Nat → Int32)) :=
  K70 v3 (0 : Int32) t_leftBehind t_ahead t_gets
def f_X5_mayHaveDrawn_b70 (F : Nat) (a1 : Int32) (t_told : Nat → Int32) (K4 : Int32 → Int32 → Int32 → (Nat → Int32) → (Nat → Int32) → Option (Int32 × Int32 × (Nat → Int32) × (Nat → Int32))) (v3 : Int32) (s0 : Int32) (t_leftBehind : Int32) (t_ahead : Nat → Int32) (t_gets : Nat → Int32) : Option (Int32 × Int32 × (Nat → Int32) × (Nat → Int32)) :=
  K4 s0 (v3 + (1 : Int32)) t_leftBehind t_ahead t_gets
def f_X5_mayHaveDrawn_b4 (F : Nat) (a1 : Int32) (t_told : Nat → Int32) : Nat → Int32 → Int32 → Int32 → (Nat → Int32) → (Nat → Int32) → Option (Int32 × Int32 × (Nat → Int32) × (Nat → Int32))
  | 0, _, _, _, _, _ => none
  | n + 1, v2, v3, t_leftBehind, t_ahead, t_gets =>
    chk (ix (1 : Int32) 251) <|
    if (t_told (1 : Int32).toNatClampNeg) ≤ v3 then
      chk (bo v2) <|
      some (v2, t_leftBehind, t_ahead, t_gets)
    else
      chk (ix ((31 : Int32) + ((2 : Int32) * v3)) 251) <|
      chk (ix (24 : Int32) 251) <|
      (f_X5_goHour F 251 (t_told ((31 : Int32) + ((2 : Int32) * v3)).toNatClampNeg) (t_told (24 : Int32).toNatClampNeg) a1 t_told t_leftBehind t_ahead t_gets).bind fun o5 =>
      if v2 = 0 then
        (f_X5_mayHaveDrawn_b69 F a1 t_told (f_X5_mayHaveDrawn_b70 F a1 t_told (f_X5_mayHaveDrawn_b4 F a1 t_told n))) v3 o5.1 o5.2.1 o5.2.2
      else
        chk (ix (((31 : Int32) + ((2 : Int32) * v3)) + (1 : Int32)) 251) <|
        if o5.1 = (t_told (((31 : Int32) + ((2 : Int32) * v3)) + (1 : Int32)).toNatClampNeg) then
          (f_X5_mayHaveDrawn_b70 F a1 t_told (f_X5_mayHaveDrawn_b4 F a1 t_told n)) v3 (1 : Int32) o5.1 o5.2.1 o5.2.2
        else
          (f_X5_mayHaveDrawn_b69 F a1 t_told (f_X5_mayHaveDrawn_b70 F a1 t_told (f_X5_mayHaveDrawn_b4 F a1 t_told n))) v3 o5.1 o5.2.1 o5.2.2
def f_X5_mayHaveDrawn (F : Nat) (a1 : Int32) (t_told : Nat → Int32) (t_leftBehind : Int32) (t_ahead : Nat → Int32) (t_gets : Nat → Int32) : Option (Int32 × Int32 × (Nat → Int32) × (Nat → Int32)) :=
  (f_X5_mayHaveDrawn_b4 F a1 t_told F) (1 : Int32) (0 : Int32) t_leftBehind t_ahead t_gets
def f_X5_drew_b71 (F : Nat) (a1 : Int32) (t_told : Nat → Int32) (K36 : Int32 → Int32 → Int32 → Int32 → Int32 → (Nat → Int32) → (Nat → Int32) → (Nat → Int32) → Option (Int32 × Int32 × (Nat → Int32) × (Nat → Int32) × (Nat → Int32))) (v2 : Int32) (v3 : Int32) (v4 : Int32) (v5 : Int32) (t_leftBehind : Int32) (t_refused : Nat → Int32) (t_ahead : Nat → Int32) (t_gets : Nat → Int32) : Option (Int32 × Int32 × (Nat → Int32) × (Nat → Int32) × (Nat → Int32)) :=
  K36 v2 v3 v4 (v5 + (1 : Int32)) t_leftBehind t_refused t_ahead t_gets
def f_X5_drew_b36 (F : Nat) (a1 : Int32) (t_told : Nat → Int32) : Nat → Int32 → Int32 → Int32 → Int32 → Int32 → (Nat → Int32) → (Nat → Int32) → (Nat → Int32) → Option (Int32 × Int32 × (Nat → Int32) × (Nat → Int32) × (Nat → Int32))
  | 0, _, _, _, _, _, _, _, _ => none
  | n + 1, v2, v3, v4, v5, t_leftBehind, t_refused, t_ahead, t_gets =>
    (f_X5_many F t_told).bind fun o7 =>
    if ((1 : Int32) <<< (o7 &&& 31)) ≤ v5 then
      if a1 = 0 then
        some (v2, t_leftBehind, t_refused, t_ahead, t_gets)
      else
        if a1 = (2 : Int32) then
          some (v4, t_leftBehind, t_refused, t_ahead, t_gets)
        else
          if v2 = 0 then
            some ((-1 : Int32), t_leftBehind, t_refused, t_ahead, t_gets)
          else
            some (v3, t_leftBehind, t_refused, t_ahead, t_gets)
    else
      (f_X5_mayHaveDrawn F v5 t_told t_leftBehind t_ahead t_gets).bind fun o9 =>
      if o9.1 = 0 then
        (f_X5_drew_b71 F a1 t_told (f_X5_drew_b36 F a1 t_told n)) v2 v3 v4 v5 o9.2.1 t_refused o9.2.2.1 o9.2.2.2
      else
        (f_X5_drew_b71 F a1 t_told (f_X5_drew_b36 F a1 t_told n)) (v2 + (1 : Int32)) (v3 &&& v5) (v4 ||| v5) v5 o9.2.1 t_refused o9.2.2.1 o9.2.2.2
def f_X5_drew (F : Nat) (a1 : Int32) (t_told : Nat → Int32) (t_leftBehind : Int32) (t_refused : Nat → Int32) (t_ahead : Nat → Int32) (t_gets : Nat → Int32) : Option (Int32 × Int32 × (Nat → Int32) × (Nat → Int32) × (Nat → Int32)) :=
  (f_X5_in F a1.toInt64 (0 : Int64) (2 : Int64)).bind fun o1 =>
  if o1 = 0 then
    (f_X5_bad F (-2 : Int32) t_refused).bind fun o5 =>
    some (o5.1, t_leftBehind, o5.2, t_ahead, t_gets)
  else
    (f_X5_many F t_told).bind fun o3 =>
    (f_X5_drew_b36 F a1 t_told F) (0 : Int32) (((1 : Int32) <<< (o3 &&& 31)) - (1 : Int32)) (0 : Int32) (0 : Int32) t_leftBehind t_refused t_ahead t_gets
def f_X5_note_b56 (F : Nat) (a1 : Int32) (a2 : Int32) (a3 : Int32) (a4 : Int32) (a5 : Int32) (a6 : Int32) (t_told : Nat → Int32) (t_refused : Nat → Int32) : Option (Int32 × (Nat → Int32) × (Nat → Int32)) :=
  (f_X5_bad F (-2 : Int32) t_refused).bind fun o26 =>
  some (o26.1, t_told, o26.2)
def f_X5_note (F : Nat) (a1 : Int32) (a2 : Int32) (a3 : Int32) (a4 : Int32) (a5 : Int32) (a6 : Int32) (t_told : Nat → Int32) (t_refused : Nat → Int32) : Option (Int32 × (Nat → Int32) × (Nat → Int32)) :=
  (f_X5_isWell F a1 t_told).bind fun o1 =>
  if o1 = 0 then
    (f_X5_note_b56 F a1 a2 a3 a4 a5 a6) t_told t_refused
  else
    (f_X5_isWanted F a2).bind fun o3 =>
    if o3 = 0 then
      (f_X5_note_b56 F a1 a2 a3 a4 a5 a6) t_told t_refused
    else
      (f_X5_isHour F a3).bind fun o5 =>
      if o5 = 0 then
        (f_X5_note_b56 F a1 a2 a3 a4 a5 a6) t_told t_refused
      else
        (f_X5_isPressure F a4).bind fun o7 =>
        if o7 = 0 then
          (f_X5_note_b56 F a1 a2 a3 a4 a5 a6) t_told t_refused
        else
          (f_X5_in F a5.toInt64 (0 : Int64) (40 : Int64)).bind fun o9 =>
          if o9 = 0 then
            (f_X5_note_b56 F a1 a2 a3 a4 a5 a6) t_told t_refused
          else
            (f_X5_in F a6.toInt64 (0 : Int64) (80 : Int64)).bind fun o11 =>
            if o11 = 0 then
              (f_X5_note_b56 F a1 a2 a3 a4 a5 a6) t_told t_refused
            else
              chk (ix (2 : Int32) 251) <|
              if (t_told (2 : Int32).toNatClampNeg) = (6 : Int32) then
                (f_X5_full F t_refused).bind fun o24 =>
                some (o24.1, t_told, o24.2)
              else
                chk (ix (2 : Int32) 251) <|
                chk (ix ((39 : Int32) + ((6 : Int32) * (t_told (2 : Int32).toNatClampNeg))) 251) <|
                chk (ix (((39 : Int32) + ((6 : Int32) * (t_told (2 : Int32).toNatClampNeg))) + (1 : Int32)) 251) <|
                chk (ix (((39 : Int32) + ((6 : Int32) * (t_told (2 : Int32).toNatClampNeg))) + (2 : Int32)) 251) <|
                chk (ix (((39 : Int32) + ((6 : Int32) * (t_told (2 : Int32).toNatClampNeg))) + (3 : Int32)) 251) <|
                chk (ix (((39 : Int32) + ((6 : Int32) * (t_told (2 : Int32).toNatClampNeg))) + (4 : Int32)) 251) <|
                chk (ix (((39 : Int32) + ((6 : Int32) * (t_told (2 : Int32).toNatClampNeg))) + (5 : Int32)) 251) <|
                chk (ix (2 : Int32) 251) <|
                chk (ix (2 : Int32) 251) <|
                chk (ix (2 : Int32) 251) <|
                some ((upd (upd (upd (upd (upd (upd (upd t_told ((39 : Int32) + ((6 : Int32) * (t_told (2 : Int32).toNatClampNeg))).toNatClampNeg a1) (((39 : Int32) + ((6 : Int32) * (t_told (2 : Int32).toNatClampNeg))) + (1 : Int32)).toNatClampNeg a2) (((39 : Int32) + ((6 : Int32) * (t_told (2 : Int32).toNatClampNeg))) + (2 : Int32)).toNatClampNeg a3) (((39 : Int32) + ((6 : Int32) * (t_told (2 : Int32).toNatClampNeg))) + (3 : Int32)).toNatClampNeg a4) (((39 : Int32) + ((6 : Int32) * (t_told (2 : Int32).toNatClampNeg))) + (4 : Int32)).toNatClampNeg a5) (((39 : Int32) + ((6 : Int32) * (t_told (2 : Int32).toNatClampNeg))) + (5 : Int32)).toNatClampNeg a6) (2 : Int32).toNatClampNeg (((upd (upd (upd (upd (upd (upd t_told ((39 : Int32) + ((6 : Int32) * (t_told (2 : Int32).toNatClampNeg))).toNatClampNeg a1) (((39 : Int32) + ((6 : Int32) * (t_told (2 : Int32).toNatClampNeg))) + (1 : Int32)).toNatClampNeg a2) (((39 : Int32) + ((6 : Int32) * (t_told (2 : Int32).toNatClampNeg))) + (2 : Int32)).toNatClampNeg a3) (((39 : Int32) + ((6 : Int32) * (t_told (2 : Int32).toNatClampNeg))) + (3 : Int32)).toNatClampNeg a4) (((39 : Int32) + ((6 : Int32) * (t_told (2 : Int32).toNatClampNeg))) + (4 : Int32)).toNatClampNeg a5) (((39 : Int32) + ((6 : Int32) * (t_told (2 : Int32).toNatClampNeg))) + (5 : Int32)).toNatClampNeg a6) (2 : Int32).toNatClampNeg) + (1 : Int32))) (2 : Int32).toNatClampNeg, upd (upd (upd (upd (upd (upd (upd t_told ((39 : Int32) + ((6 : Int32) * (t_told (2 : Int32).toNatClampNeg))).toNatClampNeg a1) (((39 : Int32) + ((6 : Int32) * (t_told (2 : Int32).toNatClampNeg))) + (1 : Int32)).toNatClampNeg a2) (((39 : Int32) + ((6 : Int32) * (t_told (2 : Int32).toNatClampNeg))) + (2 : Int32)).toNatClampNeg a3) (((39 : Int32) + ((6 : Int32) * (t_told (2 : Int32).toNatClampNeg))) + (3 : Int32)).toNatClampNeg a4) (((39 : Int32) + ((6 : Int32) * (t_told (2 : Int32).toNatClampNeg))) + (4 : Int32)).toNatClampNeg a5) (((39 : Int32) + ((6 : Int32) * (t_told (2 : Int32).toNatClampNeg))) + (5 : Int32)).toNatClampNeg a6) (2 : Int32).toNatClampNeg (((upd (upd (upd (upd (upd (upd t_told ((39 : Int32) + ((6 : Int32) * (t_told (2 : Int32).toNatClampNeg))).toNatClampNeg a1) (((39 : Int32) + ((6 : Int32) * (t_told (2 : Int32).toNatClampNeg))) + (1 : Int32)).toNatClampNeg a2) (((39 : Int32) + ((6 : Int32) * (t_told (2 : Int32).toNatClampNeg))) + (2 : Int32)).toNatClampNeg a3) (((39 : Int32) + ((6 : Int32) * (t_told (2 : Int32).toNatClampNeg))) + (3 : Int32)).toNatClampNeg a4) (((39 : Int32) + ((6 : Int32) * (t_told (2 : Int32).toNatClampNeg))) + (4 : Int32)).toNatClampNeg a5) (((39 : Int32) + ((6 : Int32) * (t_told (2 : Int32).toNatClampNeg))) + (5 : Int32)).toNatClampNeg a6) (2 : Int32).toNatClampNeg) + (1 : Int32)), t_refused)
def f_X5_forget (F : Nat) (a1 : Int32) (t_told : Nat → Int32) (t_refused : Nat → Int32) : Option (Int32 × (Nat → Int32) × (Nat → Int32)) :=
  (f_X5_in F a1.toInt64 (0 : Int64) (1 : Int64)).bind fun o1 =>
  if o1 = 0 then
    (f_X5_bad F (-2 : Int32) t_refused).bind fun o5 =>
    some (o5.1, t_told, o5.2)
  else
    chk (ix ((1 : Int32) + a1) 251) <|
    chk (ix ((1 : Int32) + a1) 251) <|
    some (t_told ((1 : Int32) + a1).toNatClampNeg, upd t_told ((1 : Int32) + a1).toNatClampNeg (0 : Int32), t_refused)
def f_X5_kindsOf_b118 (F : Nat) (a1 : Int32) (t_told : Nat → Int32) (K123 : Int32 → Int32 → Int32 → Int32 → Option (Int32)) (v2 : Int32) (v3 : Int32) (v5 : Int32) : Option (Int32) :=
  K123 v2 v3 v5 (1 : Int32)
def f_X5_kindsOf_b122 (F : Nat) (a1 : Int32) (t_told : Nat → Int32) (K123 : Int32 → Int32 → Int32 → Int32 → Option (Int32)) (v2 : Int32) (v3 : Int32) (v5 : Int32) : Option (Int32) :=
  K123 v2 v3 v5 (0 : Int32)
def f_X5_kindsOf_b123 (F : Nat) (a1 : Int32) (t_told : Nat → Int32) (K16 : Int32 → Int32 → Int32 → Int32 → Option (Int32)) (v2 : Int32) (v3 : Int32) (v5 : Int32) (s0 : Int32) : Option (Int32) :=
  K16 v2 v3 s0 (v5 + (1 : Int32))
def f_X5_kindsOf_b144 (F : Nat) (a1 : Int32) (t_told : Nat → Int32) (K4 : Int32 → Int32 → Option (Int32)) (v3 : Int32) (s0 : Int32) (s1 : Int32) : Option (Int32) :=
  K4 (s0 ||| s1) (v3 + (1 : Int32))
def f_X5_kindsOf_b16 (F : Nat) (a1 : Int32) (t_told : Nat → Int32) (K4 : Int32 → Int32 → Option (Int32)) : Nat → Int32 → Int32 → Int32 → Int32 → Option (Int32)
  | 0, _, _, _, _ => none
  | n + 1, v2, v3, v4, v5 =>
    chk (ix (2 : Int32) 251) <|
    if (t_told (2 : Int32).toNatClampNeg) ≤ v5 then
      if v4 = 0 then
        (f_X5_kindsOf_b144 F a1 t_told K4) v3 v2 (0 : Int32)
      else
        (f_X5_kindsOf_b144 F a1 t_told K4) v3 v2 ((1 : Int32) <<< (v3 &&& 31))
    else
      chk (ix (((39 : Int32) + ((6 : Int32) * v5)) + (2 : Int32)) 251) <|
      chk (ix (((39 : Int32) + ((6 : Int32) * v5)) + (1 : Int32)) 251) <|
      chk (ix (((39 : Int32) + ((6 : Int32) * v5)) + (3 : Int32)) 251) <|
      (f_X5_getsAs F v3 (t_told (((39 : Int32) + ((6 : Int32) * v5)) + (2 : Int32)).toNatClampNeg) (t_told (((39 : Int32) + ((6 : Int32) * v5)) + (1 : Int32)).toNatClampNeg) (t_told (((39 : Int32) + ((6 : Int32) * v5)) + (3 : Int32)).toNatClampNeg)).bind fun o5 =>
      if v4 = 0 then
        (f_X5_kindsOf_b122 F a1 t_told (f_X5_kindsOf_b123 F a1 t_told (f_X5_kindsOf_b16 F a1 t_told K4 n))) v2 v3 v5
      else
        chk (ix ((39 : Int32) + ((6 : Int32) * v5)) 251) <|
        if (t_told ((39 : Int32) + ((6 : Int32) * v5)).toNatClampNeg) = a1 then
          chk (ix (((39 : Int32) + ((6 : Int32) * v5)) + (4 : Int32)) 251) <|
          if o5 = (t_told (((39 : Int32) + ((6 : Int32) * v5)) + (4 : Int32)).toNatClampNeg) then
            (f_X5_dueAs F v3 o5).bind fun o9 =>
            chk (ix (((39 : Int32) + ((6 : Int32) * v5)) + (5 : Int32)) 251) <|
            if o9 = (t_told (((39 : Int32) + ((6 : Int32) * v5)) + (5 : Int32)).toNatClampNeg) then
              (f_X5_kindsOf_b118 F a1 t_told (f_X5_kindsOf_b123 F a1 t_told (f_X5_kindsOf_b16 F a1 t_told K4 n))) v2 v3 v5
            else
              (f_X5_kindsOf_b122 F a1 t_told (f_X5_kindsOf_b123 F a1 t_told (f_X5_kindsOf_b16 F a1 t_told K4 n))) v2 v3 v5
          else
            (f_X5_kindsOf_b122 F a1 t_told (f_X5_kindsOf_b123 F a1 t_told (f_X5_kindsOf_b16 F a1 t_told K4 n))) v2 v3 v5
        else
          (f_X5_kindsOf_b118 F a1 t_told (f_X5_kindsOf_b123 F a1 t_told (f_X5_kindsOf_b16 F a1 t_told K4 n))) v2 v3 v5
def f_X5_kindsOf_b4 (F : Nat) (a1 : Int32) (t_told : Nat → Int32) : Nat → Int32 → Int32 → Option (Int32)
  | 0, _, _ => none
  | n + 1, v2, v3 =>
    if (6 : Int32) ≤ v3 then
      some (v2)
    else
      (f_X5_kindsOf_b16 F a1 t_told (f_X5_kindsOf_b4 F a1 t_told n) F) v2 v3 (1 : Int32) (0 : Int32)
def f_X5_kindsOf (F : Nat) (a1 : Int32) (t_told : Nat → Int32) : Option (Int32) :=
  (f_X5_kindsOf_b4 F a1 t_told F) (0 : Int32) (0 : Int32)
def f_X5_is (F : Nat) (a1 : Int32) (t_told : Nat → Int32) (t_refused : Nat → Int32) : Option (Int32 × (Nat → Int32)) :=
  (f_X5_isWell F a1 t_told).bind fun o1 =>
  if o1 = 0 then
    (f_X5_bad F (-2 : Int32) t_refused).bind fun o3 =>
    some (o3.1, o3.2)
  else
    (f_X5_kindsOf F a1 t_told).bind fun o5 =>
    some (o5, t_refused)
def f_X5_areAlike (F : Nat) (a0 : Int32) (a1 : Int32) (a2 : Int32) (a3 : Int32) (a4 : Int32) : Option (Int32) :=
  (f_X5_getsAs F a0 a2 a3 a4).bind fun o1 =>
  (f_X5_getsAs F a1 a2 a3 a4).bind fun o3 =>
  if o1 = o3 then
    (f_X5_dueAs F a0 o1).bind fun o5 =>
    (f_X5_dueAs F a1 o3).bind fun o7 =>
    if o5 = o7 then
      some ((1 : Int32))
    else
      some ((0 : Int32))
  else
    some ((0 : Int32))
def f_X5_look_b143 (F : Nat) (a1 : Int32) (t_told : Nat → Int32) (K144 : Int32 → Int32 → Int32 → Int32 → Int32 → Int32 → Int32 → Int32 → Int32 → (Nat → Int32) → Option (Int32 × (Nat → Int32))) (v2 : Int32) (v3 : Int32) (v4 : Int32) (v5 : Int32) (v6 : Int32) (v7 : Int32) (v9 : Int32) (s0 : Int32) (t_refused : Nat → Int32) : Option (Int32 × (Nat → Int32)) :=
  K144 v2 v3 v4 v5 v6 v7 v9 s0 (0 : Int32) t_refused
def f_X5_look_b144 (F : Nat) (a1 : Int32) (t_told : Nat → Int32) (K83 : Int32 → Int32 → Int32 → Int32 → Int32 → Int32 → Int32 → Int32 → (Nat → Int32) → Option (Int32 × (Nat → Int32))) (v2 : Int32) (v3 : Int32) (v4 : Int32) (v5 : Int32) (v6 : Int32) (v7 : Int32) (v9 : Int32) (s0 : Int32) (s1 : Int32) (t_refused : Nat → Int32) : Option (Int32 × (Nat → Int32)) :=
  K83 v2 v3 v4 v5 v6 v7 (s0 + s1) (v9 + (1 : Int32)) t_refused
def f_X5_look_b167 (F : Nat) (a1 : Int32) (t_told : Nat → Int32) (K63 : Int32 → Int32 → Int32 → Int32 → Int32 → Int32 → (Nat → Int32) → Option (Int32 × (Nat → Int32))) (v2 : Int32) (v3 : Int32) (v4 : Int32) (v5 : Int32) (v7 : Int32) (s0 : Int32) (t_refused : Nat → Int32) : Option (Int32 × (Nat → Int32)) :=
  K63 v2 v3 v4 v5 s0 (v7 + (1 : Int32)) t_refused
def f_X5_look_b153 (F : Nat) (a1 : Int32) (t_told : Nat → Int32) (K63 : Int32 → Int32 → Int32 → Int32 → Int32 → Int32 → (Nat → Int32) → Option (Int32 × (Nat → Int32))) (v2 : Int32) (v3 : Int32) (v4 : Int32) (v5 : Int32) (v6 : Int32) (v7 : Int32) (v8 : Int32) (t_refused : Nat → Int32) : Option (Int32 × (Nat → Int32)) :=
  if v8 ≤ v6 then
    (f_X5_look_b167 F a1 t_told K63) v2 v3 v4 v5 v7 v6 t_refused
  else
    (f_X5_look_b167 F a1 t_told K63) v2 v3 v4 v5 v7 v8 t_refused
def f_X5_look_b83 (F : Nat) (a1 : Int32) (t_told : Nat → Int32) (K63 : Int32 → Int32 → Int32 → Int32 → Int32 → Int32 → (Nat → Int32) → Option (Int32 × (Nat → Int32))) : Nat → Int32 → Int32 → Int32 → Int32 → Int32 → Int32 → Int32 → Int32 → (Nat → Int32) → Option (Int32 × (Nat → Int32))
  | 0, _, _, _, _, _, _, _, _, _ => none
  | n + 1, v2, v3, v4, v5, v6, v7, v8, v9, t_refused =>
    if (6 : Int32) ≤ v9 then
      (f_X5_look_b153 F a1 t_told K63) v2 v3 v4 v5 v6 v7 v8 t_refused
    else
      (f_X5_has F v2 v7).bind fun o7 =>
      if o7 = 0 then
        (f_X5_look_b153 F a1 t_told K63) v2 v3 v4 v5 v6 v7 v8 t_refused
      else
        (f_X5_has F v2 v9).bind fun o9 =>
        if o9 = 0 then
          (f_X5_look_b143 F a1 t_told (f_X5_look_b144 F a1 t_told (f_X5_look_b83 F a1 t_told K63 n))) v2 v3 v4 v5 v6 v7 v9 v8 t_refused
        else
          chk (ix ((19 : Int32) + a1) 251) <|
          (f_X5_areAlike F v7 v9 (v5 / (100 : Int32)) (t_told ((19 : Int32) + a1).toNatClampNeg) (v5 - v5 / (100 : Int32) * (100 : Int32))).bind fun o12 =>
          if o12 = 0 then
            (f_X5_look_b143 F a1 t_told (f_X5_look_b144 F a1 t_told (f_X5_look_b83 F a1 t_told K63 n))) v2 v3 v4 v5 v6 v7 v9 v8 t_refused
          else
            (f_X5_look_b144 F a1 t_told (f_X5_look_b83 F a1 t_told K63 n)) v2 v3 v4 v5 v6 v7 v9 v8 (1 : Int32) t_refused
def f_X5_look_b203 (F : Nat) (a1 : Int32) (t_told : Nat → Int32) (K30 : Int32 → Int32 → Int32 → Int32 → (Nat → Int32) → Option (Int32 × (Nat → Int32))) (v2 : Int32) (v3 : Int32) (v5 : Int32) (s0 : Int32) (t_refused : Nat → Int32) : Option (Int32 × (Nat → Int32)) :=
  K30 v2 v3 s0 (v5 + (1 : Int32)) t_refused
def f_X5_look_b188 (F : Nat) (a1 : Int32) (t_told : Nat → Int32) (K30 : Int32 → Int32 → Int32 → Int32 → (Nat → Int32) → Option (Int32 × (Nat → Int32))) (v2 : Int32) (v4 : Int32) (v5 : Int32) (v6 : Int32) (s0 : Int32) (t_refused : Nat → Int32) : Option (Int32 × (Nat → Int32)) :=
  if v4 ≤ v6 then
    (f_X5_look_b203 F a1 t_told K30) v2 s0 v5 v4 t_refused
  else
    (f_X5_look_b203 F a1 t_told K30) v2 s0 v5 v6 t_refused
def f_X5_look_b175 (F : Nat) (a1 : Int32) (t_told : Nat → Int32) (K30 : Int32 → Int32 → Int32 → Int32 → (Nat → Int32) → Option (Int32 × (Nat → Int32))) (v2 : Int32) (v3 : Int32) (v4 : Int32) (v5 : Int32) (v6 : Int32) (t_refused : Nat → Int32) : Option (Int32 × (Nat → Int32)) :=
  if v4 ≤ v6 then
    (f_X5_look_b188 F a1 t_told K30) v2 v4 v5 v6 v3 t_refused
  else
    (f_X5_look_b188 F a1 t_told K30) v2 v4 v5 v6 v5 t_refused
def f_X5_look_b63 (F : Nat) (a1 : Int32) (t_told : Nat → Int32) (K30 : Int32 → Int32 → Int32 → Int32 → (Nat → Int32) → Option (Int32 × (Nat → Int32))) : Nat → Int32 → Int32 → Int32 → Int32 → Int32 → Int32 → (Nat → Int32) → Option (Int32 × (Nat → Int32))
  | 0, _, _, _, _, _, _, _ => none
  | n + 1, v2, v3, v4, v5, v6, v7, t_refused =>
    if (6 : Int32) ≤ v7 then
      (f_X5_look_b175 F a1 t_told K30) v2 v3 v4 v5 v6 t_refused
    else
      if (1000000 : Int32) ≤ v6 then
        (f_X5_look_b175 F a1 t_told K30) v2 v3 v4 v5 v6 t_refused
      else
        (f_X5_look_b83 F a1 t_told (f_X5_look_b63 F a1 t_told K30 n) F) v2 v3 v4 v5 v6 v7 (0 : Int32) (0 : Int32) t_refused
def f_X5_look_b58 (F : Nat) (a1 : Int32) (t_told : Nat → Int32) (K30 : Int32 → Int32 → Int32 → Int32 → (Nat → Int32) → Option (Int32 × (Nat → Int32))) (v2 : Int32) (v3 : Int32) (v4 : Int32) (v5 : Int32) (s0 : Int32) (t_refused : Nat → Int32) : Option (Int32 × (Nat → Int32)) :=
  (f_X5_look_b63 F a1 t_told K30 F) v2 v3 v4 v5 s0 (0 : Int32) t_refused
def f_X5_look_b30 (F : Nat) (a1 : Int32) (t_told : Nat → Int32) : Nat → Int32 → Int32 → Int32 → Int32 → (Nat → Int32) → Option (Int32 × (Nat → Int32))
  | 0, _, _, _, _, _ => none
  | n + 1, v2, v3, v4, v5, t_refused =>
    if (131 : Int32) ≤ v5 then
      some (v3, t_refused)
    else
      if v2 ≤ 0 then
        some (v3, t_refused)
      else
        if (31 : Int32) ≤ (v5 - v5 / (100 : Int32) * (100 : Int32)) then
          (f_X5_look_b58 F a1 t_told (f_X5_look_b30 F a1 t_told n)) v2 v3 v4 v5 (1000000 : Int32) t_refused
        else
          (f_X5_look_b58 F a1 t_told (f_X5_look_b30 F a1 t_told n)) v2 v3 v4 v5 (0 : Int32) t_refused
def f_X5_look (F : Nat) (a1 : Int32) (t_told : Nat → Int32) (t_refused : Nat → Int32) : Option (Int32 × (Nat → Int32)) :=
  (f_X5_isWell F a1 t_told).bind fun o1 =>
  if o1 = 0 then
    (f_X5_bad F (-2 : Int32) t_refused).bind fun o5 =>
    some (o5.1, o5.2)
  else
    (f_X5_kindsOf F a1 t_told).bind fun o3 =>
    (f_X5_look_b30 F a1 t_told F) o3 (-1 : Int32) (1000000 : Int32) (0 : Int32) t_refused
def f_X5_wouldBoth_b34 (F : Nat) (a1 : Int32) (a2 : Int32) (t_told : Nat → Int32) : Nat → Int32 → Int32 → Int32 → Int32 → (Nat → Int32) → (Nat → Int32) → (Nat → Int32) → (Nat → Int32) → (Nat → Int32) → Option (Int32 × Int32 × (Nat → Int32) × (Nat → Int32) × (Nat → Int32) × (Nat → Int32) × (Nat → Int32))
  | 0, _, _, _, _, _, _, _, _, _ => none
  | n + 1, v3, v4, v5, t_leftBehind, t_dayGets, t_dayDue, t_ahead, t_gets, t_hand =>
    if (31 : Int32) ≤ v5 then
      chk (ix ((14 : Int32) + a2) 251) <|
      chk (ix ((14 : Int32) + a1) 31) <|
      chk (ix ((14 : Int32) + a1) 251) <|
      chk (ix ((14 : Int32) + a2) 31) <|
      chk (ix (24 : Int32) 31) <|
      (f_X5_layDay F 31 ((upd (upd t_hand ((14 : Int32) + a1).toNatClampNeg (t_told ((14 : Int32) + a2).toNatClampNeg)) ((14 : Int32) + a2).toNatClampNeg (t_told ((14 : Int32) + a1).toNatClampNeg)) (24 : Int32).toNatClampNeg) (0 : Int32) (upd (upd t_hand ((14 : Int32) + a1).toNatClampNeg (t_told ((14 : Int32) + a2).toNatClampNeg)) ((14 : Int32) + a2).toNatClampNeg (t_told ((14 : Int32) + a1).toNatClampNeg)) t_leftBehind t_dayGets t_dayDue t_ahead t_gets).bind fun o11 =>
      chk (ix a1 5) <|
      if (o11.2.1 a1.toNatClampNeg) ≤ v3 then
        some ((0 : Int32), o11.1, o11.2.1, o11.2.2.1, o11.2.2.2.1, o11.2.2.2.2, upd (upd t_hand ((14 : Int32) + a1).toNatClampNeg (t_told ((14 : Int32) + a2).toNatClampNeg)) ((14 : Int32) + a2).toNatClampNeg (t_told ((14 : Int32) + a1).toNatClampNeg))
      else
        chk (ix a2 5) <|
        if (o11.2.1 a2.toNatClampNeg) ≤ v4 then
          some ((0 : Int32), o11.1, o11.2.1, o11.2.2.1, o11.2.2.2.1, o11.2.2.2.2, upd (upd t_hand ((14 : Int32) + a1).toNatClampNeg (t_told ((14 : Int32) + a2).toNatClampNeg)) ((14 : Int32) + a2).toNatClampNeg (t_told ((14 : Int32) + a1).toNatClampNeg))
        else
          some ((1 : Int32), o11.1, o11.2.1, o11.2.2.1, o11.2.2.2.1, o11.2.2.2.2, upd (upd t_hand ((14 : Int32) + a1).toNatClampNeg (t_told ((14 : Int32) + a2).toNatClampNeg)) ((14 : Int32) + a2).toNatClampNeg (t_told ((14 : Int32) + a1).toNatClampNeg))
    else
      chk (ix v5 251) <|
      chk (ix v5 31) <|
      (f_X5_wouldBoth_b34 F a1 a2 t_told n) v3 v4 (v5 + (1 : Int32)) t_leftBehind t_dayGets t_dayDue t_ahead t_gets (upd t_hand v5.toNatClampNeg (t_told v5.toNatClampNeg))
def f_X5_wouldBoth (F : Nat) (a1 : Int32) (a2 : Int32) (t_told : Nat → Int32) (t_leftBehind : Int32) (t_dayGets : Nat → Int32) (t_dayDue : Nat → Int32) (t_ahead : Nat → Int32) (t_gets : Nat → Int32) (t_hand : Nat → Int32) : Option (Int32 × Int32 × (Nat → Int32) × (Nat → Int32) × (Nat → Int32) × (Nat → Int32) × (Nat → Int32)) :=
  chk (ix (24 : Int32) 251) <|
  (f_X5_layDay F 251 (t_told (24 : Int32).toNatClampNeg) (0 : Int32) t_told t_leftBehind t_dayGets t_dayDue t_ahead t_gets).bind fun o2 =>
  chk (ix a1 5) <|
  chk (ix a2 5) <|
  (f_X5_wouldBoth_b34 F a1 a2 t_told F) (o2.2.1 a1.toNatClampNeg) (o2.2.1 a2.toNatClampNeg) (0 : Int32) o2.1 o2.2.1 o2.2.2.1 o2.2.2.2.1 o2.2.2.2.2 t_hand
def f_X5_swaps_b72 (F : Nat) (a1 : Int32) (t_told : Nat → Int32) (K76 : Int32 → Int32 → Int32 → Int32 → Int32 → (Nat → Int32) → (Nat → Int32) → (Nat → Int32) → (Nat → Int32) → (Nat → Int32) → (Nat → Int32) → Option (Int32 × Int32 × (Nat → Int32) × (Nat → Int32) × (Nat → Int32) × (Nat → Int32) × (Nat → Int32) × (Nat → Int32))) (v2 : Int32) (v4 : Int32) (v5 : Int32) (s0 : Int32) (t_leftBehind : Int32) (t_refused : Nat → Int32) (t_dayGets : Nat → Int32) (t_dayDue : Nat → Int32) (t_ahead : Nat → Int32) (t_gets : Nat → Int32) (t_hand : Nat → Int32) : Option (Int32 × Int32 × (Nat → Int32) × (Nat → Int32) × (Nat → Int32) × (Nat → Int32) × (Nat → Int32) × (Nat → Int32)) :=
  K76 (v2 + (1 : Int32)) s0 v4 v5 t_leftBehind t_refused t_dayGets t_dayDue t_ahead t_gets t_hand
def f_X5_swaps_b76 (F : Nat) (a1 : Int32) (t_told : Nat → Int32) (K35 : Int32 → Int32 → Int32 → Int32 → Int32 → (Nat → Int32) → (Nat → Int32) → (Nat → Int32) → (Nat → Int32) → (Nat → Int32) → (Nat → Int32) → Option (Int32 × Int32 × (Nat → Int32) × (Nat → Int32) × (Nat → Int32) × (Nat → Int32) × (Nat → Int32) × (Nat → Int32))) (v2 : Int32) (v3 : Int32) (v4 : Int32) (v5 : Int32) (t_leftBehind : Int32) (t_refused : Nat → Int32) (t_dayGets : Nat → Int32) (t_dayDue : Nat → Int32) (t_ahead : Nat → Int32) (t_gets : Nat → Int32) (t_hand : Nat → Int32) : Option (Int32 × Int32 × (Nat → Int32) × (Nat → Int32) × (Nat → Int32) × (Nat → Int32) × (Nat → Int32) × (Nat → Int32)) :=
  K35 v2 v3 v4 (v5 + (1 : Int32)) t_leftBehind t_refused t_dayGets t_dayDue t_ahead t_gets t_hand
def f_X5_swaps_b35 (F : Nat) (a1 : Int32) (t_told : Nat → Int32) (K20 : Int32 → Int32 → Int32 → Int32 → (Nat → Int32) → (Nat → Int32) → (Nat → Int32) → (Nat → Int32) → (Nat → Int32) → (Nat → Int32) → Option (Int32 × Int32 × (Nat → Int32) × (Nat → Int32) × (Nat → Int32) × (Nat → Int32) × (Nat → Int32) × (Nat → Int32))) : Nat → Int32 → Int32 → Int32 → Int32 → Int32 → (Nat → Int32) → (Nat → Int32) → (Nat → Int32) → (Nat → Int32) → (Nat → Int32) → (Nat → Int32) → Option (Int32 × Int32 × (Nat → Int32) × (Nat → Int32) × (Nat → Int32) × (Nat → Int32) × (Nat → Int32) × (Nat → Int32))
  | 0, _, _, _, _, _, _, _, _, _, _, _ => none
  | n + 1, v2, v3, v4, v5, t_leftBehind, t_refused, t_dayGets, t_dayDue, t_ahead, t_gets, t_hand =>
    (f_X5_many F t_told).bind fun o5 =>
    if o5 ≤ v5 then
      K20 v2 v3 (v4 + (1 : Int32)) t_leftBehind t_refused t_dayGets t_dayDue t_ahead t_gets t_hand
    else
      (f_X5_wouldBoth F v4 v5 t_told t_leftBehind t_dayGets t_dayDue t_ahead t_gets t_hand).bind fun o7 =>
      if o7.1 = 0 then
        (f_X5_swaps_b76 F a1 t_told (f_X5_swaps_b35 F a1 t_told K20 n)) v2 v3 v4 v5 o7.2.1 t_refused o7.2.2.1 o7.2.2.2.1 o7.2.2.2.2.1 o7.2.2.2.2.2.1 o7.2.2.2.2.2.2
      else
        if v2 = a1 then
          (f_X5_swaps_b72 F a1 t_told (f_X5_swaps_b76 F a1 t_told (f_X5_swaps_b35 F a1 t_told K20 n))) v2 v4 v5 (((10 : Int32) * v4) + v5) o7.2.1 t_refused o7.2.2.1 o7.2.2.2.1 o7.2.2.2.2.1 o7.2.2.2.2.2.1 o7.2.2.2.2.2.2
        else
          (f_X5_swaps_b72 F a1 t_told (f_X5_swaps_b76 F a1 t_told (f_X5_swaps_b35 F a1 t_told K20 n))) v2 v4 v5 v3 o7.2.1 t_refused o7.2.2.1 o7.2.2.2.1 o7.2.2.2.2.1 o7.2.2.2.2.2.1 o7.2.2.2.2.2.2
def f_X5_swaps_b20 (F : Nat) (a1 : Int32) (t_told : Nat → Int32) : Nat → Int32 → Int32 → Int32 → Int32 → (Nat → Int32) → (Nat → Int32) → (Nat → Int32) → (Nat → Int32) → (Nat → Int32) → (Nat → Int32) → Option (Int32 × Int32 × (Nat → Int32) × (Nat → Int32) × (Nat → Int32) × (Nat → Int32) × (Nat → Int32) × (Nat → Int32))
  | 0, _, _, _, _, _, _, _, _, _, _ => none
  | n + 1, v2, v3, v4, t_leftBehind, t_refused, t_dayGets, t_dayDue, t_ahead, t_gets, t_hand =>
    (f_X5_many F t_told).bind fun o3 =>
    if o3 ≤ v4 then
      if a1 = (-1 : Int32) then
        some (v2, t_leftBehind, t_refused, t_dayGets, t_dayDue, t_ahead, t_gets, t_hand)
      else
        some (v3, t_leftBehind, t_refused, t_dayGets, t_dayDue, t_ahead, t_gets, t_hand)
    else
      (f_X5_swaps_b35 F a1 t_told (f_X5_swaps_b20 F a1 t_told n) F) v2 v3 v4 (v4 + (1 : Int32)) t_leftBehind t_refused t_dayGets t_dayDue t_ahead t_gets t_hand
def f_X5_swaps (F : Nat) (a1 : Int32) (t_told : Nat → Int32) (t_leftBehind : Int32) (t_refused : Nat → Int32) (t_dayGets : Nat → Int32) (t_dayDue : Nat → Int32) (t_ahead : Nat → Int32) (t_gets : Nat → Int32) (t_hand : Nat → Int32) : Option (Int32 × Int32 × (Nat → Int32) × (Nat → Int32) × (Nat → Int32) × (Nat → Int32) × (Nat → Int32) × (Nat → Int32)) :=
  if (-1 : Int32) ≤ a1 then
    (f_X5_swaps_b20 F a1 t_told F) (0 : Int32) (-5 : Int32) (0 : Int32) t_leftBehind t_refused t_dayGets t_dayDue t_ahead t_gets t_hand
  else
    (f_X5_bad F (-10 : Int32) t_refused).bind fun o1 =>
    some (o1.1, t_leftBehind, o1.2, t_dayGets, t_dayDue, t_ahead, t_gets, t_hand)
def f_X5_inspector_b15 (F : Nat) (a1 : Int32) (a2 : Int32) (t_told : Nat → Int32) (t_leftBehind : Int32) (t_ahead : Nat → Int32) (t_gets : Nat → Int32) (t_refused : Nat → Int32) (t_his : Nat → Int32) (t_its : Nat → Int32) : Option (Int32 × Int32 × (Nat → Int32) × (Nat → Int32) × (Nat → Int32) × (Nat → Int32) × (Nat → Int32)) :=
  (f_X5_bad F (-2 : Int32) t_refused).bind fun o16 =>
  some (o16.1, t_leftBehind, t_ahead, t_gets, o16.2, t_his, t_its)
def f_X5_inspector_b139 (F : Nat) (a1 : Int32) (a2 : Int32) (t_told : Nat → Int32) (K140 : Int32 → Int32 → Int32 → Int32 → Int32 → Int32 → Int32 → (Nat → Int32) → (Nat → Int32) → (Nat → Int32) → (Nat → Int32) → (Nat → Int32) → Option (Int32 × Int32 × (Nat → Int32) × (Nat → Int32) × (Nat → Int32) × (Nat → Int32) × (Nat → Int32))) (v3 : Int32) (v4 : Int32) (v5 : Int32) (v6 : Int32) (s1 : Int32) (t_leftBehind : Int32) (t_ahead : Nat → Int32) (t_gets : Nat → Int32) (t_refused : Nat → Int32) (t_his : Nat → Int32) (t_its : Nat → Int32) : Option (Int32 × Int32 × (Nat → Int32) × (Nat → Int32) × (Nat → Int32) × (Nat → Int32) × (Nat → Int32)) :=
  K140 v3 v4 v5 v6 s1 (-1 : Int32) t_leftBehind t_ahead t_gets t_refused t_his t_its
def f_X5_inspector_b177 (F : Nat) (a1 : Int32) (a2 : Int32) (t_told : Nat → Int32) (K183 : Int32 → Int32 → Int32 → Int32 → Int32 → (Nat → Int32) → (Nat → Int32) → (Nat → Int32) → (Nat → Int32) → (Nat → Int32) → Option (Int32 × Int32 × (Nat → Int32) × (Nat → Int32) × (Nat → Int32) × (Nat → Int32) × (Nat → Int32))) (v3 : Int32) (v4 : Int32) (s1 : Int32) (t_leftBehind : Int32) (t_ahead : Nat → Int32) (t_gets : Nat → Int32) (t_refused : Nat → Int32) (t_his : Nat → Int32) (t_its : Nat → Int32) : Option (Int32 × Int32 × (Nat → Int32) × (Nat → Int32) × (Nat → Int32) × (Nat → Int32) × (Nat → Int32)) :=
  chk (ix a1 5) <|
  K183 v3 v4 s1 (t_gets a1.toNatClampNeg) t_leftBehind t_ahead t_gets t_refused t_his t_its
def f_X5_inspector_b183 (F : Nat) (a1 : Int32) (a2 : Int32) (t_told : Nat → Int32) (K89 : Int32 → Int32 → Int32 → (Nat → Int32) → (Nat → Int32) → (Nat → Int32) → (Nat → Int32) → (Nat → Int32) → Option (Int32 × Int32 × (Nat → Int32) × (Nat → Int32) × (Nat → Int32) × (Nat → Int32) × (Nat → Int32))) (v3 : Int32) (v4 : Int32) (s1 : Int32) (s2 : Int32) (t_leftBehind : Int32) (t_ahead : Nat → Int32) (t_gets : Nat → Int32) (t_refused : Nat → Int32) (t_his : Nat → Int32) (t_its : Nat → Int32) : Option (Int32 × Int32 × (Nat → Int32) × (Nat → Int32) × (Nat → Int32) × (Nat → Int32) × (Nat → Int32)) :=
  chk (ix s1 4) <|
  K89 v3 (v4 + (1 : Int32)) t_leftBehind t_ahead t_gets t_refused t_his (upd t_its s1.toNatClampNeg s2)
def f_X5_inspector_b140 (F : Nat) (a1 : Int32) (a2 : Int32) (t_told : Nat → Int32) (K89 : Int32 → Int32 → Int32 → (Nat → Int32) → (Nat → Int32) → (Nat → Int32) → (Nat → Int32) → (Nat → Int32) → Option (Int32 × Int32 × (Nat → Int32) × (Nat → Int32) × (Nat → Int32) × (Nat → Int32) × (Nat → Int32))) (v3 : Int32) (v4 : Int32) (v5 : Int32) (v6 : Int32) (s1 : Int32) (s2 : Int32) (t_leftBehind : Int32) (t_ahead : Nat → Int32) (t_gets : Nat → Int32) (t_refused : Nat → Int32) (t_his : Nat → Int32) (t_its : Nat → Int32) : Option (Int32 × Int32 × (Nat → Int32) × (Nat → Int32) × (Nat → Int32) × (Nat → Int32) × (Nat → Int32)) :=
  chk (ix s1 4) <|
  if v6 = 0 then
    (f_X5_inspector_b183 F a1 a2 t_told K89) v3 v4 v4 (0 : Int32) t_leftBehind t_ahead t_gets t_refused (upd t_his s1.toNatClampNeg s2) t_its
  else
    if v3 = 0 then
      (f_X5_inspector_b177 F a1 a2 t_told (f_X5_inspector_b183 F a1 a2 t_told K89)) v3 v4 v4 t_leftBehind t_ahead t_gets t_refused (upd t_his s1.toNatClampNeg s2) t_its
    else
      if v5 = 0 then
        (f_X5_inspector_b177 F a1 a2 t_told (f_X5_inspector_b183 F a1 a2 t_told K89)) v3 v4 v4 t_leftBehind t_ahead t_gets t_refused (upd t_his s1.toNatClampNeg s2) t_its
      else
        chk (ix a1 5) <|
        (f_X5_inspector_b183 F a1 a2 t_told K89) v3 v4 v4 ((t_gets a1.toNatClampNeg) - (20 : Int32)) t_leftBehind t_ahead t_gets t_refused (upd t_his s1.toNatClampNeg s2) t_its
def f_X5_inspector_b244 (F : Nat) (a1 : Int32) (a2 : Int32) (t_told : Nat → Int32) (K245 : Int32 → Int32 → Int32 → Int32 → (Nat → Int32) → (Nat → Int32) → (Nat → Int32) → (Nat → Int32) → (Nat → Int32) → Option (Int32 × Int32 × (Nat → Int32) × (Nat → Int32) × (Nat → Int32) × (Nat → Int32) × (Nat → Int32))) (v4 : Int32) (v5 : Int32) (t_leftBehind : Int32) (t_ahead : Nat → Int32) (t_gets : Nat → Int32) (t_refused : Nat → Int32) (t_his : Nat → Int32) (t_its : Nat → Int32) : Option (Int32 × Int32 × (Nat → Int32) × (Nat → Int32) × (Nat → Int32) × (Nat → Int32) × (Nat → Int32)) :=
  K245 v4 v5 (0 : Int32) t_leftBehind t_ahead t_gets t_refused t_his t_its
def f_X5_inspector_b262 (F : Nat) (a1 : Int32) (a2 : Int32) (t_told : Nat → Int32) (K196 : Int32 → Int32 → Int32 → (Nat → Int32) → (Nat → Int32) → (Nat → Int32) → (Nat → Int32) → (Nat → Int32) → Option (Int32 × Int32 × (Nat → Int32) × (Nat → Int32) × (Nat → Int32) × (Nat → Int32) × (Nat → Int32))) (v5 : Int32) (s0 : Int32) (s1 : Int32) (t_leftBehind : Int32) (t_ahead : Nat → Int32) (t_gets : Nat → Int32) (t_refused : Nat → Int32) (t_his : Nat → Int32) (t_its : Nat → Int32) : Option (Int32 × Int32 × (Nat → Int32) × (Nat → Int32) × (Nat → Int32) × (Nat → Int32) × (Nat → Int32)) :=
  K196 (s0 ||| s1) (v5 + (1 : Int32)) t_leftBehind t_ahead t_gets t_refused t_his t_its
def f_X5_inspector_b245 (F : Nat) (a1 : Int32) (a2 : Int32) (t_told : Nat → Int32) (K196 : Int32 → Int32 → Int32 → (Nat → Int32) → (Nat → Int32) → (Nat → Int32) → (Nat → Int32) → (Nat → Int32) → Option (Int32 × Int32 × (Nat → Int32) × (Nat → Int32) × (Nat → Int32) × (Nat → Int32) × (Nat → Int32))) (v4 : Int32) (v5 : Int32) (s0 : Int32) (t_leftBehind : Int32) (t_ahead : Nat → Int32) (t_gets : Nat → Int32) (t_refused : Nat → Int32) (t_his : Nat → Int32) (t_its : Nat → Int32) : Option (Int32 × Int32 × (Nat → Int32) × (Nat → Int32) × (Nat → Int32) × (Nat → Int32) × (Nat → Int32)) :=
  if s0 = 0 then
    (f_X5_inspector_b262 F a1 a2 t_told K196) v5 v4 (0 : Int32) t_leftBehind t_ahead t_gets t_refused t_his t_its
  else
    (f_X5_inspector_b262 F a1 a2 t_told K196) v5 v4 ((1 : Int32) <<< (v5 &&& 31)) t_leftBehind t_ahead t_gets t_refused t_his t_its
def f_X5_inspector_b196 (F : Nat) (a1 : Int32) (a2 : Int32) (t_told : Nat → Int32) : Nat → Int32 → Int32 → Int32 → (Nat → Int32) → (Nat → Int32) → (Nat → Int32) → (Nat → Int32) → (Nat → Int32) → Option (Int32 × Int32 × (Nat → Int32) × (Nat → Int32) × (Nat → Int32) × (Nat → Int32) × (Nat → Int32))
  | 0, _, _, _, _, _, _, _, _ => none
  | n + 1, v4, v5, t_leftBehind, t_ahead, t_gets, t_refused, t_his, t_its =>
    if (4 : Int32) ≤ v5 then
      some (v4, t_leftBehind, t_ahead, t_gets, t_refused, t_his, t_its)
    else
      chk (ix v5 4) <|
      chk (ix (v5 ^^^ (1 : Int32)) 4) <|
      if (t_his v5.toNatClampNeg) < (t_his (v5 ^^^ (1 : Int32)).toNatClampNeg) then
        (f_X5_inspector_b244 F a1 a2 t_told (f_X5_inspector_b245 F a1 a2 t_told (f_X5_inspector_b196 F a1 a2 t_told n))) v4 v5 t_leftBehind t_ahead t_gets t_refused t_his t_its
      else
        chk (ix v5 4) <|
        chk (ix (v5 ^^^ (2 : Int32)) 4) <|
        if (t_its v5.toNatClampNeg) < (t_its (v5 ^^^ (2 : Int32)).toNatClampNeg) then
          (f_X5_inspector_b244 F a1 a2 t_told (f_X5_inspector_b245 F a1 a2 t_told (f_X5_inspector_b196 F a1 a2 t_told n))) v4 v5 t_leftBehind t_ahead t_gets t_refused t_his t_its
        else
          (f_X5_inspector_b245 F a1 a2 t_told (f_X5_inspector_b196 F a1 a2 t_told n)) v4 v5 (1 : Int32) t_leftBehind t_ahead t_gets t_refused t_his t_its
def f_X5_inspector_b89 (F : Nat) (a1 : Int32) (a2 : Int32) (t_told : Nat → Int32) : Nat → Int32 → Int32 → Int32 → (Nat → Int32) → (Nat → Int32) → (Nat → Int32) → (Nat → Int32) → (Nat → Int32) → Option (Int32 × Int32 × (Nat → Int32) × (Nat → Int32) × (Nat → Int32) × (Nat → Int32) × (Nat → Int32))
  | 0, _, _, _, _, _, _, _, _ => none
  | n + 1, v3, v4, t_leftBehind, t_ahead, t_gets, t_refused, t_his, t_its =>
    if (4 : Int32) ≤ v4 then
      (f_X5_inspector_b196 F a1 a2 t_told F) (0 : Int32) (0 : Int32) t_leftBehind t_ahead t_gets t_refused t_his t_its
    else
      (f_X5_has F v4 (0 : Int32)).bind fun o18 =>
      (f_X5_has F v4 (1 : Int32)).bind fun o20 =>
      if o18 = 0 then
        (f_X5_inspector_b140 F a1 a2 t_told (f_X5_inspector_b89 F a1 a2 t_told n)) v3 v4 o18 o20 v4 (0 : Int32) t_leftBehind t_ahead t_gets t_refused t_his t_its
      else
        if v3 = 0 then
          (f_X5_inspector_b139 F a1 a2 t_told (f_X5_inspector_b140 F a1 a2 t_told (f_X5_inspector_b89 F a1 a2 t_told n))) v3 v4 o18 o20 v4 t_leftBehind t_ahead t_gets t_refused t_his t_its
        else
          if o20 = 0 then
            (f_X5_inspector_b139 F a1 a2 t_told (f_X5_inspector_b140 F a1 a2 t_told (f_X5_inspector_b89 F a1 a2 t_told n))) v3 v4 o18 o20 v4 t_leftBehind t_ahead t_gets t_refused t_his t_its
          else
            (f_X5_inspector_b140 F a1 a2 t_told (f_X5_inspector_b89 F a1 a2 t_told n)) v3 v4 o18 o20 v4 (5 : Int32) t_leftBehind t_ahead t_gets t_refused t_his t_its
def f_X5_inspector_b85 (F : Nat) (a1 : Int32) (a2 : Int32) (t_told : Nat → Int32) (s0 : Int32) (t_leftBehind : Int32) (t_ahead : Nat → Int32) (t_gets : Nat → Int32) (t_refused : Nat → Int32) (t_his : Nat → Int32) (t_its : Nat → Int32) : Option (Int32 × Int32 × (Nat → Int32) × (Nat → Int32) × (Nat → Int32) × (Nat → Int32) × (Nat → Int32)) :=
  (f_X5_inspector_b89 F a1 a2 t_told F) s0 (0 : Int32) t_leftBehind t_ahead t_gets t_refused t_his t_its
def f_X5_inspector (F : Nat) (a1 : Int32) (a2 : Int32) (t_told : Nat → Int32) (t_leftBehind : Int32) (t_ahead : Nat → Int32) (t_gets : Nat → Int32) (t_refused : Nat → Int32) (t_his : Nat → Int32) (t_its : Nat → Int32) : Option (Int32 × Int32 × (Nat → Int32) × (Nat → Int32) × (Nat → Int32) × (Nat → Int32) × (Nat → Int32)) :=
  (f_X5_isWell F a1 t_told).bind fun o1 =>
  if o1 = 0 then
    (f_X5_inspector_b15 F a1 a2 t_told) t_leftBehind t_ahead t_gets t_refused t_his t_its
  else
    (f_X5_isHour F a2).bind fun o3 =>
    if o3 = 0 then
      (f_X5_inspector_b15 F a1 a2 t_told) t_leftBehind t_ahead t_gets t_refused t_his t_its
    else
      chk (ix ((14 : Int32) + a1) 251) <|
      (f_X5_has F (t_told ((14 : Int32) + a1).toNatClampNeg) a2).bind fun o6 =>
      if o6 = 0 then
        (f_X5_no F t_refused).bind fun o14 =>
        some (o14.1, t_leftBehind, t_ahead, t_gets, o14.2, t_his, t_its)
      else
        chk (ix (24 : Int32) 251) <|
        (f_X5_openIn F 251 a2 t_told).bind fun o9 =>
        (f_X5_goHour F 251 a2 (t_told (24 : Int32).toNatClampNeg) o9 t_told t_leftBehind t_ahead t_gets).bind fun o11 =>
        chk (ix ((26 : Int32) + a1) 251) <|
        if (t_told ((26 : Int32) + a1).toNatClampNeg) = (3 : Int32) then
          (f_X5_inspector_b85 F a1 a2 t_told) (1 : Int32) o11.1 o11.2.1 o11.2.2 t_refused t_his t_its
        else
          (f_X5_inspector_b85 F a1 a2 t_told) (0 : Int32) o11.1 o11.2.1 o11.2.2 t_refused t_his t_its
def f_X5_fraction_b6 (F : Nat) (a1 : Int64) (a3 : Int64) : Nat → Int64 → Int64 → Int64 → Int64 → Option (Int64 × Int64)
  | 0, _, _, _, _ => none
  | n + 1, v5, v7, t_above, t_below =>
    if (lg_cmp v7 (0 : Int64)) = 0 then
      chk (decide (¬ v5 = 0)) <|
      chk (decide (¬ v5 = 0)) <|
      some (a1 / v5, a3 / v5)
    else
      chk (decide (¬ v7 = 0)) <|
      (f_X5_fraction_b6 F a1 a3 n) v7 (v5 - v5 / v7 * v7) t_above t_below
def f_X5_fraction (F : Nat) (a1 : Int64) (a3 : Int64) (t_above : Int64) (t_below : Int64) : Option (Int64 × Int64) :=
  (f_X5_fraction_b6 F a1 a3 F) a1 a3 t_above t_below
def f_X5_noons_b27 (F : Nat) (a1 : Int32) (a2 : Int32) (a3 : Int32) (t_told : Nat → Int32) (t_above : Int64) (t_below : Int64) (t_leftBehind : Int32) (t_ahead : Nat → Int32) (t_gets : Nat → Int32) (t_refused : Nat → Int32) : Option (Int32 × Int64 × Int64 × Int32 × (Nat → Int32) × (Nat → Int32) × (Nat → Int32)) :=
  (f_X5_bad F (-2 : Int32) t_refused).bind fun o21 =>
  some (o21.1, t_above, t_below, t_leftBehind, t_ahead, t_gets, o21.2)
def f_X5_noons (F : Nat) (a1 : Int32) (a2 : Int32) (a3 : Int32) (t_told : Nat → Int32) (t_above : Int64) (t_below : Int64) (t_leftBehind : Int32) (t_ahead : Nat → Int32) (t_gets : Nat → Int32) (t_refused : Nat → Int32) : Option (Int32 × Int64 × Int64 × Int32 × (Nat → Int32) × (Nat → Int32) × (Nat → Int32)) :=
  (f_X5_isWell F a1 t_told).bind fun o1 =>
  if o1 = 0 then
    (f_X5_noons_b27 F a1 a2 a3 t_told) t_above t_below t_leftBehind t_ahead t_gets t_refused
  else
    (f_X5_isHour F a2).bind fun o3 =>
    if o3 = 0 then
      (f_X5_noons_b27 F a1 a2 a3 t_told) t_above t_below t_leftBehind t_ahead t_gets t_refused
    else
      (f_X5_in F a3.toInt64 (0 : Int64) (10 : Int64)).bind fun o5 =>
      if o5 = 0 then
        (f_X5_noons_b27 F a1 a2 a3 t_told) t_above t_below t_leftBehind t_ahead t_gets t_refused
      else
        chk (ix (24 : Int32) 251) <|
        (f_X5_openIn F 251 a2 t_told).bind fun o8 =>
        (f_X5_goHour F 251 a2 (t_told (24 : Int32).toNatClampNeg) o8 t_told t_leftBehind t_ahead t_gets).bind fun o10 =>
        chk (ix a1 5) <|
        chk (ix (24 : Int32) 251) <|
        (f_X5_openIn F 251 a2 t_told).bind fun o14 =>
        (f_X5_goHour F 251 a2 ((t_told (24 : Int32).toNatClampNeg) / (2 : Int32)) o14 t_told o10.1 o10.2.1 o10.2.2).bind fun o16 =>
        chk (ix a1 5) <|
        (f_X5_fraction F (((((10 : Int32) - a3) * (o10.2.2 a1.toNatClampNeg)) + (a3 * (o16.2.2 a1.toNatClampNeg))).toInt64) (10 : Int64) t_above t_below).bind fun o19 =>
        some ((1 : Int32), o19.1, o19.2, o16.1, o16.2.1, o16.2.2, t_refused)
def f_X5_years_b24 (F : Nat) (a1 : Int32) (a2 : Int32) (t_told : Nat → Int32) (t_leftBehind : Int32) (t_dayGets : Nat → Int32) (t_dayDue : Nat → Int32) (t_ahead : Nat → Int32) (t_gets : Nat → Int32) (t_refused : Nat → Int32) : Option (Int32 × Int32 × (Nat → Int32) × (Nat → Int32) × (Nat → Int32) × (Nat → Int32) × (Nat → Int32)) :=
  (f_X5_bad F (-2 : Int32) t_refused).bind fun o5 =>
  some (o5.1, t_leftBehind, t_dayGets, t_dayDue, t_ahead, t_gets, o5.2)
def f_X5_years_b40 (F : Nat) (a1 : Int32) (a2 : Int32) (t_told : Nat → Int32) : Nat → Int64 → Int32 → Int32 → Int32 → (Nat → Int32) → (Nat → Int32) → (Nat → Int32) → (Nat → Int32) → (Nat → Int32) → Option (Int32 × Int32 × (Nat → Int32) × (Nat → Int32) × (Nat → Int32) × (Nat → Int32) × (Nat → Int32))
  | 0, _, _, _, _, _, _, _, _, _ => none
  | n + 1, v3, v5, v6, t_leftBehind, t_dayGets, t_dayDue, t_ahead, t_gets, t_refused =>
    if a2 ≤ v6 then
      some (v5, t_leftBehind, t_dayGets, t_dayDue, t_ahead, t_gets, t_refused)
    else
      (f_X5_layDay F 251 ((((((v3 * (1103515245 : Int64)) + (12345 : Int64)) - ((v3 * (1103515245 : Int64)) + (12345 : Int64)) / (2147483648 : Int64) * (2147483648 : Int64)) / (65536 : Int64)) - ((((v3 * (1103515245 : Int64)) + (12345 : Int64)) - ((v3 * (1103515245 : Int64)) + (12345 : Int64)) / (2147483648 : Int64) * (2147483648 : Int64)) / (65536 : Int64)) / (61 : Int64) * (61 : Int64)).toInt32) (0 : Int32) t_told t_leftBehind t_dayGets t_dayDue t_ahead t_gets).bind fun o7 =>
      (f_X5_sumOf F 5 t_told o7.2.1).bind fun o9 =>
      (f_X5_years_b40 F a1 a2 t_told n) (((v3 * (1103515245 : Int64)) + (12345 : Int64)) - ((v3 * (1103515245 : Int64)) + (12345 : Int64)) / (2147483648 : Int64) * (2147483648 : Int64)) (v5 + o9) (v6 + (1 : Int32)) o7.1 o7.2.1 o7.2.2.1 o7.2.2.2.1 o7.2.2.2.2 t_refused
def f_X5_years (F : Nat) (a1 : Int32) (a2 : Int32) (t_told : Nat → Int32) (t_leftBehind : Int32) (t_dayGets : Nat → Int32) (t_dayDue : Nat → Int32) (t_ahead : Nat → Int32) (t_gets : Nat → Int32) (t_refused : Nat → Int32) : Option (Int32 × Int32 × (Nat → Int32) × (Nat → Int32) × (Nat → Int32) × (Nat → Int32) × (Nat → Int32)) :=
  (f_X5_in F a1.toInt64 (0 : Int64) (999999 : Int64)).bind fun o1 =>
  if o1 = 0 then
    (f_X5_years_b24 F a1 a2 t_told) t_leftBehind t_dayGets t_dayDue t_ahead t_gets t_refused
  else
    (f_X5_in F a2.toInt64 (0 : Int64) (60 : Int64)).bind fun o3 =>
    if o3 = 0 then
      (f_X5_years_b24 F a1 a2 t_told) t_leftBehind t_dayGets t_dayDue t_ahead t_gets t_refused
    else
      (f_X5_years_b40 F a1 a2 t_told F) a1.toInt64 (0 : Int32) (0 : Int32) t_leftBehind t_dayGets t_dayDue t_ahead t_gets t_refused
def f_X5_type (F : Nat) (a1 : Int32) (t_bytesLong : Int32) (t_bytes : Nat → Int32) (t_refused : Nat → Int32) : Option (Int32 × Int32 × (Nat → Int32) × (Nat → Int32)) :=
  (f_X5_in F a1.toInt64 (0 : Int64) (127 : Int64)).bind fun o1 =>
  if o1 = 0 then
    (f_X5_bad F (-2 : Int32) t_refused).bind fun o6 =>
    some (o6.1, t_bytesLong, t_bytes, o6.2)
  else
    if t_bytesLong = (150 : Int32) then
      (f_X5_full F t_refused).bind fun o4 =>
      some (o4.1, t_bytesLong, t_bytes, o4.2)
    else
      chk (ix t_bytesLong 150) <|
      some (t_bytesLong + (1 : Int32), t_bytesLong + (1 : Int32), upd t_bytes t_bytesLong.toNatClampNeg a1, t_refused)
def f_X5_clear (F : Nat) (t_bytesLong : Int32) : Option (Int32 × Int32) :=
  some (t_bytesLong, (0 : Int32))
def f_X5_isSmall (F : Nat) (a0 : Int32) : Option (Int32) :=
  (f_X5_in F a0.toInt64 (97 : Int64) (122 : Int64)).bind fun o1 =>
  chk (bo o1) <|
  some (o1)
def f_X5_isFigure (F : Nat) (a0 : Int32) : Option (Int32) :=
  (f_X5_in F a0.toInt64 (48 : Int64) (57 : Int64)).bind fun o1 =>
  chk (bo o1) <|
  some (o1)
def f_X5_lookAt_b208 (F : Nat) (a1 : Int32) (t_bytesLong : Int32) (t_bytes : Nat → Int32) (K136 : Int32 → Int32 → Int32 → Int32 → Int32 → Option (Int32 × Int32 × Int32 × Int32)) (v3 : Int32) (s1 : Int32) (s2 : Int32) (t_tokenAt : Int32) (t_tokenLong : Int32) (t_token : Int32) (t_value : Int32) : Option (Int32 × Int32 × Int32 × Int32) :=
  K136 v3 t_tokenAt (s1 + s2) t_token t_value
def f_X5_lookAt_b193 (F : Nat) (a1 : Int32) (t_bytesLong : Int32) (t_bytes : Nat → Int32) (K136 : Int32 → Int32 → Int32 → Int32 → Int32 → Option (Int32 × Int32 × Int32 × Int32)) (s0 : Int32) (t_tokenAt : Int32) (t_tokenLong : Int32) (t_token : Int32) (t_value : Int32) : Option (Int32 × Int32 × Int32 × Int32) :=
  if s0 = 0 then
    (f_X5_lookAt_b208 F a1 t_bytesLong t_bytes K136) s0 t_tokenLong (0 : Int32) t_tokenAt t_tokenLong t_token t_value
  else
    (f_X5_lookAt_b208 F a1 t_bytesLong t_bytes K136) s0 t_tokenLong (1 : Int32) t_tokenAt t_tokenLong t_token t_value
def f_X5_lookAt_b274 (F : Nat) (a1 : Int32) (t_bytesLong : Int32) (t_bytes : Nat → Int32) (t_tokenAt : Int32) (t_tokenLong : Int32) (t_token : Int32) (t_value : Int32) : Option (Int32 × Int32 × Int32 × Int32) :=
  if t_token = (2 : Int32) then
    if t_tokenLong ≤ (2 : Int32) then
      some (t_tokenAt, t_tokenLong, t_token, t_value)
    else
      some (t_tokenAt, t_tokenLong, (4 : Int32), t_value)
  else
    some (t_tokenAt, t_tokenLong, t_token, t_value)
def f_X5_lookAt_b218 (F : Nat) (a1 : Int32) (t_bytesLong : Int32) (t_bytes : Nat → Int32) : Nat → Int32 → Int32 → Int32 → Int32 → Int32 → Option (Int32 × Int32 × Int32 × Int32)
  | 0, _, _, _, _, _ => none
  | n + 1, v4, t_tokenAt, t_tokenLong, t_token, t_value =>
    if t_tokenLong ≤ v4 then
      (f_X5_lookAt_b274 F a1 t_bytesLong t_bytes) t_tokenAt t_tokenLong t_token t_value
    else
      if (2 : Int32) ≤ v4 then
        (f_X5_lookAt_b274 F a1 t_bytesLong t_bytes) t_tokenAt t_tokenLong t_token t_value
      else
        if t_token = (2 : Int32) then
          chk (ix (t_tokenAt + v4) 150) <|
          (f_X5_lookAt_b218 F a1 t_bytesLong t_bytes n) (v4 + (1 : Int32)) t_tokenAt t_tokenLong t_token ((((10 : Int32) * t_value) + (t_bytes (t_tokenAt + v4).toNatClampNeg)) - (48 : Int32))
        else
          (f_X5_lookAt_b274 F a1 t_bytesLong t_bytes) t_tokenAt t_tokenLong t_token t_value
def f_X5_lookAt_b215 (F : Nat) (a1 : Int32) (t_bytesLong : Int32) (t_bytes : Nat → Int32) (t_tokenAt : Int32) (t_tokenLong : Int32) (t_token : Int32) (t_value : Int32) : Option (Int32 × Int32 × Int32 × Int32) :=
  (f_X5_lookAt_b218 F a1 t_bytesLong t_bytes F) (0 : Int32) t_tokenAt t_tokenLong t_token t_value
def f_X5_lookAt_b136 (F : Nat) (a1 : Int32) (t_bytesLong : Int32) (t_bytes : Nat → Int32) : Nat → Int32 → Int32 → Int32 → Int32 → Int32 → Option (Int32 × Int32 × Int32 × Int32)
  | 0, _, _, _, _, _ => none
  | n + 1, v3, t_tokenAt, t_tokenLong, t_token, t_value =>
    if v3 = 0 then
      (f_X5_lookAt_b215 F a1 t_bytesLong t_bytes) t_tokenAt t_tokenLong t_token t_value
    else
      if t_bytesLong ≤ (t_tokenAt + t_tokenLong) then
        (f_X5_lookAt_b215 F a1 t_bytesLong t_bytes) t_tokenAt t_tokenLong t_token t_value
      else
        chk (ix (t_tokenAt + t_tokenLong) 150) <|
        if t_token = (1 : Int32) then
          (f_X5_isSmall F (t_bytes (t_tokenAt + t_tokenLong).toNatClampNeg)).bind fun o10 =>
          (f_X5_lookAt_b193 F a1 t_bytesLong t_bytes (f_X5_lookAt_b136 F a1 t_bytesLong t_bytes n)) o10 t_tokenAt t_tokenLong t_token t_value
        else
          (f_X5_isFigure F (t_bytes (t_tokenAt + t_tokenLong).toNatClampNeg)).bind fun o8 =>
          (f_X5_lookAt_b193 F a1 t_bytesLong t_bytes (f_X5_lookAt_b136 F a1 t_bytesLong t_bytes n)) o8 t_tokenAt t_tokenLong t_token t_value
def f_X5_lookAt_b135 (F : Nat) (a1 : Int32) (t_bytesLong : Int32) (t_bytes : Nat → Int32) (s0 : Int32) (t_tokenAt : Int32) (t_tokenLong : Int32) (t_token : Int32) (t_value : Int32) : Option (Int32 × Int32 × Int32 × Int32) :=
  (f_X5_lookAt_b136 F a1 t_bytesLong t_bytes F) s0 t_tokenAt t_tokenLong t_token t_value
def f_X5_lookAt_b114 (F : Nat) (a1 : Int32) (t_bytesLong : Int32) (t_bytes : Nat → Int32) (s1 : Int32) (t_tokenAt : Int32) (t_tokenLong : Int32) (t_token : Int32) (t_value : Int32) : Option (Int32 × Int32 × Int32 × Int32) :=
  if (3 : Int32) ≤ s1 then
    (f_X5_lookAt_b135 F a1 t_bytesLong t_bytes) (0 : Int32) t_tokenAt (1 : Int32) s1 t_value
  else
    (f_X5_lookAt_b135 F a1 t_bytesLong t_bytes) (1 : Int32) t_tokenAt (1 : Int32) s1 t_value
def f_X5_lookAt_b43 (F : Nat) (a1 : Int32) (t_bytesLong : Int32) (t_bytes : Nat → Int32) (t_tokenAt : Int32) (t_tokenLong : Int32) (t_token : Int32) (t_value : Int32) : Option (Int32 × Int32 × Int32 × Int32) :=
  if t_tokenAt = t_bytesLong then
    some (t_tokenAt, (0 : Int32), (0 : Int32), (0 : Int32))
  else
    chk (ix t_tokenAt 150) <|
    (f_X5_isSmall F (t_bytes t_tokenAt.toNatClampNeg)).bind fun o3 =>
    if o3 = 0 then
      (f_X5_isFigure F (t_bytes t_tokenAt.toNatClampNeg)).bind fun o5 =>
      if o5 = 0 then
        if (t_bytes t_tokenAt.toNatClampNeg) = (59 : Int32) then
          (f_X5_lookAt_b114 F a1 t_bytesLong t_bytes) (3 : Int32) t_tokenAt (0 : Int32) (0 : Int32) (0 : Int32)
        else
          (f_X5_lookAt_b114 F a1 t_bytesLong t_bytes) (4 : Int32) t_tokenAt (0 : Int32) (0 : Int32) (0 : Int32)
      else
        (f_X5_lookAt_b114 F a1 t_bytesLong t_bytes) (2 : Int32) t_tokenAt (0 : Int32) (0 : Int32) (0 : Int32)
    else
      (f_X5_lookAt_b114 F a1 t_bytesLong t_bytes) (1 : Int32) t_tokenAt (0 : Int32) (0 : Int32) (0 : Int32)
def f_X5_lookAt_b5 (F : Nat) (a1 : Int32) (t_bytesLong : Int32) (t_bytes : Nat → Int32) : Nat → Int32 → Int32 → Int32 → Int32 → Option (Int32 × Int32 × Int32 × Int32)
  | 0, _, _, _, _ => none
  | n + 1, t_tokenAt, t_tokenLong, t_token, t_value =>
    if t_bytesLong ≤ t_tokenAt then
      (f_X5_lookAt_b43 F a1 t_bytesLong t_bytes) t_tokenAt t_tokenLong t_token t_value
    else
      chk (ix t_tokenAt 150) <|
      if (t_bytes t_tokenAt.toNatClampNeg) = (32 : Int32) then
        (f_X5_lookAt_b5 F a1 t_bytesLong t_bytes n) (t_tokenAt + (1 : Int32)) t_tokenLong t_token t_value
      else
        (f_X5_lookAt_b43 F a1 t_bytesLong t_bytes) t_tokenAt t_tokenLong t_token t_value
def f_X5_lookAt (F : Nat) (a1 : Int32) (t_bytesLong : Int32) (t_bytes : Nat → Int32) (t_tokenAt : Int32) (t_tokenLong : Int32) (t_token : Int32) (t_value : Int32) : Option (Int32 × Int32 × Int32 × Int32) :=
  (f_X5_lookAt_b5 F a1 t_bytesLong t_bytes F) a1 t_tokenLong t_token t_value
def f_X5_goBehind (F : Nat) (t_bytesLong : Int32) (t_bytes : Nat → Int32) (t_tokenAt : Int32) (t_tokenLong : Int32) (t_token : Int32) (t_value : Int32) : Option (Int32 × Int32 × Int32 × Int32) :=
  (f_X5_lookAt F (t_tokenAt + t_tokenLong) t_bytesLong t_bytes t_tokenAt t_tokenLong t_token t_value).bind fun o1 =>
  some (o1.1, o1.2.1, o1.2.2.1, o1.2.2.2)
def f_X5_spells_b20 (F : Nat) (a1 : Int32) (a2 : Int32) (a3 : Int32) (a4 : Int32) (a5 : Int32) (a6 : Int32) (a7 : Int32) (t_tokenAt : Int32) (t_tokenLong : Int32) (t_token : Int32) (t_bytes : Nat → Int32) (K21 : Int32 → Option (Int32)) : Option (Int32) :=
  K21 (0 : Int32)
def f_X5_spells_b111 (F : Nat) (a1 : Int32) (a2 : Int32) (a3 : Int32) (a4 : Int32) (a5 : Int32) (a6 : Int32) (a7 : Int32) (t_tokenAt : Int32) (t_tokenLong : Int32) (t_token : Int32) (t_bytes : Nat → Int32) (K26 : Int32 → Int32 → Option (Int32)) (v9 : Int32) (s0 : Int32) : Option (Int32) :=
  K26 s0 (v9 + (1 : Int32))
def f_X5_spells_b103 (F : Nat) (a1 : Int32) (a2 : Int32) (a3 : Int32) (a4 : Int32) (a5 : Int32) (a6 : Int32) (a7 : Int32) (t_tokenAt : Int32) (t_tokenLong : Int32) (t_token : Int32) (t_bytes : Nat → Int32) (K26 : Int32 → Int32 → Option (Int32)) (v9 : Int32) (s0 : Int32) (s1 : Int32) : Option (Int32) :=
  if s0 = s1 then
    (f_X5_spells_b111 F a1 a2 a3 a4 a5 a6 a7 t_tokenAt t_tokenLong t_token t_bytes K26) v9 (1 : Int32)
  else
    (f_X5_spells_b111 F a1 a2 a3 a4 a5 a6 a7 t_tokenAt t_tokenLong t_token t_bytes K26) v9 (0 : Int32)
def f_X5_spells_b26 (F : Nat) (a1 : Int32) (a2 : Int32) (a3 : Int32) (a4 : Int32) (a5 : Int32) (a6 : Int32) (a7 : Int32) (t_tokenAt : Int32) (t_tokenLong : Int32) (t_token : Int32) (t_bytes : Nat → Int32) : Nat → Int32 → Int32 → Option (Int32)
  | 0, _, _ => none
  | n + 1, v8, v9 =>
    if a1 ≤ v9 then
      chk (bo v8) <|
      some (v8)
    else
      if v8 = 0 then
        chk (bo v8) <|
        some (v8)
      else
        chk (ix (t_tokenAt + v9) 150) <|
        if v9 = 0 then
          (f_X5_spells_b103 F a1 a2 a3 a4 a5 a6 a7 t_tokenAt t_tokenLong t_token t_bytes (f_X5_spells_b26 F a1 a2 a3 a4 a5 a6 a7 t_tokenAt t_tokenLong t_token t_bytes n)) v9 (t_bytes (t_tokenAt + v9).toNatClampNeg) a2
        else
          if v9 = (1 : Int32) then
            (f_X5_spells_b103 F a1 a2 a3 a4 a5 a6 a7 t_tokenAt t_tokenLong t_token t_bytes (f_X5_spells_b26 F a1 a2 a3 a4 a5 a6 a7 t_tokenAt t_tokenLong t_token t_bytes n)) v9 (t_bytes (t_tokenAt + v9).toNatClampNeg) a3
          else
            if v9 = (2 : Int32) then
              (f_X5_spells_b103 F a1 a2 a3 a4 a5 a6 a7 t_tokenAt t_tokenLong t_token t_bytes (f_X5_spells_b26 F a1 a2 a3 a4 a5 a6 a7 t_tokenAt t_tokenLong t_token t_bytes n)) v9 (t_bytes (t_tokenAt + v9).toNatClampNeg) a4
            else
              if v9 = (3 : Int32) then
                (f_X5_spells_b103 F a1 a2 a3 a4 a5 a6 a7 t_tokenAt t_tokenLong t_token t_bytes (f_X5_spells_b26 F a1 a2 a3 a4 a5 a6 a7 t_tokenAt t_tokenLong t_token t_bytes n)) v9 (t_bytes (t_tokenAt + v9).toNatClampNeg) a5
              else
                if v9 = (4 : Int32) then
                  (f_X5_spells_b103 F a1 a2 a3 a4 a5 a6 a7 t_tokenAt t_tokenLong t_token t_bytes (f_X5_spells_b26 F a1 a2 a3 a4 a5 a6 a7 t_tokenAt t_tokenLong t_token t_bytes n)) v9 (t_bytes (t_tokenAt + v9).toNatClampNeg) a6
                else
                  (f_X5_spells_b103 F a1 a2 a3 a4 a5 a6 a7 t_tokenAt t_tokenLong t_token t_bytes (f_X5_spells_b26 F a1 a2 a3 a4 a5 a6 a7 t_tokenAt t_tokenLong t_token t_bytes n)) v9 (t_bytes (t_tokenAt + v9).toNatClampNeg) a7
def f_X5_spells_b21 (F : Nat) (a1 : Int32) (a2 : Int32) (a3 : Int32) (a4 : Int32) (a5 : Int32) (a6 : Int32) (a7 : Int32) (t_tokenAt : Int32) (t_tokenLong : Int32) (t_token : Int32) (t_bytes : Nat → Int32) (s0 : Int32) : Option (Int32) :=
  (f_X5_spells_b26 F a1 a2 a3 a4 a5 a6 a7 t_tokenAt t_tokenLong t_token t_bytes F) s0 (0 : Int32)
def f_X5_spells (F : Nat) (a1 : Int32) (a2 : Int32) (a3 : Int32) (a4 : Int32) (a5 : Int32) (a6 : Int32) (a7 : Int32) (t_tokenAt : Int32) (t_tokenLong : Int32) (t_token : Int32) (t_bytes : Nat → Int32) : Option (Int32) :=
  if t_token = (1 : Int32) then
    if t_tokenLong = a1 then
      (f_X5_spells_b21 F a1 a2 a3 a4 a5 a6 a7 t_tokenAt t_tokenLong t_token t_bytes) (1 : Int32)
    else
      (f_X5_spells_b20 F a1 a2 a3 a4 a5 a6 a7 t_tokenAt t_tokenLong t_token t_bytes (f_X5_spells_b21 F a1 a2 a3 a4 a5 a6 a7 t_tokenAt t_tokenLong t_token t_bytes)) 
  else
    (f_X5_spells_b20 F a1 a2 a3 a4 a5 a6 a7 t_tokenAt t_tokenLong t_token t_bytes (f_X5_spells_b21 F a1 a2 a3 a4 a5 a6 a7 t_tokenAt t_tokenLong t_token t_bytes)) 
def f_X5_takes (F : Nat) (a1 : Int32) (a2 : Int32) (a3 : Int32) (t_bytesLong : Int32) (t_bytes : Nat → Int32) (t_tokenAt : Int32) (t_tokenLong : Int32) (t_token : Int32) (t_value : Int32) (t_values : Nat → Int32) : Option (Int32 × Int32 × Int32 × Int32 × Int32 × (Nat → Int32)) :=
  if t_token = (2 : Int32) then
    (f_X5_in F t_value.toInt64 a2.toInt64 a3.toInt64).bind fun o1 =>
    if o1 = 0 then
      some ((0 : Int32), t_tokenAt, t_tokenLong, t_token, t_value, t_values)
    else
      chk (ix a1 2) <|
      (f_X5_goBehind F t_bytesLong t_bytes t_tokenAt t_tokenLong t_token t_value).bind fun o4 =>
      some ((1 : Int32), o4.1, o4.2.1, o4.2.2.1, o4.2.2.2, upd t_values a1.toNatClampNeg t_value)
  else
    some ((0 : Int32), t_tokenAt, t_tokenLong, t_token, t_value, t_values)
def f_X5_takesHours_b45 (F : Nat) (t_bytesLong : Int32) (t_bytes : Nat → Int32) (t_tokenAt : Int32) (t_tokenLong : Int32) (t_token : Int32) (t_value : Int32) (t_takenHours : Int32) : Option (Int32 × Int32 × Int32 × Int32 × Int32 × Int32) :=
  if t_token = (3 : Int32) then
    some ((1 : Int32), t_tokenAt, t_tokenLong, t_token, t_value, t_takenHours)
  else
    some ((0 : Int32), t_tokenAt, t_tokenLong, t_token, t_value, t_takenHours)
def f_X5_takesHours_b5 (F : Nat) (t_bytesLong : Int32) (t_bytes : Nat → Int32) : Nat → Int32 → Int32 → Int32 → Int32 → Int32 → Option (Int32 × Int32 × Int32 × Int32 × Int32 × Int32)
  | 0, _, _, _, _, _ => none
  | n + 1, t_tokenAt, t_tokenLong, t_token, t_value, t_takenHours =>
    if t_token = (2 : Int32) then
      (f_X5_isHour F t_value).bind fun o1 =>
      if o1 = 0 then
        (f_X5_takesHours_b45 F t_bytesLong t_bytes) t_tokenAt t_tokenLong t_token t_value t_takenHours
      else
        (f_X5_goBehind F t_bytesLong t_bytes t_tokenAt t_tokenLong t_token t_value).bind fun o3 =>
        (f_X5_takesHours_b5 F t_bytesLong t_bytes n) o3.1 o3.2.1 o3.2.2.1 o3.2.2.2 (t_takenHours ||| ((1 : Int32) <<< (t_value &&& 31)))
    else
      (f_X5_takesHours_b45 F t_bytesLong t_bytes) t_tokenAt t_tokenLong t_token t_value t_takenHours
def f_X5_takesHours (F : Nat) (t_bytesLong : Int32) (t_bytes : Nat → Int32) (t_tokenAt : Int32) (t_tokenLong : Int32) (t_token : Int32) (t_value : Int32) (t_takenHours : Int32) : Option (Int32 × Int32 × Int32 × Int32 × Int32 × Int32) :=
  (f_X5_takesHours_b5 F t_bytesLong t_bytes F) t_tokenAt t_tokenLong t_token t_value (0 : Int32)
def f_X5_takesMain (F : Nat) (t_bytesLong : Int32) (t_bytes : Nat → Int32) (t_tokenAt : Int32) (t_tokenLong : Int32) (t_token : Int32) (t_value : Int32) (t_values : Nat → Int32) (t_anew : Nat → Int32) : Option (Int32 × Int32 × Int32 × Int32 × Int32 × (Nat → Int32) × (Nat → Int32)) :=
  (f_X5_spells F (4 : Int32) (109 : Int32) (97 : Int32) (105 : Int32) (110 : Int32) (0 : Int32) (0 : Int32) t_tokenAt t_tokenLong t_token t_bytes).bind fun o1 =>
  if o1 = 0 then
    some ((0 : Int32), t_tokenAt, t_tokenLong, t_token, t_value, t_values, t_anew)
  else
    (f_X5_goBehind F t_bytesLong t_bytes t_tokenAt t_tokenLong t_token t_value).bind fun o3 =>
    (f_X5_takes F (0 : Int32) (0 : Int32) (60 : Int32) t_bytesLong t_bytes o3.1 o3.2.1 o3.2.2.1 o3.2.2.2 t_values).bind fun o5 =>
    if o5.1 = 0 then
      some ((0 : Int32), o5.2.1, o5.2.2.1, o5.2.2.2.1, o5.2.2.2.2.1, o5.2.2.2.2.2, t_anew)
    else
      chk (ix (0 : Int32) 2) <|
      (f_X5_begin F 75 (o5.2.2.2.2.2 (0 : Int32).toNatClampNeg) t_anew).bind fun o8 =>
      if o5.2.2.2.1 = (3 : Int32) then
        some ((1 : Int32), o5.2.1, o5.2.2.1, o5.2.2.2.1, o5.2.2.2.2.1, o5.2.2.2.2.2, o8)
      else
        some ((0 : Int32), o5.2.1, o5.2.2.1, o5.2.2.2.1, o5.2.2.2.2.1, o5.2.2.2.2.2, o8)
def f_X5_takesWell (F : Nat) (t_bytesLong : Int32) (t_bytes : Nat → Int32) (t_tokenAt : Int32) (t_tokenLong : Int32) (t_token : Int32) (t_value : Int32) (t_takenHours : Int32) (t_anew : Nat → Int32) (t_values : Nat → Int32) : Option (Int32 × Int32 × Int32 × Int32 × Int32 × Int32 × (Nat → Int32) × (Nat → Int32)) :=
  chk (ix (0 : Int32) 75) <|
  if (t_anew (0 : Int32).toNatClampNeg) = (5 : Int32) then
    some ((0 : Int32), t_tokenAt, t_tokenLong, t_token, t_value, t_takenHours, t_anew, t_values)
  else
    (f_X5_goBehind F t_bytesLong t_bytes t_tokenAt t_tokenLong t_token t_value).bind fun o2 =>
    (f_X5_takes F (0 : Int32) (0 : Int32) (5 : Int32) t_bytesLong t_bytes o2.1 o2.2.1 o2.2.2.1 o2.2.2.2 t_values).bind fun o4 =>
    if o4.1 = 0 then
      some ((0 : Int32), o4.2.1, o4.2.2.1, o4.2.2.2.1, o4.2.2.2.2.1, t_takenHours, t_anew, o4.2.2.2.2.2)
    else
      (f_X5_takes F (1 : Int32) (1 : Int32) (20 : Int32) t_bytesLong t_bytes o4.2.1 o4.2.2.1 o4.2.2.2.1 o4.2.2.2.2.1 o4.2.2.2.2.2).bind fun o6 =>
      if o6.1 = 0 then
        some ((0 : Int32), o6.2.1, o6.2.2.1, o6.2.2.2.1, o6.2.2.2.2.1, t_takenHours, t_anew, o6.2.2.2.2.2)
      else
        (f_X5_takesHours F t_bytesLong t_bytes o6.2.1 o6.2.2.1 o6.2.2.2.1 o6.2.2.2.2.1 t_takenHours).bind fun o8 =>
        if o8.1 = 0 then
          some ((0 : Int32), o8.2.1, o8.2.2.1, o8.2.2.2.1, o8.2.2.2.2.1, o8.2.2.2.2.2, t_anew, o6.2.2.2.2.2)
        else
          chk (ix (0 : Int32) 2) <|
          chk (ix (1 : Int32) 2) <|
          (f_X5_layWell F 75 (o6.2.2.2.2.2 (0 : Int32).toNatClampNeg) (o6.2.2.2.2.2 (1 : Int32).toNatClampNeg) o8.2.2.2.2.2 t_anew).bind fun o12 =>
          some ((1 : Int32), o8.2.1, o8.2.2.1, o8.2.2.2.1, o8.2.2.2.2.1, o8.2.2.2.2.2, o12, o6.2.2.2.2.2)
def f_X5_takesTurn (F : Nat) (t_bytesLong : Int32) (t_bytes : Nat → Int32) (t_tokenAt : Int32) (t_tokenLong : Int32) (t_token : Int32) (t_value : Int32) (t_takenHours : Int32) (t_anew : Nat → Int32) (t_values : Nat → Int32) : Option (Int32 × Int32 × Int32 × Int32 × Int32 × Int32 × (Nat → Int32) × (Nat → Int32)) :=
  (f_X5_goBehind F t_bytesLong t_bytes t_tokenAt t_tokenLong t_token t_value).bind fun o1 =>
  chk (ix (0 : Int32) 75) <|
  (f_X5_takes F (0 : Int32) (0 : Int32) ((t_anew (0 : Int32).toNatClampNeg) - (1 : Int32)) t_bytesLong t_bytes o1.1 o1.2.1 o1.2.2.1 o1.2.2.2 t_values).bind fun o4 =>
  if o4.1 = 0 then
    some ((0 : Int32), o4.2.1, o4.2.2.1, o4.2.2.2.1, o4.2.2.2.2.1, t_takenHours, t_anew, o4.2.2.2.2.2)
  else
    (f_X5_takesHours F t_bytesLong t_bytes o4.2.1 o4.2.2.1 o4.2.2.2.1 o4.2.2.2.2.1 t_takenHours).bind fun o6 =>
    if o6.1 = 0 then
      some ((0 : Int32), o6.2.1, o6.2.2.1, o6.2.2.2.1, o6.2.2.2.2.1, o6.2.2.2.2.2, t_anew, o4.2.2.2.2.2)
    else
      chk (ix (0 : Int32) 2) <|
      chk (ix ((14 : Int32) + (o4.2.2.2.2.2 (0 : Int32).toNatClampNeg)) 75) <|
      some ((1 : Int32), o6.2.1, o6.2.2.1, o6.2.2.2.1, o6.2.2.2.2.1, o6.2.2.2.2.2, upd t_anew ((14 : Int32) + (o4.2.2.2.2.2 (0 : Int32).toNatClampNeg)).toNatClampNeg o6.2.2.2.2.2, o4.2.2.2.2.2)
def f_X5_takesDay (F : Nat) (t_bytesLong : Int32) (t_bytes : Nat → Int32) (t_leftBehind : Int32) (t_tokenAt : Int32) (t_tokenLong : Int32) (t_token : Int32) (t_value : Int32) (t_anew : Nat → Int32) (t_dayGets : Nat → Int32) (t_dayDue : Nat → Int32) (t_ahead : Nat → Int32) (t_gets : Nat → Int32) : Option (Int32 × Int32 × Int32 × Int32 × Int32 × Int32 × (Nat → Int32) × (Nat → Int32) × (Nat → Int32) × (Nat → Int32) × (Nat → Int32)) :=
  (f_X5_goBehind F t_bytesLong t_bytes t_tokenAt t_tokenLong t_token t_value).bind fun o1 =>
  (f_X5_passDay F 75 t_leftBehind t_anew t_dayGets t_dayDue t_ahead t_gets).bind fun o3 =>
  if o3.1 < 0 then
    some ((0 : Int32), o3.2.1, o1.1, o1.2.1, o1.2.2.1, o1.2.2.2, o3.2.2.1, o3.2.2.2.1, o3.2.2.2.2.1, o3.2.2.2.2.2.1, o3.2.2.2.2.2.2)
  else
    some ((1 : Int32), o3.2.1, o1.1, o1.2.1, o1.2.2.1, o1.2.2.2, o3.2.2.1, o3.2.2.2.1, o3.2.2.2.2.1, o3.2.2.2.2.2.1, o3.2.2.2.2.2.2)
def f_X5_takesItem (F : Nat) (t_bytesLong : Int32) (t_bytes : Nat → Int32) (t_leftBehind : Int32) (t_tokenAt : Int32) (t_tokenLong : Int32) (t_token : Int32) (t_value : Int32) (t_takenHours : Int32) (t_anew : Nat → Int32) (t_dayGets : Nat → Int32) (t_dayDue : Nat → Int32) (t_ahead : Nat → Int32) (t_gets : Nat → Int32) (t_values : Nat → Int32) : Option (Int32 × Int32 × Int32 × Int32 × Int32 × Int32 × Int32 × (Nat → Int32) × (Nat → Int32) × (Nat → Int32) × (Nat → Int32) × (Nat → Int32) × (Nat → Int32)) :=
  (f_X5_spells F (4 : Int32) (119 : Int32) (101 : Int32) (108 : Int32) (108 : Int32) (0 : Int32) (0 : Int32) t_tokenAt t_tokenLong t_token t_bytes).bind fun o1 =>
  if o1 = 0 then
    (f_X5_spells F (4 : Int32) (116 : Int32) (117 : Int32) (114 : Int32) (110 : Int32) (0 : Int32) (0 : Int32) t_tokenAt t_tokenLong t_token t_bytes).bind fun o3 =>
    if o3 = 0 then
      (f_X5_spells F (3 : Int32) (100 : Int32) (97 : Int32) (121 : Int32) (0 : Int32) (0 : Int32) (0 : Int32) t_tokenAt t_tokenLong t_token t_bytes).bind fun o5 =>
      if o5 = 0 then
        some ((0 : Int32), t_leftBehind, t_tokenAt, t_tokenLong, t_token, t_value, t_takenHours, t_anew, t_dayGets, t_dayDue, t_ahead, t_gets, t_values)
      else
        (f_X5_takesDay F t_bytesLong t_bytes t_leftBehind t_tokenAt t_tokenLong t_token t_value t_anew t_dayGets t_dayDue t_ahead t_gets).bind fun o7 =>
        if o7.1 = 0 then
          some ((0 : Int32), o7.2.1, o7.2.2.1, o7.2.2.2.1, o7.2.2.2.2.1, o7.2.2.2.2.2.1, t_takenHours, o7.2.2.2.2.2.2.1, o7.2.2.2.2.2.2.2.1, o7.2.2.2.2.2.2.2.2.1, o7.2.2.2.2.2.2.2.2.2.1, o7.2.2.2.2.2.2.2.2.2.2, t_values)
        else
          some ((1 : Int32), o7.2.1, o7.2.2.1, o7.2.2.2.1, o7.2.2.2.2.1, o7.2.2.2.2.2.1, t_takenHours, o7.2.2.2.2.2.2.1, o7.2.2.2.2.2.2.2.1, o7.2.2.2.2.2.2.2.2.1, o7.2.2.2.2.2.2.2.2.2.1, o7.2.2.2.2.2.2.2.2.2.2, t_values)
    else
      (f_X5_takesTurn F t_bytesLong t_bytes t_tokenAt t_tokenLong t_token t_value t_takenHours t_anew t_values).bind fun o9 =>
      chk (bo o9.1) <|
      some (o9.1, t_leftBehind, o9.2.1, o9.2.2.1, o9.2.2.2.1, o9.2.2.2.2.1, o9.2.2.2.2.2.1, o9.2.2.2.2.2.2.1, t_dayGets, t_dayDue, t_ahead, t_gets, o9.2.2.2.2.2.2.2)
  else
    (f_X5_takesWell F t_bytesLong t_bytes t_tokenAt t_tokenLong t_token t_value t_takenHours t_anew t_values).bind fun o12 =>
    chk (bo o12.1) <|
    some (o12.1, t_leftBehind, o12.2.1, o12.2.2.1, o12.2.2.2.1, o12.2.2.2.2.1, o12.2.2.2.2.2.1, o12.2.2.2.2.2.2.1, t_dayGets, t_dayDue, t_ahead, t_gets, o12.2.2.2.2.2.2.2)
def f_X5_read_b48 (F : Nat) (t_bytesLong : Int32) (t_bytes : Nat → Int32) (t_leftBehind : Int32) (t_tokenAt : Int32) (t_tokenLong : Int32) (t_token : Int32) (t_value : Int32) (t_takenHours : Int32) (t_values : Nat → Int32) (t_anew : Nat → Int32) (t_dayGets : Nat → Int32) (t_dayDue : Nat → Int32) (t_ahead : Nat → Int32) (t_gets : Nat → Int32) (t_told : Nat → Int32) : Option (Int32 × Int32 × Int32 × Int32 × Int32 × Int32 × Int32 × (Nat → Int32) × (Nat → Int32) × (Nat → Int32) × (Nat → Int32) × (Nat → Int32) × (Nat → Int32) × (Nat → Int32)) :=
  some ((-10 : Int32) - t_tokenAt, t_leftBehind, t_tokenAt, t_tokenLong, t_token, t_value, t_takenHours, t_values, t_anew, t_dayGets, t_dayDue, t_ahead, t_gets, t_told)
def f_X5_read_b68 (F : Nat) (t_bytesLong : Int32) (t_bytes : Nat → Int32) : Nat → Int32 → Int32 → Int32 → Int32 → Int32 → Int32 → Int32 → Int32 → (Nat → Int32) → (Nat → Int32) → (Nat → Int32) → (Nat → Int32) → (Nat → Int32) → (Nat → Int32) → (Nat → Int32) → Option (Int32 × Int32 × Int32 × Int32 × Int32 × Int32 × Int32 × (Nat → Int32) × (Nat → Int32) × (Nat → Int32) × (Nat → Int32) × (Nat → Int32) × (Nat → Int32) × (Nat → Int32))
  | 0, _, _, _, _, _, _, _, _, _, _, _, _, _, _, _ => none
  | n + 1, v1, v2, t_leftBehind, t_tokenAt, t_tokenLong, t_token, t_value, t_takenHours, t_values, t_anew, t_dayGets, t_dayDue, t_ahead, t_gets, t_told =>
    if (75 : Int32) ≤ v2 then
      some (v1, t_leftBehind, t_tokenAt, t_tokenLong, t_token, t_value, t_takenHours, t_values, t_anew, t_dayGets, t_dayDue, t_ahead, t_gets, t_told)
    else
      chk (ix v2 75) <|
      chk (ix v2 251) <|
      (f_X5_read_b68 F t_bytesLong t_bytes n) v1 (v2 + (1 : Int32)) t_leftBehind t_tokenAt t_tokenLong t_token t_value t_takenHours t_values t_anew t_dayGets t_dayDue t_ahead t_gets (upd t_told v2.toNatClampNeg (t_anew v2.toNatClampNeg))
def f_X5_read_b26 (F : Nat) (t_bytesLong : Int32) (t_bytes : Nat → Int32) : Nat → Int32 → Int32 → Int32 → Int32 → Int32 → Int32 → Int32 → (Nat → Int32) → (Nat → Int32) → (Nat → Int32) → (Nat → Int32) → (Nat → Int32) → (Nat → Int32) → (Nat → Int32) → Option (Int32 × Int32 × Int32 × Int32 × Int32 × Int32 × Int32 × (Nat → Int32) × (Nat → Int32) × (Nat → Int32) × (Nat → Int32) × (Nat → Int32) × (Nat → Int32) × (Nat → Int32))
  | 0, _, _, _, _, _, _, _, _, _, _, _, _, _, _ => none
  | n + 1, v1, t_leftBehind, t_tokenAt, t_tokenLong, t_token, t_value, t_takenHours, t_values, t_anew, t_dayGets, t_dayDue, t_ahead, t_gets, t_told =>
    if t_token = 0 then
      (f_X5_read_b68 F t_bytesLong t_bytes F) v1 (0 : Int32) t_leftBehind t_tokenAt t_tokenLong t_token t_value t_takenHours t_values t_anew t_dayGets t_dayDue t_ahead t_gets t_told
    else
      (f_X5_takesItem F t_bytesLong t_bytes t_leftBehind t_tokenAt t_tokenLong t_token t_value t_takenHours t_anew t_dayGets t_dayDue t_ahead t_gets t_values).bind fun o7 =>
      if o7.1 = 0 then
        (f_X5_read_b48 F t_bytesLong t_bytes) o7.2.1 o7.2.2.1 o7.2.2.2.1 o7.2.2.2.2.1 o7.2.2.2.2.2.1 o7.2.2.2.2.2.2.1 o7.2.2.2.2.2.2.2.2.2.2.2.2 o7.2.2.2.2.2.2.2.1 o7.2.2.2.2.2.2.2.2.1 o7.2.2.2.2.2.2.2.2.2.1 o7.2.2.2.2.2.2.2.2.2.2.1 o7.2.2.2.2.2.2.2.2.2.2.2.1 t_told
      else
        if o7.2.2.2.2.1 = (3 : Int32) then
          (f_X5_goBehind F t_bytesLong t_bytes o7.2.2.1 o7.2.2.2.1 o7.2.2.2.2.1 o7.2.2.2.2.2.1).bind fun o9 =>
          (f_X5_read_b26 F t_bytesLong t_bytes n) (v1 + (1 : Int32)) o7.2.1 o9.1 o9.2.1 o9.2.2.1 o9.2.2.2 o7.2.2.2.2.2.2.1 o7.2.2.2.2.2.2.2.2.2.2.2.2 o7.2.2.2.2.2.2.2.1 o7.2.2.2.2.2.2.2.2.1 o7.2.2.2.2.2.2.2.2.2.1 o7.2.2.2.2.2.2.2.2.2.2.1 o7.2.2.2.2.2.2.2.2.2.2.2.1 t_told
        else
          (f_X5_read_b48 F t_bytesLong t_bytes) o7.2.1 o7.2.2.1 o7.2.2.2.1 o7.2.2.2.2.1 o7.2.2.2.2.2.1 o7.2.2.2.2.2.2.1 o7.2.2.2.2.2.2.2.2.2.2.2.2 o7.2.2.2.2.2.2.2.1 o7.2.2.2.2.2.2.2.2.1 o7.2.2.2.2.2.2.2.2.2.1 o7.2.2.2.2.2.2.2.2.2.2.1 o7.2.2.2.2.2.2.2.2.2.2.2.1 t_told
def f_X5_read (F : Nat) (t_bytesLong : Int32) (t_bytes : Nat → Int32) (t_leftBehind : Int32) (t_tokenAt : Int32) (t_tokenLong : Int32) (t_token : Int32) (t_value : Int32) (t_takenHours : Int32) (t_values : Nat → Int32) (t_anew : Nat → Int32) (t_dayGets : Nat → Int32) (t_dayDue : Nat → Int32) (t_ahead : Nat → Int32) (t_gets : Nat → Int32) (t_told : Nat → Int32) : Option (Int32 × Int32 × Int32 × Int32 × Int32 × Int32 × Int32 × (Nat → Int32) × (Nat → Int32) × (Nat → Int32) × (Nat → Int32) × (Nat → Int32) × (Nat → Int32) × (Nat → Int32)) :=
  (f_X5_lookAt F (0 : Int32) t_bytesLong t_bytes t_tokenAt t_tokenLong t_token t_value).bind fun o1 =>
  (f_X5_takesMain F t_bytesLong t_bytes o1.1 o1.2.1 o1.2.2.1 o1.2.2.2 t_values t_anew).bind fun o3 =>
  if o3.1 = 0 then
    some ((-10 : Int32) - o3.2.1, t_leftBehind, o3.2.1, o3.2.2.1, o3.2.2.2.1, o3.2.2.2.2.1, t_takenHours, o3.2.2.2.2.2.1, o3.2.2.2.2.2.2, t_dayGets, t_dayDue, t_ahead, t_gets, t_told)
  else
    (f_X5_goBehind F t_bytesLong t_bytes o3.2.1 o3.2.2.1 o3.2.2.2.1 o3.2.2.2.2.1).bind fun o5 =>
    (f_X5_read_b26 F t_bytesLong t_bytes F) (1 : Int32) t_leftBehind o5.1 o5.2.1 o5.2.2.1 o5.2.2.2 t_takenHours o3.2.2.2.2.2.1 o3.2.2.2.2.2.2 t_dayGets t_dayDue t_ahead t_gets t_told
def f_X5_part (F : Nat) (a1 : Int32) (t_above : Int64) (t_below : Int64) (t_refused : Nat → Int32) : Option (Int64 × (Nat → Int32)) :=
  if a1 = 0 then
    some (t_above, t_refused)
  else
    if a1 = (1 : Int32) then
      some (t_below, t_refused)
    else
      (f_X5_bad F (-2 : Int32) t_refused).bind fun o1 =>
      some (o1.1.toInt64, o1.2)
def f_X5_image_b19 (F : Nat) (a1 : Int32) (t_told : Nat → Int32) : Nat → Int32 → (Nat → Int32) → (Nat → Int32) → (Nat → Int32) → Option (Int32 × (Nat → Int32) × (Nat → Int32) × (Nat → Int32))
  | 0, _, _, _, _ => none
  | n + 1, v2, t_refused, t_isKept, t_kept =>
    if (251 : Int32) ≤ v2 then
      chk (ix a1 2) <|
      some ((1 : Int32), t_refused, upd t_isKept a1.toNatClampNeg (vp_nar .boolean (1 : Int32)), t_kept)
    else
      chk (ix v2 251) <|
      chk (ix (((251 : Int32) * a1) + v2) 502) <|
      (f_X5_image_b19 F a1 t_told n) (v2 + (1 : Int32)) t_refused t_isKept (upd t_kept (((251 : Int32) * a1) + v2).toNatClampNeg (t_told v2.toNatClampNeg))
def f_X5_image (F : Nat) (a1 : Int32) (t_told : Nat → Int32) (t_refused : Nat → Int32) (t_isKept : Nat → Int32) (t_kept : Nat → Int32) : Option (Int32 × (Nat → Int32) × (Nat → Int32) × (Nat → Int32)) :=
  (f_X5_in F a1.toInt64 (0 : Int64) (1 : Int64)).bind fun o1 =>
  if o1 = 0 then
    (f_X5_bad F (-2 : Int32) t_refused).bind fun o3 =>
    some (o3.1, o3.2, t_isKept, t_kept)
  else
    (f_X5_image_b19 F a1 t_told F) (0 : Int32) t_refused t_isKept t_kept
def f_X5_from_b33 (F : Nat) (a1 : Int32) (t_isKept : Nat → Int32) (t_kept : Nat → Int32) : Nat → Int32 → (Nat → Int32) → (Nat → Int32) → Option (Int32 × (Nat → Int32) × (Nat → Int32))
  | 0, _, _, _ => none
  | n + 1, v2, t_refused, t_told =>
    if (251 : Int32) ≤ v2 then
      some ((1 : Int32), t_refused, t_told)
    else
      chk (ix (((251 : Int32) * a1) + v2) 502) <|
      chk (ix v2 251) <|
      (f_X5_from_b33 F a1 t_isKept t_kept n) (v2 + (1 : Int32)) t_refused (upd t_told v2.toNatClampNeg (t_kept (((251 : Int32) * a1) + v2).toNatClampNeg))
def f_X5_from (F : Nat) (a1 : Int32) (t_isKept : Nat → Int32) (t_kept : Nat → Int32) (t_refused : Nat → Int32) (t_told : Nat → Int32) : Option (Int32 × (Nat → Int32) × (Nat → Int32)) :=
  (f_X5_in F a1.toInt64 (0 : Int64) (1 : Int64)).bind fun o1 =>
  if o1 = 0 then
    (f_X5_bad F (-2 : Int32) t_refused).bind fun o6 =>
    some (o6.1, o6.2, t_told)
  else
    chk (ix a1 2) <|
    if (t_isKept a1.toNatClampNeg) = 0 then
      (f_X5_no F t_refused).bind fun o4 =>
      some (o4.1, o4.2, t_told)
    else
      (f_X5_from_b33 F a1 t_isKept t_kept F) (0 : Int32) t_refused t_told
def f_X5_status (F : Nat) (a1 : Int32) (t_refused : Nat → Int32) : Option (Int32 × (Nat → Int32)) :=
  (f_X5_in F a1.toInt64 (0 : Int64) (2 : Int64)).bind fun o1 =>
  if o1 = 0 then
    (f_X5_bad F (-1 : Int32) t_refused).bind fun o3 =>
    some (o3.1, o3.2)
  else
    chk (ix a1 3) <|
    some (t_refused a1.toNatClampNeg, t_refused)
def f_X5_allOf_b4 (F : Nat) (a1 : Int32) (t_told : Nat → Int32) : Nat → Int32 → Int32 → Option (Int32)
  | 0, _, _ => none
  | n + 1, v2, v3 =>
    (f_X5_many F t_told).bind fun o1 =>
    if o1 ≤ v3 then
      some (v2)
    else
      chk (ix (a1 + v3) 251) <|
      (f_X5_allOf_b4 F a1 t_told n) (v2 + (t_told (a1 + v3).toNatClampNeg)) (v3 + (1 : Int32))
def f_X5_allOf (F : Nat) (a1 : Int32) (t_told : Nat → Int32) : Option (Int32) :=
  (f_X5_allOf_b4 F a1 t_told F) (0 : Int32) (0 : Int32)
def f_X5_counted (F : Nat) (a1 : Int32) (t_bytesLong : Int32) (t_told : Nat → Int32) : Option (Int32) :=
  if a1 = (0 : Int32) then
    (f_X5_many F t_told).bind fun o1 =>
    some (o1)
  else
  if a1 = (1 : Int32) then
    chk (ix (24 : Int32) 251) <|
    some (t_told (24 : Int32).toNatClampNeg)
  else
  if a1 = (2 : Int32) then
    chk (ix (25 : Int32) 251) <|
    some (t_told (25 : Int32).toNatClampNeg)
  else
  if a1 = (3 : Int32) then
    (f_X5_allOf F (4 : Int32) t_told).bind fun o5 =>
    some (o5)
  else
  if a1 = (4 : Int32) then
    (f_X5_allOf F (9 : Int32) t_told).bind fun o7 =>
    some (o7)
  else
  if a1 = (5 : Int32) then
    chk (ix (1 : Int32) 251) <|
    some (t_told (1 : Int32).toNatClampNeg)
  else
  if a1 = (6 : Int32) then
    chk (ix (2 : Int32) 251) <|
    some (t_told (2 : Int32).toNatClampNeg)
  else
  if a1 = (7 : Int32) then
    chk (ix (3 : Int32) 251) <|
    some (t_told (3 : Int32).toNatClampNeg)
  else
    some (t_bytesLong)
def f_X5_count (F : Nat) (a1 : Int32) (t_bytesLong : Int32) (t_told : Nat → Int32) (t_refused : Nat → Int32) : Option (Int32 × (Nat → Int32)) :=
  (f_X5_in F a1.toInt64 (0 : Int64) (8 : Int64)).bind fun o1 =>
  if o1 = 0 then
    (f_X5_bad F (-2 : Int32) t_refused).bind fun o3 =>
    some (o3.1, o3.2)
  else
    (f_X5_counted F a1 t_bytesLong t_told).bind fun o5 =>
    some (o5, t_refused)
def f_X5_sums_b6 (F : Nat) (a1 : Int64) (a3 : Int32) (a4 : Int32) (t_told : Nat → Int32) : Nat → Int64 → Int32 → Option (Int64)
  | 0, _, _ => none
  | n + 1, v5, v7 =>
    if a4 ≤ v7 then
      some (v5)
    else
      chk (ix (a3 + v7) 251) <|
      (f_X5_sums_b6 F a1 a3 a4 t_told n) (((31 : Int64) * v5) + ((t_told (a3 + v7).toNatClampNeg).toInt64)) (v7 + (1 : Int32))
def f_X5_sums (F : Nat) (a1 : Int64) (a3 : Int32) (a4 : Int32) (t_told : Nat → Int32) : Option (Int64) :=
  (f_X5_sums_b6 F a1 a3 a4 t_told F) a1 (0 : Int32)
def f_X5_digest_b33 (F : Nat) (t_above : Int64) (t_below : Int64) (t_bytesLong : Int32) (t_told : Nat → Int32) : Nat → Int64 → Int32 → Option (Int64)
  | 0, _, _ => none
  | n + 1, v1, v3 =>
    (f_X5_many F t_told).bind fun o3 =>
    if o3 ≤ v3 then
      chk (ix (1 : Int32) 251) <|
      (f_X5_sums F v1 (31 : Int32) ((2 : Int32) * (t_told (1 : Int32).toNatClampNeg)) t_told).bind fun o6 =>
      chk (ix (2 : Int32) 251) <|
      (f_X5_sums F o6 (39 : Int32) ((6 : Int32) * (t_told (2 : Int32).toNatClampNeg)) t_told).bind fun o9 =>
      some (((31 : Int64) * (((31 : Int64) * o9) + t_above)) + t_below)
    else
      chk (ix ((26 : Int32) + v3) 251) <|
      chk (ix ((19 : Int32) + v3) 251) <|
      chk (ix ((14 : Int32) + v3) 251) <|
      chk (ix ((4 : Int32) + v3) 251) <|
      chk (ix ((9 : Int32) + v3) 251) <|
      (f_X5_digest_b33 F t_above t_below t_bytesLong t_told n) (((31 : Int64) * (((31 : Int64) * (((31 : Int64) * (((31 : Int64) * (((31 : Int64) * v1) + ((t_told ((26 : Int32) + v3).toNatClampNeg).toInt64))) + ((t_told ((19 : Int32) + v3).toNatClampNeg).toInt64))) + ((t_told ((14 : Int32) + v3).toNatClampNeg).toInt64))) + ((t_told ((4 : Int32) + v3).toNatClampNeg).toInt64))) + ((t_told ((9 : Int32) + v3).toNatClampNeg).toInt64)) (v3 + (1 : Int32))
def f_X5_digest_b6 (F : Nat) (t_above : Int64) (t_below : Int64) (t_bytesLong : Int32) (t_told : Nat → Int32) : Nat → Int64 → Int32 → Option (Int64)
  | 0, _, _ => none
  | n + 1, v1, v3 =>
    if (9 : Int32) ≤ v3 then
      (f_X5_digest_b33 F t_above t_below t_bytesLong t_told F) v1 (0 : Int32)
    else
      (f_X5_counted F v3 t_bytesLong t_told).bind fun o1 =>
      (f_X5_digest_b6 F t_above t_below t_bytesLong t_told n) (((31 : Int64) * v1) + o1.toInt64) (v3 + (1 : Int32))
def f_X5_digest (F : Nat) (t_above : Int64) (t_below : Int64) (t_bytesLong : Int32) (t_told : Nat → Int32) : Option (Int64) :=
  (f_X5_digest_b6 F t_above t_below t_bytesLong t_told F) (1439 : Int64) (0 : Int32)
