def f_X0_gets_b22 (F : Nat) (a0 : Int32) (a1 : Int32) (a2 : Int32) (a3 : Int32) (v4 : Int32) (s0 : Int32) : Option (Int32) :=
  if a0 = (2 : Int32) then
    some (s0)
  else
  if a0 = (3 : Int32) then
    some (v4)
  else
  if a0 = (4 : Int32) then
    if (a2 &&& (1 : Int32)) = (1 : Int32) then
      some (v4)
    else
      some ((0 : Int32))
  else
  if a0 = (5 : Int32) then
    some (if a3 < ((2 : Int32) * s0) then a3 else ((2 : Int32) * s0))
  else
    some (v4)
def f_X0_gets (F : Nat) (a0 : Int32) (a1 : Int32) (a2 : Int32) (a3 : Int32) : Option (Int32) :=
  if (10 : Int32) ≤ a3 then
    (f_X0_gets_b22 F a0 a1 a2 a3) (if a3 < a1 then a3 else a1) (if a3 < a1 then a3 else a1)
  else
    (f_X0_gets_b22 F a0 a1 a2 a3) (if a3 < a1 then a3 else a1) ((if a3 < a1 then a3 else a1) / (2 : Int32))
def f_X0_due (F : Nat) (a0 : Int32) (a1 : Int32) : Option (Int32) :=
  if a0 = (1 : Int32) then
    some ((2 : Int32) * a1)
  else
  if a0 = (2 : Int32) then
    some (a1)
  else
  if a0 = (3 : Int32) then
    some ((0 : Int32))
  else
  if a0 = (4 : Int32) then
    some ((2 : Int32) * a1)
  else
  if a0 = (5 : Int32) then
    if a1 < (1 : Int32) then
      some (a1)
    else
      some (a1 + (1 : Int32))
  else
    some (a1)
def f_X1_restart (F : Nat) (a1 : Int32) (t_pressure : Int32) (t_day : Int32) (t_wells : Int32) (t_lefts : Int32) (t_notes : Int32) (t_undos : Int32) : Option (Int32 × Int32 × Int32 × Int32 × Int32 × Int32) :=
  some (a1, (0 : Int32), (0 : Int32), (0 : Int32), (0 : Int32), (0 : Int32))
def f_X1_copyFrom (F : Nat) (p1_pressure : Int32) (p1_day : Int32) (p1_wells : Int32) (p1_lefts : Int32) (p1_notes : Int32) (p1_undos : Int32) (p1_kind : Nat → Int32) (p1_wanted : Nat → Int32) (p1_hours : Nat → Int32) (p1_had : Nat → Int32) (p1_due : Nat → Int32) (p1_leftHour : Nat → Int32) (p1_leftPressure : Nat → Int32) (p1_note : Nat → Int32) (p1_past : Nat → Int32) (t_pressure : Int32) (t_day : Int32) (t_wells : Int32) (t_lefts : Int32) (t_notes : Int32) (t_undos : Int32) (t_kind : Nat → Int32) (t_wanted : Nat → Int32) (t_hours : Nat → Int32) (t_had : Nat → Int32) (t_due : Nat → Int32) (t_leftHour : Nat → Int32) (t_leftPressure : Nat → Int32) (t_note : Nat → Int32) (t_past : Nat → Int32) : Option (Int32 × Int32 × Int32 × Int32 × Int32 × Int32 × (Nat → Int32) × (Nat → Int32) × (Nat → Int32) × (Nat → Int32) × (Nat → Int32) × (Nat → Int32) × (Nat → Int32) × (Nat → Int32) × (Nat → Int32)) :=
  chk (cpo (0 : Int32) (0 : Int32) (5 : Int32) 5 5) <|
  chk (cpo (0 : Int32) (0 : Int32) (5 : Int32) 5 5) <|
  chk (cpo (0 : Int32) (0 : Int32) (5 : Int32) 5 5) <|
  chk (cpo (0 : Int32) (0 : Int32) (5 : Int32) 5 5) <|
  chk (cpo (0 : Int32) (0 : Int32) (5 : Int32) 5 5) <|
  chk (cpo (0 : Int32) (0 : Int32) (4 : Int32) 4 4) <|
  chk (cpo (0 : Int32) (0 : Int32) (4 : Int32) 4 4) <|
  chk (cpo (0 : Int32) (0 : Int32) (36 : Int32) 36 36) <|
  chk (cpo (0 : Int32) (0 : Int32) (176 : Int32) 176 176) <|
  some (p1_pressure, p1_day, p1_wells, p1_lefts, p1_notes, p1_undos, va_cpy p1_kind t_kind (0 : Int32).toNatClampNeg (0 : Int32).toNatClampNeg (5 : Int32).toNatClampNeg, va_cpy p1_wanted t_wanted (0 : Int32).toNatClampNeg (0 : Int32).toNatClampNeg (5 : Int32).toNatClampNeg, va_cpy p1_hours t_hours (0 : Int32).toNatClampNeg (0 : Int32).toNatClampNeg (5 : Int32).toNatClampNeg, va_cpy p1_had t_had (0 : Int32).toNatClampNeg (0 : Int32).toNatClampNeg (5 : Int32).toNatClampNeg, va_cpy p1_due t_due (0 : Int32).toNatClampNeg (0 : Int32).toNatClampNeg (5 : Int32).toNatClampNeg, va_cpy p1_leftHour t_leftHour (0 : Int32).toNatClampNeg (0 : Int32).toNatClampNeg (4 : Int32).toNatClampNeg, va_cpy p1_leftPressure t_leftPressure (0 : Int32).toNatClampNeg (0 : Int32).toNatClampNeg (4 : Int32).toNatClampNeg, va_cpy p1_note t_note (0 : Int32).toNatClampNeg (0 : Int32).toNatClampNeg (36 : Int32).toNatClampNeg, va_cpy p1_past t_past (0 : Int32).toNatClampNeg (0 : Int32).toNatClampNeg (176 : Int32).toNatClampNeg)
def f_X1_has (F : Nat) (a1 : Int32) (t_wells : Int32) : Option (Int32) :=
  if a1 < 0 then
    some ((0 : Int32))
  else
    if t_wells ≤ a1 then
      some ((0 : Int32))
    else
      some ((1 : Int32))
def f_X1_everyWell (F : Nat) (t_wells : Int32) : Option (Int32) :=
  some (((1 : Int32) <<< (t_wells &&& 31)) - (1 : Int32))
def f_X1_addWell (F : Nat) (a1 : Int32) (a2 : Int32) (a3 : Int32) (t_wells : Int32) (t_undos : Int32) (t_kind : Nat → Int32) (t_wanted : Nat → Int32) (t_hours : Nat → Int32) (t_had : Nat → Int32) (t_due : Nat → Int32) : Option (Int32 × Int32 × Int32 × (Nat → Int32) × (Nat → Int32) × (Nat → Int32) × (Nat → Int32) × (Nat → Int32)) :=
  if t_wells < (5 : Int32) then
    chk (ix t_wells 5) <|
    chk (ix t_wells 5) <|
    chk (ix t_wells 5) <|
    chk (ix t_wells 5) <|
    chk (ix t_wells 5) <|
    some ((t_wells + (1 : Int32)) - (1 : Int32), t_wells + (1 : Int32), (0 : Int32), upd t_kind t_wells.toNatClampNeg a1, upd t_wanted t_wells.toNatClampNeg a2, upd t_hours t_wells.toNatClampNeg a3, upd t_had t_wells.toNatClampNeg (0 : Int32), upd t_due t_wells.toNatClampNeg (0 : Int32))
  else
    some ((-4 : Int32), t_wells, t_undos, t_kind, t_wanted, t_hours, t_had, t_due)
def f_X1_addLeft (F : Nat) (a1 : Int32) (a2 : Int32) (t_lefts : Int32) (t_leftHour : Nat → Int32) (t_leftPressure : Nat → Int32) : Option (Int32 × Int32 × (Nat → Int32) × (Nat → Int32)) :=
  if t_lefts < (4 : Int32) then
    chk (ix t_lefts 4) <|
    chk (ix t_lefts 4) <|
    some (t_lefts + (1 : Int32), t_lefts + (1 : Int32), upd t_leftHour t_lefts.toNatClampNeg a1, upd t_leftPressure t_lefts.toNatClampNeg a2)
  else
    some ((-4 : Int32), t_lefts, t_leftHour, t_leftPressure)
def f_X1_addNote (F : Nat) (a1 : Int32) (a2 : Int32) (a3 : Int32) (a4 : Int32) (a5 : Int32) (a6 : Int32) (t_notes : Int32) (t_note : Nat → Int32) : Option (Int32 × Int32 × (Nat → Int32)) :=
  if t_notes < (6 : Int32) then
    chk (ix (t_notes * (6 : Int32)) 36) <|
    chk (ix ((t_notes * (6 : Int32)) + (1 : Int32)) 36) <|
    chk (ix ((t_notes * (6 : Int32)) + (2 : Int32)) 36) <|
    chk (ix ((t_notes * (6 : Int32)) + (3 : Int32)) 36) <|
    chk (ix ((t_notes * (6 : Int32)) + (4 : Int32)) 36) <|
    chk (ix ((t_notes * (6 : Int32)) + (5 : Int32)) 36) <|
    some (t_notes + (1 : Int32), t_notes + (1 : Int32), upd (upd (upd (upd (upd (upd t_note (t_notes * (6 : Int32)).toNatClampNeg a1) ((t_notes * (6 : Int32)) + (1 : Int32)).toNatClampNeg a2) ((t_notes * (6 : Int32)) + (2 : Int32)).toNatClampNeg a3) ((t_notes * (6 : Int32)) + (3 : Int32)).toNatClampNeg a4) ((t_notes * (6 : Int32)) + (4 : Int32)).toNatClampNeg a5) ((t_notes * (6 : Int32)) + (5 : Int32)).toNatClampNeg a6)
  else
    some ((-4 : Int32), t_notes, t_note)
def f_X1_remember_b36 (F : Nat) (t_pressure : Int32) (t_day : Int32) (t_wanted : Nat → Int32) (t_hours : Nat → Int32) (t_had : Nat → Int32) (t_due : Nat → Int32) (t_undos : Int32) (t_past : Nat → Int32) : Option (Int32 × (Nat → Int32)) :=
  chk (ix (t_undos * (22 : Int32)) 176) <|
  chk (ix ((t_undos * (22 : Int32)) + (1 : Int32)) 176) <|
  chk (cpo (0 : Int32) ((t_undos * (22 : Int32)) + (2 : Int32)) (5 : Int32) 5 176) <|
  chk (cpo (0 : Int32) (((t_undos * (22 : Int32)) + (2 : Int32)) + (5 : Int32)) (5 : Int32) 5 176) <|
  chk (cpo (0 : Int32) (((t_undos * (22 : Int32)) + (2 : Int32)) + (10 : Int32)) (5 : Int32) 5 176) <|
  chk (cpo (0 : Int32) (((t_undos * (22 : Int32)) + (2 : Int32)) + (15 : Int32)) (5 : Int32) 5 176) <|
  some (t_undos + (1 : Int32), va_cpy t_due (va_cpy t_had (va_cpy t_hours (va_cpy t_wanted (upd (upd t_past (t_undos * (22 : Int32)).toNatClampNeg t_pressure) ((t_undos * (22 : Int32)) + (1 : Int32)).toNatClampNeg t_day) (0 : Int32).toNatClampNeg ((t_undos * (22 : Int32)) + (2 : Int32)).toNatClampNeg (5 : Int32).toNatClampNeg) (0 : Int32).toNatClampNeg (((t_undos * (22 : Int32)) + (2 : Int32)) + (5 : Int32)).toNatClampNeg (5 : Int32).toNatClampNeg) (0 : Int32).toNatClampNeg (((t_undos * (22 : Int32)) + (2 : Int32)) + (10 : Int32)).toNatClampNeg (5 : Int32).toNatClampNeg) (0 : Int32).toNatClampNeg (((t_undos * (22 : Int32)) + (2 : Int32)) + (15 : Int32)).toNatClampNeg (5 : Int32).toNatClampNeg)
def f_X1_remember (F : Nat) (t_pressure : Int32) (t_day : Int32) (t_wanted : Nat → Int32) (t_hours : Nat → Int32) (t_had : Nat → Int32) (t_due : Nat → Int32) (t_undos : Int32) (t_past : Nat → Int32) : Option (Int32 × (Nat → Int32)) :=
  if t_undos < (8 : Int32) then
    (f_X1_remember_b36 F t_pressure t_day t_wanted t_hours t_had t_due) t_undos t_past
  else
    chk (cpo (22 : Int32) (0 : Int32) ((7 : Int32) * (22 : Int32)) 176 176) <|
    (f_X1_remember_b36 F t_pressure t_day t_wanted t_hours t_had t_due) (7 : Int32) (va_cpy t_past t_past (22 : Int32).toNatClampNeg (0 : Int32).toNatClampNeg ((7 : Int32) * (22 : Int32)).toNatClampNeg)
def f_X1_goBack (F : Nat) (t_past : Nat → Int32) (t_pressure : Int32) (t_day : Int32) (t_undos : Int32) (t_wanted : Nat → Int32) (t_hours : Nat → Int32) (t_had : Nat → Int32) (t_due : Nat → Int32) : Option (Int32 × Int32 × Int32 × (Nat → Int32) × (Nat → Int32) × (Nat → Int32) × (Nat → Int32)) :=
  if 0 < t_undos then
    chk (ix ((t_undos - (1 : Int32)) * (22 : Int32)) 176) <|
    chk (ix (((t_undos - (1 : Int32)) * (22 : Int32)) + (1 : Int32)) 176) <|
    chk (cpo (((t_undos - (1 : Int32)) * (22 : Int32)) + (2 : Int32)) (0 : Int32) (5 : Int32) 176 5) <|
    chk (cpo ((((t_undos - (1 : Int32)) * (22 : Int32)) + (2 : Int32)) + (5 : Int32)) (0 : Int32) (5 : Int32) 176 5) <|
    chk (cpo ((((t_undos - (1 : Int32)) * (22 : Int32)) + (2 : Int32)) + (10 : Int32)) (0 : Int32) (5 : Int32) 176 5) <|
    chk (cpo ((((t_undos - (1 : Int32)) * (22 : Int32)) + (2 : Int32)) + (15 : Int32)) (0 : Int32) (5 : Int32) 176 5) <|
    some (t_past ((t_undos - (1 : Int32)) * (22 : Int32)).toNatClampNeg, t_past (((t_undos - (1 : Int32)) * (22 : Int32)) + (1 : Int32)).toNatClampNeg, t_undos - (1 : Int32), va_cpy t_past t_wanted (((t_undos - (1 : Int32)) * (22 : Int32)) + (2 : Int32)).toNatClampNeg (0 : Int32).toNatClampNeg (5 : Int32).toNatClampNeg, va_cpy t_past t_hours ((((t_undos - (1 : Int32)) * (22 : Int32)) + (2 : Int32)) + (5 : Int32)).toNatClampNeg (0 : Int32).toNatClampNeg (5 : Int32).toNatClampNeg, va_cpy t_past t_had ((((t_undos - (1 : Int32)) * (22 : Int32)) + (2 : Int32)) + (10 : Int32)).toNatClampNeg (0 : Int32).toNatClampNeg (5 : Int32).toNatClampNeg, va_cpy t_past t_due ((((t_undos - (1 : Int32)) * (22 : Int32)) + (2 : Int32)) + (15 : Int32)).toNatClampNeg (0 : Int32).toNatClampNeg (5 : Int32).toNatClampNeg)
  else
    some (t_pressure, t_day, t_undos, t_wanted, t_hours, t_had, t_due)
def f_X1_isOpen (F : Nat) (a1 : Int32) (a2 : Int32) (t_hours : Nat → Int32) : Option (Int32) :=
  chk (ix a1 5) <|
  if (((t_hours a1.toNatClampNeg) >>> (a2 &&& 31)) &&& (1 : Int32)) = (1 : Int32) then
    some ((1 : Int32))
  else
    some ((0 : Int32))
def f_X1_openIn_b27 (F : Nat) (a1 : Int32) (t_wells : Int32) (t_hours : Nat → Int32) (K4 : Int32 → Int32 → Option (Int32)) (v2 : Int32) (v3 : Int32) : Option (Int32) :=
  K4 v2 (v3 + (1 : Int32))
def f_X1_openIn_b4 (F : Nat) (a1 : Int32) (t_wells : Int32) (t_hours : Nat → Int32) : Nat → Int32 → Int32 → Option (Int32)
  | 0, _, _ => none
  | n + 1, v2, v3 =>
    if t_wells ≤ v3 then
      some (v2)
    else
      (f_X1_isOpen F v3 a1 t_hours).bind fun o1 =>
      if o1 = 0 then
        (f_X1_openIn_b27 F a1 t_wells t_hours (f_X1_openIn_b4 F a1 t_wells t_hours n)) v2 v3
      else
        (f_X1_openIn_b27 F a1 t_wells t_hours (f_X1_openIn_b4 F a1 t_wells t_hours n)) (v2 ||| ((1 : Int32) <<< (v3 &&& 31))) v3
def f_X1_openIn (F : Nat) (a1 : Int32) (t_wells : Int32) (t_hours : Nat → Int32) : Option (Int32) :=
  (f_X1_openIn_b4 F a1 t_wells t_hours F) (0 : Int32) (0 : Int32)
def f_X1_runHour_b70 (F : Nat) (a1 : Int32) (a2 : Int32) (a3 : Int32) (t_wells : Int32) (t_kind : Nat → Int32) (t_wanted : Nat → Int32) (K8 : Int32 → Int32 → (Nat → Int32) → (Nat → Int32) → Option (Int32 × (Nat → Int32) × (Nat → Int32))) (v4 : Int32) (s1 : Int32) (s2 : Int32) (t_leftOver : Int32) (t_ahead : Nat → Int32) (t_gets : Nat → Int32) : Option (Int32 × (Nat → Int32) × (Nat → Int32)) :=
  chk (ix s1 5) <|
  chk (ix v4 5) <|
  K8 (v4 + (1 : Int32)) (t_leftOver - ((upd t_gets s1.toNatClampNeg s2) v4.toNatClampNeg)) t_ahead (upd t_gets s1.toNatClampNeg s2)
def f_X1_runHour_b8 (F : Nat) (a1 : Int32) (a2 : Int32) (a3 : Int32) (t_wells : Int32) (t_kind : Nat → Int32) (t_wanted : Nat → Int32) : Nat → Int32 → Int32 → (Nat → Int32) → (Nat → Int32) → Option (Int32 × (Nat → Int32) × (Nat → Int32))
  | 0, _, _, _, _ => none
  | n + 1, v4, t_leftOver, t_ahead, t_gets =>
    if t_wells ≤ v4 then
      some (t_leftOver, t_ahead, t_gets)
    else
      chk (ix v4 5) <|
      if ((a2 >>> (v4 &&& 31)) &&& (1 : Int32)) = (1 : Int32) then
        chk (ix v4 5) <|
        chk (ix v4 5) <|
        (f_X0_gets F (t_kind v4.toNatClampNeg) (t_wanted v4.toNatClampNeg) a1 t_leftOver).bind fun o4 =>
        (f_X1_runHour_b70 F a1 a2 a3 t_wells t_kind t_wanted (f_X1_runHour_b8 F a1 a2 a3 t_wells t_kind t_wanted n)) v4 v4 o4 t_leftOver (upd t_ahead v4.toNatClampNeg t_leftOver) t_gets
      else
        (f_X1_runHour_b70 F a1 a2 a3 t_wells t_kind t_wanted (f_X1_runHour_b8 F a1 a2 a3 t_wells t_kind t_wanted n)) v4 v4 (0 : Int32) t_leftOver (upd t_ahead v4.toNatClampNeg t_leftOver) t_gets
def f_X1_runHour (F : Nat) (a1 : Int32) (a2 : Int32) (a3 : Int32) (t_wells : Int32) (t_kind : Nat → Int32) (t_wanted : Nat → Int32) (t_leftOver : Int32) (t_ahead : Nat → Int32) (t_gets : Nat → Int32) : Option (Int32 × (Nat → Int32) × (Nat → Int32)) :=
  (f_X1_runHour_b8 F a1 a2 a3 t_wells t_kind t_wanted F) (0 : Int32) a3 t_ahead t_gets
def f_X1_passDay_b38 (F : Nat) (t_pressure : Int32) (t_wells : Int32) (t_hours : Nat → Int32) (t_kind : Nat → Int32) (t_wanted : Nat → Int32) (K16 : Int32 → Int32 → Int32 → Int32 → (Nat → Int32) → (Nat → Int32) → (Nat → Int32) → (Nat → Int32) → Option (Int32 × Int32 × Int32 × (Nat → Int32) × (Nat → Int32) × (Nat → Int32) × (Nat → Int32))) : Nat → Int32 → Int32 → Int32 → Int32 → Int32 → (Nat → Int32) → (Nat → Int32) → (Nat → Int32) → (Nat → Int32) → Option (Int32 × Int32 × Int32 × (Nat → Int32) × (Nat → Int32) × (Nat → Int32) × (Nat → Int32))
  | 0, _, _, _, _, _, _, _, _, _ => none
  | n + 1, v1, v2, v3, t_day, t_leftOver, t_ahead, t_gets, t_had, t_due =>
    if t_wells ≤ v3 then
      K16 v1 (v2 + (1 : Int32)) t_day t_leftOver t_ahead t_gets t_had t_due
    else
      chk (ix v3 5) <|
      chk (ix v3 5) <|
      chk (ix v3 5) <|
      chk (ix v3 5) <|
      chk (ix v3 5) <|
      chk (ix v3 5) <|
      (f_X0_due F (t_kind v3.toNatClampNeg) (t_gets v3.toNatClampNeg)).bind fun o11 =>
      chk (ix v3 5) <|
      chk (ix v3 5) <|
      (f_X1_passDay_b38 F t_pressure t_wells t_hours t_kind t_wanted K16 n) (v1 + (t_gets v3.toNatClampNeg)) v2 (v3 + (1 : Int32)) t_day t_leftOver t_ahead t_gets (upd t_had v3.toNatClampNeg ((t_had v3.toNatClampNeg) + (t_gets v3.toNatClampNeg))) (upd t_due v3.toNatClampNeg ((t_due v3.toNatClampNeg) + o11))
def f_X1_passDay_b16 (F : Nat) (t_pressure : Int32) (t_wells : Int32) (t_hours : Nat → Int32) (t_kind : Nat → Int32) (t_wanted : Nat → Int32) : Nat → Int32 → Int32 → Int32 → Int32 → (Nat → Int32) → (Nat → Int32) → (Nat → Int32) → (Nat → Int32) → Option (Int32 × Int32 × Int32 × (Nat → Int32) × (Nat → Int32) × (Nat → Int32) × (Nat → Int32))
  | 0, _, _, _, _, _, _, _, _ => none
  | n + 1, v1, v2, t_day, t_leftOver, t_ahead, t_gets, t_had, t_due =>
    if (8 : Int32) ≤ v2 then
      some (v1, t_day + (1 : Int32), t_leftOver, t_ahead, t_gets, t_had, t_due)
    else
      (f_X1_openIn F v2 t_wells t_hours).bind fun o1 =>
      (f_X1_runHour F v2 o1 t_pressure t_wells t_kind t_wanted t_leftOver t_ahead t_gets).bind fun o3 =>
      (f_X1_passDay_b38 F t_pressure t_wells t_hours t_kind t_wanted (f_X1_passDay_b16 F t_pressure t_wells t_hours t_kind t_wanted n) F) v1 v2 (0 : Int32) t_day o3.1 o3.2.1 o3.2.2 t_had t_due
def f_X1_passDay (F : Nat) (t_pressure : Int32) (t_wells : Int32) (t_hours : Nat → Int32) (t_kind : Nat → Int32) (t_wanted : Nat → Int32) (t_day : Int32) (t_leftOver : Int32) (t_ahead : Nat → Int32) (t_gets : Nat → Int32) (t_had : Nat → Int32) (t_due : Nat → Int32) : Option (Int32 × Int32 × Int32 × (Nat → Int32) × (Nat → Int32) × (Nat → Int32) × (Nat → Int32)) :=
  if t_day < (999 : Int32) then
    (f_X1_passDay_b16 F t_pressure t_wells t_hours t_kind t_wanted F) (0 : Int32) (0 : Int32) t_day t_leftOver t_ahead t_gets t_had t_due
  else
    some ((0 : Int32), t_day, t_leftOver, t_ahead, t_gets, t_had, t_due)
def f_X1_getsAt (F : Nat) (a1 : Int32) (a2 : Int32) (a3 : Int32) (t_wells : Int32) (t_hours : Nat → Int32) (t_kind : Nat → Int32) (t_wanted : Nat → Int32) (t_leftOver : Int32) (t_ahead : Nat → Int32) (t_gets : Nat → Int32) : Option (Int32 × Int32 × (Nat → Int32) × (Nat → Int32)) :=
  (f_X1_openIn F a2 t_wells t_hours).bind fun o1 =>
  (f_X1_runHour F a2 o1 a3 t_wells t_kind t_wanted t_leftOver t_ahead t_gets).bind fun o3 =>
  chk (ix a1 5) <|
  some (o3.2.2 a1.toNatClampNeg, o3.1, o3.2.1, o3.2.2)
def f_X1_dailyGets_b5 (F : Nat) (a1 : Int32) (a2 : Int32) (t_pressure : Int32) (t_wells : Int32) (t_hours : Nat → Int32) (t_kind : Nat → Int32) (t_wanted : Nat → Int32) : Nat → Int32 → Int32 → Int32 → (Nat → Int32) → (Nat → Int32) → Option (Int32 × Int32 × (Nat → Int32) × (Nat → Int32))
  | 0, _, _, _, _, _ => none
  | n + 1, v3, v4, t_leftOver, t_ahead, t_gets =>
    if (8 : Int32) ≤ v4 then
      some (v3, t_leftOver, t_ahead, t_gets)
    else
      (f_X1_openIn F v4 t_wells t_hours).bind fun o1 =>
      (f_X1_runHour F v4 (o1 &&& a2) t_pressure t_wells t_kind t_wanted t_leftOver t_ahead t_gets).bind fun o3 =>
      chk (ix a1 5) <|
      (f_X1_dailyGets_b5 F a1 a2 t_pressure t_wells t_hours t_kind t_wanted n) (v3 + (o3.2.2 a1.toNatClampNeg)) (v4 + (1 : Int32)) o3.1 o3.2.1 o3.2.2
def f_X1_dailyGets (F : Nat) (a1 : Int32) (a2 : Int32) (t_pressure : Int32) (t_wells : Int32) (t_hours : Nat → Int32) (t_kind : Nat → Int32) (t_wanted : Nat → Int32) (t_leftOver : Int32) (t_ahead : Nat → Int32) (t_gets : Nat → Int32) : Option (Int32 × Int32 × (Nat → Int32) × (Nat → Int32)) :=
  (f_X1_dailyGets_b5 F a1 a2 t_pressure t_wells t_hours t_kind t_wanted F) (0 : Int32) (0 : Int32) t_leftOver t_ahead t_gets
def f_X1_dailyDue_b4 (F : Nat) (a1 : Int32) (t_pressure : Int32) (t_wells : Int32) (t_kind : Nat → Int32) (t_hours : Nat → Int32) (t_wanted : Nat → Int32) : Nat → Int32 → Int32 → Int32 → (Nat → Int32) → (Nat → Int32) → Option (Int32 × Int32 × (Nat → Int32) × (Nat → Int32))
  | 0, _, _, _, _, _ => none
  | n + 1, v2, v3, t_leftOver, t_ahead, t_gets =>
    if (8 : Int32) ≤ v3 then
      some (v2, t_leftOver, t_ahead, t_gets)
    else
      chk (ix a1 5) <|
      (f_X1_getsAt F a1 v3 t_pressure t_wells t_hours t_kind t_wanted t_leftOver t_ahead t_gets).bind fun o2 =>
      (f_X0_due F (t_kind a1.toNatClampNeg) o2.1).bind fun o4 =>
      (f_X1_dailyDue_b4 F a1 t_pressure t_wells t_kind t_hours t_wanted n) (v2 + o4) (v3 + (1 : Int32)) o2.2.1 o2.2.2.1 o2.2.2.2
def f_X1_dailyDue (F : Nat) (a1 : Int32) (t_pressure : Int32) (t_wells : Int32) (t_kind : Nat → Int32) (t_hours : Nat → Int32) (t_wanted : Nat → Int32) (t_leftOver : Int32) (t_ahead : Nat → Int32) (t_gets : Nat → Int32) : Option (Int32 × Int32 × (Nat → Int32) × (Nat → Int32)) :=
  (f_X1_dailyDue_b4 F a1 t_pressure t_wells t_kind t_hours t_wanted F) (0 : Int32) (0 : Int32) t_leftOver t_ahead t_gets
def f_X1_dailyOfAll_b4 (F : Nat) (a1 : Int32) (t_wells : Int32) (t_hours : Nat → Int32) (t_kind : Nat → Int32) (t_wanted : Nat → Int32) : Nat → Int32 → Int32 → Int32 → (Nat → Int32) → (Nat → Int32) → Option (Int32 × Int32 × (Nat → Int32) × (Nat → Int32))
  | 0, _, _, _, _, _ => none
  | n + 1, v2, v3, t_leftOver, t_ahead, t_gets =>
    if (8 : Int32) ≤ v3 then
      some (v2, t_leftOver, t_ahead, t_gets)
    else
      (f_X1_openIn F v3 t_wells t_hours).bind fun o1 =>
      (f_X1_runHour F v3 o1 a1 t_wells t_kind t_wanted t_leftOver t_ahead t_gets).bind fun o3 =>
      (f_X1_dailyOfAll_b4 F a1 t_wells t_hours t_kind t_wanted n) (v2 + (a1 - o3.1)) (v3 + (1 : Int32)) o3.1 o3.2.1 o3.2.2
def f_X1_dailyOfAll (F : Nat) (a1 : Int32) (t_wells : Int32) (t_hours : Nat → Int32) (t_kind : Nat → Int32) (t_wanted : Nat → Int32) (t_leftOver : Int32) (t_ahead : Nat → Int32) (t_gets : Nat → Int32) : Option (Int32 × Int32 × (Nat → Int32) × (Nat → Int32)) :=
  (f_X1_dailyOfAll_b4 F a1 t_wells t_hours t_kind t_wanted F) (0 : Int32) (0 : Int32) t_leftOver t_ahead t_gets
def f_X1_swapHours (F : Nat) (a1 : Int32) (a2 : Int32) (t_hours : Nat → Int32) : Option ((Nat → Int32)) :=
  chk (ix a1 5) <|
  chk (ix a2 5) <|
  chk (ix a1 5) <|
  chk (ix a2 5) <|
  some (upd (upd t_hours a1.toNatClampNeg (t_hours a2.toNatClampNeg)) a2.toNatClampNeg (t_hours a1.toNatClampNeg))
def f_X1_sumOf_b4 (F : Nat) (n_p1 : Nat) (t_wells : Int32) (p1 : Nat → Int32) : Nat → Int32 → Int32 → Option (Int32)
  | 0, _, _ => none
  | n + 1, v2, v3 =>
    if t_wells ≤ v3 then
      some (v2)
    else
      if (Int32.ofNat n_p1) ≤ v3 then
        some (v2)
      else
        chk (ix v3 n_p1) <|
        (f_X1_sumOf_b4 F n_p1 t_wells p1 n) (v2 + (p1 v3.toNatClampNeg)) (v3 + (1 : Int32))
def f_X1_sumOf (F : Nat) (n_p1 : Nat) (t_wells : Int32) (p1 : Nat → Int32) : Option (Int32) :=
  (f_X1_sumOf_b4 F n_p1 t_wells p1 F) (0 : Int32) (0 : Int32)
def f_X2_add (F : Nat) (a1 : Int32) (t_length : Int32) (t_text : Nat → Int32) : Option (Int32 × Int32 × (Nat → Int32)) :=
  if t_length < (150 : Int32) then
    chk (ix t_length 150) <|
    some (t_length + (1 : Int32), t_length + (1 : Int32), upd t_text t_length.toNatClampNeg (vp_nar .byte a1.toInt8.toInt32))
  else
    some ((-4 : Int32), t_length, t_text)
def f_X2_isLetter (F : Nat) (a0 : Int32) : Option (Int32) :=
  if a0 < (97 : Int32) then
    some ((0 : Int32))
  else
    if (122 : Int32) < a0 then
      some ((0 : Int32))
    else
      some ((1 : Int32))
def f_X2_isFigure (F : Nat) (a0 : Int32) : Option (Int32) :=
  if a0 < (48 : Int32) then
    some ((0 : Int32))
  else
    if (57 : Int32) < a0 then
      some ((0 : Int32))
    else
      some ((1 : Int32))
def f_X2_takeSign_b21 (F : Nat) (t_text : Nat → Int32) (s1 : Int32) (t_next : Int32) (t_token : Int32) : Option (Int32 × Int32) :=
  some (t_next + (1 : Int32), s1)
def f_X2_takeSign (F : Nat) (t_text : Nat → Int32) (t_next : Int32) (t_token : Int32) : Option (Int32 × Int32) :=
  chk (ix t_next 150) <|
  if (t_text t_next.toNatClampNeg) = (59 : Int32) then
    (f_X2_takeSign_b21 F t_text) (1 : Int32) t_next t_token
  else
    (f_X2_takeSign_b21 F t_text) (7 : Int32) t_next t_token
def f_X2_takeNumber_b68 (F : Nat) (t_start : Int32) (t_length : Int32) (t_text : Nat → Int32) (K5 : Int32 → Int32 → Int32 → Option (Int32 × Int32 × Int32)) (t_next : Int32) (t_token : Int32) (t_value : Int32) : Option (Int32 × Int32 × Int32) :=
  K5 (t_next + (1 : Int32)) t_token t_value
def f_X2_takeNumber_b81 (F : Nat) (t_start : Int32) (t_length : Int32) (t_text : Nat → Int32) (t_next : Int32) (t_token : Int32) (t_value : Int32) : Option (Int32 × Int32 × Int32) :=
  if (2 : Int32) < (t_next - t_start) then
    some (t_next, (7 : Int32), t_value)
  else
    some (t_next, (2 : Int32), t_value)
def f_X2_takeNumber_b5 (F : Nat) (t_start : Int32) (t_length : Int32) (t_text : Nat → Int32) : Nat → Int32 → Int32 → Int32 → Option (Int32 × Int32 × Int32)
  | 0, _, _, _ => none
  | n + 1, t_next, t_token, t_value =>
    if t_length ≤ t_next then
      (f_X2_takeNumber_b81 F t_start t_length t_text) t_next t_token t_value
    else
      chk (ix t_next 150) <|
      (f_X2_isFigure F (t_text t_next.toNatClampNeg)).bind fun o2 =>
      if o2 = 0 then
        (f_X2_takeNumber_b81 F t_start t_length t_text) t_next t_token t_value
      else
        if (2 : Int32) ≤ (t_next - t_start) then
          (f_X2_takeNumber_b68 F t_start t_length t_text (f_X2_takeNumber_b5 F t_start t_length t_text n)) t_next t_token t_value
        else
          chk (ix t_next 150) <|
          (f_X2_takeNumber_b68 F t_start t_length t_text (f_X2_takeNumber_b5 F t_start t_length t_text n)) t_next t_token ((((10 : Int32) * t_value) + (t_text t_next.toNatClampNeg)) - (48 : Int32))
def f_X2_takeNumber (F : Nat) (t_start : Int32) (t_length : Int32) (t_text : Nat → Int32) (t_next : Int32) (t_token : Int32) (t_value : Int32) : Option (Int32 × Int32 × Int32) :=
  (f_X2_takeNumber_b5 F t_start t_length t_text F) t_next t_token (0 : Int32)
def f_X2_takeWord_b71 (F : Nat) (t_start : Int32) (t_length : Int32) (t_text : Nat → Int32) (v1 : Int32) (t_next : Int32) (t_token : Int32) : Option (Int32 × Int32) :=
  if v1 = (6578553 : Int32) then
    some (t_next, (6 : Int32))
  else
  if v1 = (1835100526 : Int32) then
    some (t_next, (3 : Int32))
  else
  if v1 = (1953854062 : Int32) then
    some (t_next, (5 : Int32))
  else
  if v1 = (2003135596 : Int32) then
    some (t_next, (4 : Int32))
  else
    some (t_next, (7 : Int32))
def f_X2_takeWord_b56 (F : Nat) (t_start : Int32) (t_length : Int32) (t_text : Nat → Int32) (v1 : Int32) (t_next : Int32) (t_token : Int32) : Option (Int32 × Int32) :=
  if (t_next - t_start) ≤ (4 : Int32) then
    (f_X2_takeWord_b71 F t_start t_length t_text) v1 t_next t_token
  else
    (f_X2_takeWord_b71 F t_start t_length t_text) (0 : Int32) t_next t_token
def f_X2_takeWord_b2 (F : Nat) (t_start : Int32) (t_length : Int32) (t_text : Nat → Int32) : Nat → Int32 → Int32 → Int32 → Option (Int32 × Int32)
  | 0, _, _, _ => none
  | n + 1, v1, t_next, t_token =>
    if t_length ≤ t_next then
      (f_X2_takeWord_b56 F t_start t_length t_text) v1 t_next t_token
    else
      chk (ix t_next 150) <|
      (f_X2_isLetter F (t_text t_next.toNatClampNeg)).bind fun o2 =>
      if o2 = 0 then
        (f_X2_takeWord_b56 F t_start t_length t_text) v1 t_next t_token
      else
        chk (ix t_next 150) <|
        (f_X2_takeWord_b2 F t_start t_length t_text n) ((v1 <<< ((8 : Int32) &&& 31)) ||| (t_text t_next.toNatClampNeg)) (t_next + (1 : Int32)) t_token
def f_X2_takeWord (F : Nat) (t_start : Int32) (t_length : Int32) (t_text : Nat → Int32) (t_next : Int32) (t_token : Int32) : Option (Int32 × Int32) :=
  (f_X2_takeWord_b2 F t_start t_length t_text F) (0 : Int32) t_next t_token
def f_X2_step_b38 (F : Nat) (t_length : Int32) (t_text : Nat → Int32) (t_start : Int32) (t_next : Int32) (t_token : Int32) (t_value : Int32) : Option (Int32 × Int32 × Int32 × Int32) :=
  if t_next < t_length then
    chk (ix t_next 150) <|
    (f_X2_isLetter F (t_text t_next.toNatClampNeg)).bind fun o3 =>
    if o3 = 0 then
      chk (ix t_next 150) <|
      (f_X2_isFigure F (t_text t_next.toNatClampNeg)).bind fun o6 =>
      if o6 = 0 then
        (f_X2_takeSign F t_text t_next t_token).bind fun o8 =>
        some (t_next, o8.1, o8.2, t_value)
      else
        (f_X2_takeNumber F t_next t_length t_text t_next t_token t_value).bind fun o10 =>
        some (t_next, o10.1, o10.2.1, o10.2.2)
    else
      (f_X2_takeWord F t_next t_length t_text t_next t_token).bind fun o12 =>
      some (t_next, o12.1, o12.2, t_value)
  else
    some (t_next, t_next, (0 : Int32), t_value)
def f_X2_step_b0 (F : Nat) (t_length : Int32) (t_text : Nat → Int32) : Nat → Int32 → Int32 → Int32 → Int32 → Option (Int32 × Int32 × Int32 × Int32)
  | 0, _, _, _, _ => none
  | n + 1, t_start, t_next, t_token, t_value =>
    if t_length ≤ t_next then
      (f_X2_step_b38 F t_length t_text) t_start t_next t_token t_value
    else
      chk (ix t_next 150) <|
      if (t_text t_next.toNatClampNeg) = (32 : Int32) then
        (f_X2_step_b0 F t_length t_text n) t_start (t_next + (1 : Int32)) t_token t_value
      else
        (f_X2_step_b38 F t_length t_text) t_start t_next t_token t_value
def f_X2_step (F : Nat) (t_length : Int32) (t_text : Nat → Int32) (t_start : Int32) (t_next : Int32) (t_token : Int32) (t_value : Int32) : Option (Int32 × Int32 × Int32 × Int32) :=
  (f_X2_step_b0 F t_length t_text F) t_start t_next t_token t_value
def f_X2_isNumber (F : Nat) (a1 : Int32) (a2 : Int32) (t_token : Int32) (t_value : Int32) : Option (Int32) :=
  if t_token = (2 : Int32) then
    if t_value < a1 then
      some ((0 : Int32))
    else
      if a2 < t_value then
        some ((0 : Int32))
      else
        some ((1 : Int32))
  else
    some ((0 : Int32))
def f_X2_semicolon (F : Nat) (t_length : Int32) (t_text : Nat → Int32) (t_start : Int32) (t_next : Int32) (t_token : Int32) (t_value : Int32) : Option (Int32 × Int32 × Int32 × Int32 × Int32) :=
  if t_token = (1 : Int32) then
    (f_X2_step F t_length t_text t_start t_next t_token t_value).bind fun o1 =>
    some ((1 : Int32), o1.1, o1.2.1, o1.2.2.1, o1.2.2.2)
  else
    some ((0 : Int32), t_start, t_next, t_token, t_value)
def f_X2_mainItem (F : Nat) (t_length : Int32) (t_text : Nat → Int32) (t_start : Int32) (t_next : Int32) (t_token : Int32) (t_value : Int32) (t_draft_pressure : Int32) : Option (Int32 × Int32 × Int32 × Int32 × Int32 × Int32) :=
  if t_token = (3 : Int32) then
    (f_X2_step F t_length t_text t_start t_next t_token t_value).bind fun o1 =>
    (f_X2_isNumber F (0 : Int32) (60 : Int32) o1.2.2.1 o1.2.2.2).bind fun o3 =>
    if o3 = 0 then
      some ((0 : Int32), o1.1, o1.2.1, o1.2.2.1, o1.2.2.2, t_draft_pressure)
    else
      (f_X2_step F t_length t_text o1.1 o1.2.1 o1.2.2.1 o1.2.2.2).bind fun o5 =>
      (f_X2_semicolon F t_length t_text o5.1 o5.2.1 o5.2.2.1 o5.2.2.2).bind fun o7 =>
      chk (bo o7.1) <|
      some (o7.1, o7.2.1, o7.2.2.1, o7.2.2.2.1, o7.2.2.2.2, o1.2.2.2)
  else
    some ((0 : Int32), t_start, t_next, t_token, t_value, t_draft_pressure)
def f_X2_dayItem (F : Nat) (t_length : Int32) (t_text : Nat → Int32) (t_draft_pressure : Int32) (t_draft_wells : Int32) (t_draft_hours : Nat → Int32) (t_draft_kind : Nat → Int32) (t_draft_wanted : Nat → Int32) (t_start : Int32) (t_next : Int32) (t_token : Int32) (t_value : Int32) (t_draft_day : Int32) (t_draft_leftOver : Int32) (t_draft_ahead : Nat → Int32) (t_draft_gets : Nat → Int32) (t_draft_had : Nat → Int32) (t_draft_due : Nat → Int32) : Option (Int32 × Int32 × Int32 × Int32 × Int32 × Int32 × Int32 × (Nat → Int32) × (Nat → Int32) × (Nat → Int32) × (Nat → Int32)) :=
  if t_token = (6 : Int32) then
    (f_X2_step F t_length t_text t_start t_next t_token t_value).bind fun o1 =>
    (f_X2_semicolon F t_length t_text o1.1 o1.2.1 o1.2.2.1 o1.2.2.2).bind fun o3 =>
    if o3.1 = 0 then
      some ((0 : Int32), o3.2.1, o3.2.2.1, o3.2.2.2.1, o3.2.2.2.2, t_draft_day, t_draft_leftOver, t_draft_ahead, t_draft_gets, t_draft_had, t_draft_due)
    else
      (f_X1_passDay F t_draft_pressure t_draft_wells t_draft_hours t_draft_kind t_draft_wanted t_draft_day t_draft_leftOver t_draft_ahead t_draft_gets t_draft_had t_draft_due).bind fun o5 =>
      some ((1 : Int32), o3.2.1, o3.2.2.1, o3.2.2.2.1, o3.2.2.2.2, o5.2.1, o5.2.2.1, o5.2.2.2.1, o5.2.2.2.2.1, o5.2.2.2.2.2.1, o5.2.2.2.2.2.2)
  else
    some ((0 : Int32), t_start, t_next, t_token, t_value, t_draft_day, t_draft_leftOver, t_draft_ahead, t_draft_gets, t_draft_had, t_draft_due)
def f_X2_readHours_b4 (F : Nat) (t_length : Int32) (t_text : Nat → Int32) : Nat → Int32 → Int32 → Int32 → Int32 → Int32 → Int32 → Option (Int32 × Int32 × Int32 × Int32 × Int32)
  | 0, _, _, _, _, _, _ => none
  | n + 1, v1, v2, t_start, t_next, t_token, t_value =>
    if t_length ≤ v2 then
      some (v1, t_start, t_next, t_token, t_value)
    else
      (f_X2_isNumber F (0 : Int32) (7 : Int32) t_token t_value).bind fun o1 =>
      if o1 = 0 then
        some (v1, t_start, t_next, t_token, t_value)
      else
        (f_X2_step F t_length t_text t_start t_next t_token t_value).bind fun o3 =>
        (f_X2_readHours_b4 F t_length t_text n) (v1 ||| ((1 : Int32) <<< (t_value &&& 31))) (v2 + (1 : Int32)) o3.1 o3.2.1 o3.2.2.1 o3.2.2.2
def f_X2_readHours (F : Nat) (t_length : Int32) (t_text : Nat → Int32) (t_start : Int32) (t_next : Int32) (t_token : Int32) (t_value : Int32) : Option (Int32 × Int32 × Int32 × Int32 × Int32) :=
  (f_X2_readHours_b4 F t_length t_text F) (0 : Int32) (0 : Int32) t_start t_next t_token t_value
def f_X2_turnItem (F : Nat) (t_length : Int32) (t_text : Nat → Int32) (t_draft_wells : Int32) (t_start : Int32) (t_next : Int32) (t_token : Int32) (t_value : Int32) (t_draft_hours : Nat → Int32) : Option (Int32 × Int32 × Int32 × Int32 × Int32 × (Nat → Int32)) :=
  if t_token = (5 : Int32) then
    (f_X2_step F t_length t_text t_start t_next t_token t_value).bind fun o1 =>
    (f_X2_isNumber F (0 : Int32) (t_draft_wells - (1 : Int32)) o1.2.2.1 o1.2.2.2).bind fun o3 =>
    if o3 = 0 then
      some ((0 : Int32), o1.1, o1.2.1, o1.2.2.1, o1.2.2.2, t_draft_hours)
    else
      (f_X2_step F t_length t_text o1.1 o1.2.1 o1.2.2.1 o1.2.2.2).bind fun o5 =>
      (f_X2_readHours F t_length t_text o5.1 o5.2.1 o5.2.2.1 o5.2.2.2).bind fun o7 =>
      (f_X2_semicolon F t_length t_text o7.2.1 o7.2.2.1 o7.2.2.2.1 o7.2.2.2.2).bind fun o9 =>
      if o9.1 = 0 then
        some ((0 : Int32), o9.2.1, o9.2.2.1, o9.2.2.2.1, o9.2.2.2.2, t_draft_hours)
      else
        chk (ix o1.2.2.2 5) <|
        some ((1 : Int32), o9.2.1, o9.2.2.1, o9.2.2.2.1, o9.2.2.2.2, upd t_draft_hours o1.2.2.2.toNatClampNeg o7.1)
  else
    some ((0 : Int32), t_start, t_next, t_token, t_value, t_draft_hours)
def f_X2_wellItem (F : Nat) (t_length : Int32) (t_text : Nat → Int32) (t_start : Int32) (t_next : Int32) (t_token : Int32) (t_value : Int32) (t_draft_wells : Int32) (t_draft_undos : Int32) (t_draft_kind : Nat → Int32) (t_draft_wanted : Nat → Int32) (t_draft_hours : Nat → Int32) (t_draft_had : Nat → Int32) (t_draft_due : Nat → Int32) : Option (Int32 × Int32 × Int32 × Int32 × Int32 × Int32 × Int32 × (Nat → Int32) × (Nat → Int32) × (Nat → Int32) × (Nat → Int32) × (Nat → Int32)) :=
  if t_token = (4 : Int32) then
    if t_draft_wells < (5 : Int32) then
      (f_X2_step F t_length t_text t_start t_next t_token t_value).bind fun o1 =>
      (f_X2_isNumber F (0 : Int32) (5 : Int32) o1.2.2.1 o1.2.2.2).bind fun o3 =>
      if o3 = 0 then
        some ((0 : Int32), o1.1, o1.2.1, o1.2.2.1, o1.2.2.2, t_draft_wells, t_draft_undos, t_draft_kind, t_draft_wanted, t_draft_hours, t_draft_had, t_draft_due)
      else
        (f_X2_step F t_length t_text o1.1 o1.2.1 o1.2.2.1 o1.2.2.2).bind fun o5 =>
        (f_X2_isNumber F (1 : Int32) (20 : Int32) o5.2.2.1 o5.2.2.2).bind fun o7 =>
        if o7 = 0 then
          some ((0 : Int32), o5.1, o5.2.1, o5.2.2.1, o5.2.2.2, t_draft_wells, t_draft_undos, t_draft_kind, t_draft_wanted, t_draft_hours, t_draft_had, t_draft_due)
        else
          (f_X2_step F t_length t_text o5.1 o5.2.1 o5.2.2.1 o5.2.2.2).bind fun o9 =>
          (f_X2_readHours F t_length t_text o9.1 o9.2.1 o9.2.2.1 o9.2.2.2).bind fun o11 =>
          (f_X2_semicolon F t_length t_text o11.2.1 o11.2.2.1 o11.2.2.2.1 o11.2.2.2.2).bind fun o13 =>
          if o13.1 = 0 then
            some ((0 : Int32), o13.2.1, o13.2.2.1, o13.2.2.2.1, o13.2.2.2.2, t_draft_wells, t_draft_undos, t_draft_kind, t_draft_wanted, t_draft_hours, t_draft_had, t_draft_due)
          else
            (f_X1_addWell F o1.2.2.2 o5.2.2.2 o11.1 t_draft_wells t_draft_undos t_draft_kind t_draft_wanted t_draft_hours t_draft_had t_draft_due).bind fun o15 =>
            some ((1 : Int32), o13.2.1, o13.2.2.1, o13.2.2.2.1, o13.2.2.2.2, o15.2.1, o15.2.2.1, o15.2.2.2.1, o15.2.2.2.2.1, o15.2.2.2.2.2.1, o15.2.2.2.2.2.2.1, o15.2.2.2.2.2.2.2)
    else
      some ((0 : Int32), t_start, t_next, t_token, t_value, t_draft_wells, t_draft_undos, t_draft_kind, t_draft_wanted, t_draft_hours, t_draft_had, t_draft_due)
  else
    some ((0 : Int32), t_start, t_next, t_token, t_value, t_draft_wells, t_draft_undos, t_draft_kind, t_draft_wanted, t_draft_hours, t_draft_had, t_draft_due)
def f_X2_parse_b78 (F : Nat) (t_length : Int32) (t_text : Nat → Int32) (K29 : Int32 → Int32 → Int32 → Int32 → Int32 → Int32 → Int32 → Int32 → Int32 → Int32 → Int32 → Int32 → (Nat → Int32) → (Nat → Int32) → (Nat → Int32) → (Nat → Int32) → (Nat → Int32) → (Nat → Int32) → (Nat → Int32) → Option (Int32 × Int32 × Int32 × Int32 × Int32 × Int32 × Int32 × Int32 × Int32 × Int32 × Int32 × Int32 × (Nat → Int32) × (Nat → Int32) × (Nat → Int32) × (Nat → Int32) × (Nat → Int32) × (Nat → Int32) × (Nat → Int32))) (v1 : Int32) (s0 : Int32) (t_start : Int32) (t_next : Int32) (t_token : Int32) (t_value : Int32) (t_draft_pressure : Int32) (t_draft_day : Int32) (t_draft_wells : Int32) (t_draft_lefts : Int32) (t_draft_notes : Int32) (t_draft_undos : Int32) (t_draft_leftOver : Int32) (t_draft_hours : Nat → Int32) (t_draft_ahead : Nat → Int32) (t_draft_kind : Nat → Int32) (t_draft_wanted : Nat → Int32) (t_draft_gets : Nat → Int32) (t_draft_had : Nat → Int32) (t_draft_due : Nat → Int32) : Option (Int32 × Int32 × Int32 × Int32 × Int32 × Int32 × Int32 × Int32 × Int32 × Int32 × Int32 × Int32 × (Nat → Int32) × (Nat → Int32) × (Nat → Int32) × (Nat → Int32) × (Nat → Int32) × (Nat → Int32) × (Nat → Int32)) :=
  if s0 = 0 then
    some ((-1 : Int32), t_start, t_next, t_token, t_value, t_draft_pressure, t_draft_day, t_draft_wells, t_draft_lefts, t_draft_notes, t_draft_undos, t_draft_leftOver, t_draft_hours, t_draft_ahead, t_draft_kind, t_draft_wanted, t_draft_gets, t_draft_had, t_draft_due)
  else
    K29 (v1 + (1 : Int32)) t_start t_next t_token t_value t_draft_pressure t_draft_day t_draft_wells t_draft_lefts t_draft_notes t_draft_undos t_draft_leftOver t_draft_hours t_draft_ahead t_draft_kind t_draft_wanted t_draft_gets t_draft_had t_draft_due
def f_X2_parse_b29 (F : Nat) (t_length : Int32) (t_text : Nat → Int32) : Nat → Int32 → Int32 → Int32 → Int32 → Int32 → Int32 → Int32 → Int32 → Int32 → Int32 → Int32 → Int32 → (Nat → Int32) → (Nat → Int32) → (Nat → Int32) → (Nat → Int32) → (Nat → Int32) → (Nat → Int32) → (Nat → Int32) → Option (Int32 × Int32 × Int32 × Int32 × Int32 × Int32 × Int32 × Int32 × Int32 × Int32 × Int32 × Int32 × (Nat → Int32) × (Nat → Int32) × (Nat → Int32) × (Nat → Int32) × (Nat → Int32) × (Nat → Int32) × (Nat → Int32))
  | 0, _, _, _, _, _, _, _, _, _, _, _, _, _, _, _, _, _, _, _ => none
  | n + 1, v1, t_start, t_next, t_token, t_value, t_draft_pressure, t_draft_day, t_draft_wells, t_draft_lefts, t_draft_notes, t_draft_undos, t_draft_leftOver, t_draft_hours, t_draft_ahead, t_draft_kind, t_draft_wanted, t_draft_gets, t_draft_had, t_draft_due =>
    if t_length < v1 then
      some (v1, t_start, t_next, t_token, t_value, t_draft_pressure, t_draft_day, t_draft_wells, t_draft_lefts, t_draft_notes, t_draft_undos, t_draft_leftOver, t_draft_hours, t_draft_ahead, t_draft_kind, t_draft_wanted, t_draft_gets, t_draft_had, t_draft_due)
    else
      if t_token = 0 then
        some (v1, t_start, t_next, t_token, t_value, t_draft_pressure, t_draft_day, t_draft_wells, t_draft_lefts, t_draft_notes, t_draft_undos, t_draft_leftOver, t_draft_hours, t_draft_ahead, t_draft_kind, t_draft_wanted, t_draft_gets, t_draft_had, t_draft_due)
      else
        if t_token = (4 : Int32) then
          (f_X2_wellItem F t_length t_text t_start t_next t_token t_value t_draft_wells t_draft_undos t_draft_kind t_draft_wanted t_draft_hours t_draft_had t_draft_due).bind fun o11 =>
          (f_X2_parse_b78 F t_length t_text (f_X2_parse_b29 F t_length t_text n)) v1 o11.1 o11.2.1 o11.2.2.1 o11.2.2.2.1 o11.2.2.2.2.1 t_draft_pressure t_draft_day o11.2.2.2.2.2.1 t_draft_lefts t_draft_notes o11.2.2.2.2.2.2.1 t_draft_leftOver o11.2.2.2.2.2.2.2.2.2.1 t_draft_ahead o11.2.2.2.2.2.2.2.1 o11.2.2.2.2.2.2.2.2.1 t_draft_gets o11.2.2.2.2.2.2.2.2.2.2.1 o11.2.2.2.2.2.2.2.2.2.2.2
        else
          if t_token = (5 : Int32) then
            (f_X2_turnItem F t_length t_text t_draft_wells t_start t_next t_token t_value t_draft_hours).bind fun o9 =>
            (f_X2_parse_b78 F t_length t_text (f_X2_parse_b29 F t_length t_text n)) v1 o9.1 o9.2.1 o9.2.2.1 o9.2.2.2.1 o9.2.2.2.2.1 t_draft_pressure t_draft_day t_draft_wells t_draft_lefts t_draft_notes t_draft_undos t_draft_leftOver o9.2.2.2.2.2 t_draft_ahead t_draft_kind t_draft_wanted t_draft_gets t_draft_had t_draft_due
          else
            (f_X2_dayItem F t_length t_text t_draft_pressure t_draft_wells t_draft_hours t_draft_kind t_draft_wanted t_start t_next t_token t_value t_draft_day t_draft_leftOver t_draft_ahead t_draft_gets t_draft_had t_draft_due).bind fun o7 =>
            (f_X2_parse_b78 F t_length t_text (f_X2_parse_b29 F t_length t_text n)) v1 o7.1 o7.2.1 o7.2.2.1 o7.2.2.2.1 o7.2.2.2.2.1 t_draft_pressure o7.2.2.2.2.2.1 t_draft_wells t_draft_lefts t_draft_notes t_draft_undos o7.2.2.2.2.2.2.1 t_draft_hours o7.2.2.2.2.2.2.2.1 t_draft_kind t_draft_wanted o7.2.2.2.2.2.2.2.2.1 o7.2.2.2.2.2.2.2.2.2.1 o7.2.2.2.2.2.2.2.2.2.2
def f_X2_parse (F : Nat) (t_length : Int32) (t_text : Nat → Int32) (t_start : Int32) (t_next : Int32) (t_token : Int32) (t_value : Int32) (t_draft_pressure : Int32) (t_draft_day : Int32) (t_draft_wells : Int32) (t_draft_lefts : Int32) (t_draft_notes : Int32) (t_draft_undos : Int32) (t_draft_leftOver : Int32) (t_draft_hours : Nat → Int32) (t_draft_ahead : Nat → Int32) (t_draft_kind : Nat → Int32) (t_draft_wanted : Nat → Int32) (t_draft_gets : Nat → Int32) (t_draft_had : Nat → Int32) (t_draft_due : Nat → Int32) : Option (Int32 × Int32 × Int32 × Int32 × Int32 × Int32 × Int32 × Int32 × Int32 × Int32 × Int32 × Int32 × (Nat → Int32) × (Nat → Int32) × (Nat → Int32) × (Nat → Int32) × (Nat → Int32) × (Nat → Int32) × (Nat → Int32)) :=
  (f_X1_restart F (30 : Int32) t_draft_pressure t_draft_day t_draft_wells t_draft_lefts t_draft_notes t_draft_undos).bind fun o1 =>
  (f_X2_step F t_length t_text t_start (0 : Int32) t_token t_value).bind fun o3 =>
  (f_X2_mainItem F t_length t_text o3.1 o3.2.1 o3.2.2.1 o3.2.2.2 o1.1).bind fun o5 =>
  if o5.1 = 0 then
    some ((-1 : Int32), o5.2.1, o5.2.2.1, o5.2.2.2.1, o5.2.2.2.2.1, o5.2.2.2.2.2, o1.2.1, o1.2.2.1, o1.2.2.2.1, o1.2.2.2.2.1, o1.2.2.2.2.2, t_draft_leftOver, t_draft_hours, t_draft_ahead, t_draft_kind, t_draft_wanted, t_draft_gets, t_draft_had, t_draft_due)
  else
    (f_X2_parse_b29 F t_length t_text F) (1 : Int32) o5.2.1 o5.2.2.1 o5.2.2.2.1 o5.2.2.2.2.1 o5.2.2.2.2.2 o1.2.1 o1.2.2.1 o1.2.2.2.1 o1.2.2.2.2.1 o1.2.2.2.2.2 t_draft_leftOver t_draft_hours t_draft_ahead t_draft_kind t_draft_wanted t_draft_gets t_draft_had t_draft_due
def f_X3_isLikeAnEarlierOne_b4 (F : Nat) (a1 : Int32) (t_rest : Nat → Int32) : Nat → Int32 → Option (Int32)
  | 0, _ => none
  | n + 1, v2 =>
    if v2 < 0 then
      some ((0 : Int32))
    else
      chk (ix v2 8) <|
      chk (ix a1 8) <|
      if (t_rest v2.toNatClampNeg) = (t_rest a1.toNatClampNeg) then
        some ((1 : Int32))
      else
        (f_X3_isLikeAnEarlierOne_b4 F a1 t_rest n) (v2 + (-2 : Int32))
def f_X3_isLikeAnEarlierOne (F : Nat) (a1 : Int32) (t_rest : Nat → Int32) : Option (Int32) :=
  (f_X3_isLikeAnEarlierOne_b4 F a1 t_rest F) (a1 - (2 : Int32))
def f_X3_keepIfBetter_b16 (F : Nat) (a1 : Int32) (t_way : Nat → Int32) (t_found : Int32) (t_bestWorth : Int32) (t_bestWay : Nat → Int32) : Option (Int32 × Int32 × (Nat → Int32)) :=
  chk (cpo (0 : Int32) (0 : Int32) (5 : Int32) 5 5) <|
  some ((1 : Int32), a1, va_cpy t_way t_bestWay (0 : Int32).toNatClampNeg (0 : Int32).toNatClampNeg (5 : Int32).toNatClampNeg)
def f_X3_keepIfBetter (F : Nat) (a1 : Int32) (t_way : Nat → Int32) (t_found : Int32) (t_bestWorth : Int32) (t_bestWay : Nat → Int32) : Option (Int32 × Int32 × (Nat → Int32)) :=
  if t_found = 0 then
    (f_X3_keepIfBetter_b16 F a1 t_way) t_found t_bestWorth t_bestWay
  else
    if t_bestWorth < a1 then
      (f_X3_keepIfBetter_b16 F a1 t_way) t_found t_bestWorth t_bestWay
    else
      some (t_found, t_bestWorth, t_bestWay)
def f_X3_choose_b13 (F : Nat) (a2 : Int32) (a3 : Int32) (p1_wells : Int32) (p1_kind : Nat → Int32) (p1_wanted : Nat → Int32) (p0_byDue : Int32) (p0_mustGet : Nat → Int32) (rec : Int32 → Int32 → Int32 → (Nat → Int32) → (Nat → Int32) → Int32 → (Nat → Int32) → Int32 → Int32 → (Nat → Int32) → (Nat → Int32) → (Nat → Int32) → Option (Int32 × Int32 × (Nat → Int32) × (Nat → Int32) × (Nat → Int32))) (p0_found : Int32) (p0_bestWorth : Int32) (p0_rest : Nat → Int32) (p0_way : Nat → Int32) (p0_bestWay : Nat → Int32) : Option (Int32 × Int32 × (Nat → Int32) × (Nat → Int32) × (Nat → Int32)) :=
  (f_X3_keepIfBetter F a3 p0_way p0_found p0_bestWorth p0_bestWay).bind fun o1 =>
  some (o1.1, o1.2.1, p0_rest, p0_way, o1.2.2)
def f_X3_choose_b130 (F : Nat) (a2 : Int32) (a3 : Int32) (p1_wells : Int32) (p1_kind : Nat → Int32) (p1_wanted : Nat → Int32) (p0_byDue : Int32) (p0_mustGet : Nat → Int32) (rec : Int32 → Int32 → Int32 → (Nat → Int32) → (Nat → Int32) → Int32 → (Nat → Int32) → Int32 → Int32 → (Nat → Int32) → (Nat → Int32) → (Nat → Int32) → Option (Int32 × Int32 × (Nat → Int32) × (Nat → Int32) × (Nat → Int32))) (K145 : Int32 → Int32 → Int32 → (Nat → Int32) → (Nat → Int32) → (Nat → Int32) → Option (Int32 × Int32 × (Nat → Int32) × (Nat → Int32) × (Nat → Int32))) (v4 : Int32) (v5 : Int32) (s2 : Int32) (s3 : Int32) (p0_found : Int32) (p0_bestWorth : Int32) (p0_rest : Nat → Int32) (p0_way : Nat → Int32) (p0_bestWay : Nat → Int32) : Option (Int32 × Int32 × (Nat → Int32) × (Nat → Int32) × (Nat → Int32)) :=
  (rec s2 s3 p1_wells p1_kind p1_wanted p0_byDue p0_mustGet p0_found p0_bestWorth p0_rest p0_way p0_bestWay).bind fun o17 =>
  chk (ix v4 8) <|
  chk (ix v4 8) <|
  K145 v4 o17.1 o17.2.1 (upd o17.2.2.1 v4.toNatClampNeg ((o17.2.2.1 v4.toNatClampNeg) + v5)) o17.2.2.2.1 o17.2.2.2.2
def f_X3_choose_b145 (F : Nat) (a2 : Int32) (a3 : Int32) (p1_wells : Int32) (p1_kind : Nat → Int32) (p1_wanted : Nat → Int32) (p0_byDue : Int32) (p0_mustGet : Nat → Int32) (rec : Int32 → Int32 → Int32 → (Nat → Int32) → (Nat → Int32) → Int32 → (Nat → Int32) → Int32 → Int32 → (Nat → Int32) → (Nat → Int32) → (Nat → Int32) → Option (Int32 × Int32 × (Nat → Int32) × (Nat → Int32) × (Nat → Int32))) (K22 : Int32 → Int32 → Int32 → (Nat → Int32) → (Nat → Int32) → (Nat → Int32) → Option (Int32 × Int32 × (Nat → Int32) × (Nat → Int32) × (Nat → Int32))) (v4 : Int32) (p0_found : Int32) (p0_bestWorth : Int32) (p0_rest : Nat → Int32) (p0_way : Nat → Int32) (p0_bestWay : Nat → Int32) : Option (Int32 × Int32 × (Nat → Int32) × (Nat → Int32) × (Nat → Int32)) :=
  K22 (v4 + (1 : Int32)) p0_found p0_bestWorth p0_rest p0_way p0_bestWay
def f_X3_choose_b22 (F : Nat) (a2 : Int32) (a3 : Int32) (p1_wells : Int32) (p1_kind : Nat → Int32) (p1_wanted : Nat → Int32) (p0_byDue : Int32) (p0_mustGet : Nat → Int32) (rec : Int32 → Int32 → Int32 → (Nat → Int32) → (Nat → Int32) → Int32 → (Nat → Int32) → Int32 → Int32 → (Nat → Int32) → (Nat → Int32) → (Nat → Int32) → Option (Int32 × Int32 × (Nat → Int32) × (Nat → Int32) × (Nat → Int32))) : Nat → Int32 → Int32 → Int32 → (Nat → Int32) → (Nat → Int32) → (Nat → Int32) → Option (Int32 × Int32 × (Nat → Int32) × (Nat → Int32) × (Nat → Int32))
  | 0, _, _, _, _, _, _ => none
  | n + 1, v4, p0_found, p0_bestWorth, p0_rest, p0_way, p0_bestWay =>
    if (8 : Int32) ≤ v4 then
      some (p0_found, p0_bestWorth, p0_rest, p0_way, p0_bestWay)
    else
      chk (ix a2 5) <|
      chk (ix a2 5) <|
      chk (ix v4 8) <|
      (f_X0_gets F (p1_kind a2.toNatClampNeg) (p1_wanted a2.toNatClampNeg) v4 (p0_rest v4.toNatClampNeg)).bind fun o6 =>
      chk (ix a2 5) <|
      if o6 < (p0_mustGet a2.toNatClampNeg) then
        (f_X3_choose_b145 F a2 a3 p1_wells p1_kind p1_wanted p0_byDue p0_mustGet rec (f_X3_choose_b22 F a2 a3 p1_wells p1_kind p1_wanted p0_byDue p0_mustGet rec n)) v4 p0_found p0_bestWorth p0_rest p0_way p0_bestWay
      else
        (f_X3_isLikeAnEarlierOne F v4 p0_rest).bind fun o9 =>
        if o9 = 0 then
          chk (ix a2 5) <|
          chk (ix v4 8) <|
          chk (ix v4 8) <|
          if p0_byDue = 0 then
            (f_X3_choose_b130 F a2 a3 p1_wells p1_kind p1_wanted p0_byDue p0_mustGet rec (f_X3_choose_b145 F a2 a3 p1_wells p1_kind p1_wanted p0_byDue p0_mustGet rec (f_X3_choose_b22 F a2 a3 p1_wells p1_kind p1_wanted p0_byDue p0_mustGet rec n))) v4 o6 (a2 + (1 : Int32)) (a3 + o6) p0_found p0_bestWorth (upd p0_rest v4.toNatClampNeg ((p0_rest v4.toNatClampNeg) - o6)) (upd p0_way a2.toNatClampNeg v4) p0_bestWay
          else
            chk (ix a2 5) <|
            (f_X0_due F (p1_kind a2.toNatClampNeg) o6).bind fun o15 =>
            (f_X3_choose_b130 F a2 a3 p1_wells p1_kind p1_wanted p0_byDue p0_mustGet rec (f_X3_choose_b145 F a2 a3 p1_wells p1_kind p1_wanted p0_byDue p0_mustGet rec (f_X3_choose_b22 F a2 a3 p1_wells p1_kind p1_wanted p0_byDue p0_mustGet rec n))) v4 o6 (a2 + (1 : Int32)) (a3 - o15) p0_found p0_bestWorth (upd p0_rest v4.toNatClampNeg ((p0_rest v4.toNatClampNeg) - o6)) (upd p0_way a2.toNatClampNeg v4) p0_bestWay
        else
          (f_X3_choose_b145 F a2 a3 p1_wells p1_kind p1_wanted p0_byDue p0_mustGet rec (f_X3_choose_b22 F a2 a3 p1_wells p1_kind p1_wanted p0_byDue p0_mustGet rec n)) v4 p0_found p0_bestWorth p0_rest p0_way p0_bestWay
def f_X3_choose (F : Nat) : Nat → Int32 → Int32 → Int32 → (Nat → Int32) → (Nat → Int32) → Int32 → (Nat → Int32) → Int32 → Int32 → (Nat → Int32) → (Nat → Int32) → (Nat → Int32) → Option (Int32 × Int32 × (Nat → Int32) × (Nat → Int32) × (Nat → Int32))
  | 0, _, _, _, _, _, _, _, _, _, _, _, _ => none
  | d + 1, a2, a3, p1_wells, p1_kind, p1_wanted, p0_byDue, p0_mustGet, p0_found, p0_bestWorth, p0_rest, p0_way, p0_bestWay =>
    if p1_wells ≤ a2 then
      (f_X3_choose_b13 F a2 a3 p1_wells p1_kind p1_wanted p0_byDue p0_mustGet (f_X3_choose F d)) p0_found p0_bestWorth p0_rest p0_way p0_bestWay
    else
      if a2 < (5 : Int32) then
        (f_X3_choose_b22 F a2 a3 p1_wells p1_kind p1_wanted p0_byDue p0_mustGet (f_X3_choose F d) F) (0 : Int32) p0_found p0_bestWorth p0_rest p0_way p0_bestWay
      else
        (f_X3_choose_b13 F a2 a3 p1_wells p1_kind p1_wanted p0_byDue p0_mustGet (f_X3_choose F d)) p0_found p0_bestWorth p0_rest p0_way p0_bestWay
def f_X3_start_b12 (F : Nat) (t_byDue : Int32) (p1_pressure : Int32) (p1_wells : Int32) (p1_kind : Nat → Int32) (p1_wanted : Nat → Int32) (t_mustGet : Nat → Int32) : Nat → Int32 → Int32 → Int32 → (Nat → Int32) → (Nat → Int32) → (Nat → Int32) → Option (Int32 × Int32 × (Nat → Int32) × (Nat → Int32) × (Nat → Int32))
  | 0, _, _, _, _, _, _ => none
  | n + 1, v2, t_found, t_bestWorth, t_rest, t_way, t_bestWay =>
    if (8 : Int32) ≤ v2 then
      (f_X3_choose F 6 (0 : Int32) (0 : Int32) p1_wells p1_kind p1_wanted t_byDue t_mustGet t_found t_bestWorth t_rest t_way t_bestWay).bind fun o1 =>
      some (o1.1, o1.2.1, o1.2.2.1, o1.2.2.2.1, o1.2.2.2.2)
    else
      chk (ix v2 8) <|
      (f_X3_start_b12 F t_byDue p1_pressure p1_wells p1_kind p1_wanted t_mustGet n) (v2 + (1 : Int32)) t_found t_bestWorth (upd t_rest v2.toNatClampNeg p1_pressure) t_way t_bestWay
def f_X3_start (F : Nat) (t_byDue : Int32) (p1_pressure : Int32) (p1_wells : Int32) (p1_kind : Nat → Int32) (p1_wanted : Nat → Int32) (t_mustGet : Nat → Int32) (t_found : Int32) (t_bestWorth : Int32) (t_rest : Nat → Int32) (t_way : Nat → Int32) (t_bestWay : Nat → Int32) : Option (Int32 × Int32 × (Nat → Int32) × (Nat → Int32) × (Nat → Int32)) :=
  (f_X3_start_b12 F t_byDue p1_pressure p1_wells p1_kind p1_wanted t_mustGet F) (0 : Int32) (0 : Int32) (0 : Int32) t_rest t_way t_bestWay
def f_X3_mostHad_b7 (F : Nat) (p1_pressure : Int32) (p1_wells : Int32) (p1_kind : Nat → Int32) (p1_wanted : Nat → Int32) : Nat → Int32 → Int32 → Int32 → Int32 → (Nat → Int32) → (Nat → Int32) → (Nat → Int32) → (Nat → Int32) → Option (Int32 × Int32 × Int32 × (Nat → Int32) × (Nat → Int32) × (Nat → Int32) × (Nat → Int32))
  | 0, _, _, _, _, _, _, _, _ => none
  | n + 1, v2, t_found, t_bestWorth, t_byDue, t_rest, t_mustGet, t_way, t_bestWay =>
    if p1_wells ≤ v2 then
      (f_X3_start F t_byDue p1_pressure p1_wells p1_kind p1_wanted t_mustGet t_found t_bestWorth t_rest t_way t_bestWay).bind fun o1 =>
      some (o1.1, o1.2.1, t_byDue, o1.2.2.1, t_mustGet, o1.2.2.2.1, o1.2.2.2.2)
    else
      chk (ix v2 5) <|
      (f_X3_mostHad_b7 F p1_pressure p1_wells p1_kind p1_wanted n) (v2 + (1 : Int32)) t_found t_bestWorth t_byDue t_rest (upd t_mustGet v2.toNatClampNeg (0 : Int32)) t_way t_bestWay
def f_X3_mostHad (F : Nat) (p1_pressure : Int32) (p1_wells : Int32) (p1_kind : Nat → Int32) (p1_wanted : Nat → Int32) (t_found : Int32) (t_bestWorth : Int32) (t_byDue : Int32) (t_rest : Nat → Int32) (t_mustGet : Nat → Int32) (t_way : Nat → Int32) (t_bestWay : Nat → Int32) : Option (Int32 × Int32 × Int32 × (Nat → Int32) × (Nat → Int32) × (Nat → Int32) × (Nat → Int32)) :=
  (f_X3_mostHad_b7 F p1_pressure p1_wells p1_kind p1_wanted F) (0 : Int32) t_found t_bestWorth (0 : Int32) t_rest t_mustGet t_way t_bestWay
def f_X3_bestAlone_b4 (F : Nat) (a1 : Int32) (p0_pressure : Int32) (p0_kind : Nat → Int32) (p0_wanted : Nat → Int32) : Nat → Int32 → Int32 → Option (Int32)
  | 0, _, _ => none
  | n + 1, v2, v3 =>
    if (8 : Int32) ≤ v3 then
      some (v2)
    else
      chk (ix a1 5) <|
      chk (ix a1 5) <|
      (f_X0_gets F (p0_kind a1.toNatClampNeg) (p0_wanted a1.toNatClampNeg) v3 p0_pressure).bind fun o3 =>
      (f_X3_bestAlone_b4 F a1 p0_pressure p0_kind p0_wanted n) (if v2 < o3 then o3 else v2) (v3 + (1 : Int32))
def f_X3_bestAlone (F : Nat) (a1 : Int32) (p0_pressure : Int32) (p0_kind : Nat → Int32) (p0_wanted : Nat → Int32) : Option (Int32) :=
  (f_X3_bestAlone_b4 F a1 p0_pressure p0_kind p0_wanted F) (0 : Int32) (0 : Int32)
def f_X3_leastDue_b7 (F : Nat) (p1_pressure : Int32) (p1_wells : Int32) (p1_kind : Nat → Int32) (p1_wanted : Nat → Int32) : Nat → Int32 → Int32 → Int32 → Int32 → (Nat → Int32) → (Nat → Int32) → (Nat → Int32) → (Nat → Int32) → Option (Int32 × Int32 × Int32 × (Nat → Int32) × (Nat → Int32) × (Nat → Int32) × (Nat → Int32))
  | 0, _, _, _, _, _, _, _, _ => none
  | n + 1, v2, t_found, t_bestWorth, t_byDue, t_rest, t_mustGet, t_way, t_bestWay =>
    if p1_wells ≤ v2 then
      (f_X3_start F t_byDue p1_pressure p1_wells p1_kind p1_wanted t_mustGet t_found t_bestWorth t_rest t_way t_bestWay).bind fun o1 =>
      some (o1.1, o1.2.1, t_byDue, o1.2.2.1, t_mustGet, o1.2.2.2.1, o1.2.2.2.2)
    else
      (f_X3_bestAlone F v2 p1_pressure p1_kind p1_wanted).bind fun o3 =>
      chk (ix v2 5) <|
      (f_X3_leastDue_b7 F p1_pressure p1_wells p1_kind p1_wanted n) (v2 + (1 : Int32)) t_found t_bestWorth t_byDue t_rest (upd t_mustGet v2.toNatClampNeg o3) t_way t_bestWay
def f_X3_leastDue (F : Nat) (p1_pressure : Int32) (p1_wells : Int32) (p1_kind : Nat → Int32) (p1_wanted : Nat → Int32) (t_found : Int32) (t_bestWorth : Int32) (t_byDue : Int32) (t_rest : Nat → Int32) (t_mustGet : Nat → Int32) (t_way : Nat → Int32) (t_bestWay : Nat → Int32) : Option (Int32 × Int32 × Int32 × (Nat → Int32) × (Nat → Int32) × (Nat → Int32) × (Nat → Int32)) :=
  (f_X3_leastDue_b7 F p1_pressure p1_wells p1_kind p1_wanted F) (0 : Int32) t_found t_bestWorth (1 : Int32) t_rest t_mustGet t_way t_bestWay
def f_X4_within (F : Nat) (a0 : Int32) (a1 : Int32) (a2 : Int32) : Option (Int32) :=
  if a0 < a1 then
    some ((0 : Int32))
  else
    if a2 < a0 then
      some ((0 : Int32))
    else
      some ((1 : Int32))
def f_X4_isPressure (F : Nat) (a0 : Int32) : Option (Int32) :=
  (f_X4_within F a0 (0 : Int32) (60 : Int32)).bind fun o1 =>
  chk (bo o1) <|
  some (o1)
def f_X4_bad (F : Nat) (t_bads : Int32) : Option (Int32 × Int32) :=
  some ((-2 : Int32), t_bads + (1 : Int32))
def f_X4_board (F : Nat) (a1 : Int32) (t_bads : Int32) (t_now_pressure : Int32) (t_now_day : Int32) (t_now_wells : Int32) (t_now_lefts : Int32) (t_now_notes : Int32) (t_now_undos : Int32) : Option (Int32 × Int32 × Int32 × Int32 × Int32 × Int32 × Int32 × Int32) :=
  (f_X4_isPressure F a1).bind fun o1 =>
  if o1 = 0 then
    (f_X4_bad F t_bads).bind fun o5 =>
    some (o5.1, o5.2, t_now_pressure, t_now_day, t_now_wells, t_now_lefts, t_now_notes, t_now_undos)
  else
    (f_X1_restart F a1 t_now_pressure t_now_day t_now_wells t_now_lefts t_now_notes t_now_undos).bind fun o3 =>
    some (t_now_wells, t_bads, o3.1, o3.2.1, o3.2.2.1, o3.2.2.2.1, o3.2.2.2.2.1, o3.2.2.2.2.2)
def f_X4_isWanted (F : Nat) (a0 : Int32) : Option (Int32) :=
  (f_X4_within F a0 (1 : Int32) (20 : Int32)).bind fun o1 =>
  chk (bo o1) <|
  some (o1)
def f_X4_full (F : Nat) (t_fulls : Int32) : Option (Int32 × Int32) :=
  some ((-4 : Int32), t_fulls + (1 : Int32))
def f_X4_well_b27 (F : Nat) (a1 : Int32) (a2 : Int32) (a3 : Int32) (t_bads : Int32) (t_fulls : Int32) (t_now_wells : Int32) (t_now_undos : Int32) (t_now_kind : Nat → Int32) (t_now_wanted : Nat → Int32) (t_now_hours : Nat → Int32) (t_now_had : Nat → Int32) (t_now_due : Nat → Int32) : Option (Int32 × Int32 × Int32 × Int32 × Int32 × (Nat → Int32) × (Nat → Int32) × (Nat → Int32) × (Nat → Int32) × (Nat → Int32)) :=
  (f_X4_bad F t_bads).bind fun o11 =>
  some (o11.1, o11.2, t_fulls, t_now_wells, t_now_undos, t_now_kind, t_now_wanted, t_now_hours, t_now_had, t_now_due)
def f_X4_well (F : Nat) (a1 : Int32) (a2 : Int32) (a3 : Int32) (t_bads : Int32) (t_fulls : Int32) (t_now_wells : Int32) (t_now_undos : Int32) (t_now_kind : Nat → Int32) (t_now_wanted : Nat → Int32) (t_now_hours : Nat → Int32) (t_now_had : Nat → Int32) (t_now_due : Nat → Int32) : Option (Int32 × Int32 × Int32 × Int32 × Int32 × (Nat → Int32) × (Nat → Int32) × (Nat → Int32) × (Nat → Int32) × (Nat → Int32)) :=
  (f_X4_within F a1 (0 : Int32) (5 : Int32)).bind fun o1 =>
  if o1 = 0 then
    (f_X4_well_b27 F a1 a2 a3) t_bads t_fulls t_now_wells t_now_undos t_now_kind t_now_wanted t_now_hours t_now_had t_now_due
  else
    (f_X4_isWanted F a2).bind fun o3 =>
    if o3 = 0 then
      (f_X4_well_b27 F a1 a2 a3) t_bads t_fulls t_now_wells t_now_undos t_now_kind t_now_wanted t_now_hours t_now_had t_now_due
    else
      (f_X4_within F a3 (0 : Int32) (255 : Int32)).bind fun o5 =>
      if o5 = 0 then
        (f_X4_well_b27 F a1 a2 a3) t_bads t_fulls t_now_wells t_now_undos t_now_kind t_now_wanted t_now_hours t_now_had t_now_due
      else
        if t_now_wells < (5 : Int32) then
          (f_X1_addWell F a1 a2 a3 t_now_wells t_now_undos t_now_kind t_now_wanted t_now_hours t_now_had t_now_due).bind fun o7 =>
          some (o7.1, t_bads, t_fulls, o7.2.1, o7.2.2.1, o7.2.2.2.1, o7.2.2.2.2.1, o7.2.2.2.2.2.1, o7.2.2.2.2.2.2.1, o7.2.2.2.2.2.2.2)
        else
          (f_X4_full F t_fulls).bind fun o9 =>
          some (o9.1, t_bads, o9.2, t_now_wells, t_now_undos, t_now_kind, t_now_wanted, t_now_hours, t_now_had, t_now_due)
def f_X4_type (F : Nat) (a1 : Int32) (t_bads : Int32) (t_fulls : Int32) (t_reader_length : Int32) (t_reader_text : Nat → Int32) : Option (Int32 × Int32 × Int32 × Int32 × (Nat → Int32)) :=
  (f_X4_within F a1 (0 : Int32) (127 : Int32)).bind fun o1 =>
  if o1 = 0 then
    (f_X4_bad F t_bads).bind fun o7 =>
    some (o7.1, o7.2, t_fulls, t_reader_length, t_reader_text)
  else
    if t_reader_length < (150 : Int32) then
      (f_X2_add F a1 t_reader_length t_reader_text).bind fun o3 =>
      some (o3.1, t_bads, t_fulls, o3.2.1, o3.2.2)
    else
      (f_X4_full F t_fulls).bind fun o5 =>
      some (o5.1, t_bads, o5.2, t_reader_length, t_reader_text)
def f_X4_clear (F : Nat) (t_reader_length : Int32) : Option (Int32 × Int32) :=
  some (t_reader_length, (0 : Int32))
def f_X4_read (F : Nat) (t_reader_length : Int32) (t_reader_text : Nat → Int32) (t_reader_draft_leftHour : Nat → Int32) (t_reader_draft_leftPressure : Nat → Int32) (t_reader_draft_note : Nat → Int32) (t_reader_draft_past : Nat → Int32) (t_reader_start : Int32) (t_reader_next : Int32) (t_reader_token : Int32) (t_reader_value : Int32) (t_reader_draft_pressure : Int32) (t_reader_draft_day : Int32) (t_reader_draft_wells : Int32) (t_reader_draft_lefts : Int32) (t_reader_draft_notes : Int32) (t_reader_draft_undos : Int32) (t_reader_draft_leftOver : Int32) (t_reader_draft_hours : Nat → Int32) (t_reader_draft_ahead : Nat → Int32) (t_reader_draft_kind : Nat → Int32) (t_reader_draft_wanted : Nat → Int32) (t_reader_draft_gets : Nat → Int32) (t_reader_draft_had : Nat → Int32) (t_reader_draft_due : Nat → Int32) (t_now_pressure : Int32) (t_now_day : Int32) (t_now_wells : Int32) (t_now_lefts : Int32) (t_now_notes : Int32) (t_now_undos : Int32) (t_now_kind : Nat → Int32) (t_now_wanted : Nat → Int32) (t_now_hours : Nat → Int32) (t_now_had : Nat → Int32) (t_now_due : Nat → Int32) (t_now_leftHour : Nat → Int32) (t_now_leftPressure : Nat → Int32) (t_now_note : Nat → Int32) (t_now_past : Nat → Int32) : Option (Int32 × Int32 × Int32 × Int32 × Int32 × Int32 × Int32 × Int32 × Int32 × Int32 × Int32 × Int32 × (Nat → Int32) × (Nat → Int32) × (Nat → Int32) × (Nat → Int32) × (Nat → Int32) × (Nat → Int32) × (Nat → Int32) × Int32 × Int32 × Int32 × Int32 × Int32 × Int32 × (Nat → Int32) × (Nat → Int32) × (Nat → Int32) × (Nat → Int32) × (Nat → Int32) × (Nat → Int32) × (Nat → Int32) × (Nat → Int32) × (Nat → Int32)) :=
  (f_X2_parse F t_reader_length t_reader_text t_reader_start t_reader_next t_reader_token t_reader_value t_reader_draft_pressure t_reader_draft_day t_reader_draft_wells t_reader_draft_lefts t_reader_draft_notes t_reader_draft_undos t_reader_draft_leftOver t_reader_draft_hours t_reader_draft_ahead t_reader_draft_kind t_reader_draft_wanted t_reader_draft_gets t_reader_draft_had t_reader_draft_due).bind fun o1 =>
  if o1.1 = (-1 : Int32) then
    some ((-10 : Int32) - o1.2.1, o1.2.1, o1.2.2.1, o1.2.2.2.1, o1.2.2.2.2.1, o1.2.2.2.2.2.1, o1.2.2.2.2.2.2.1, o1.2.2.2.2.2.2.2.1, o1.2.2.2.2.2.2.2.2.1, o1.2.2.2.2.2.2.2.2.2.1, o1.2.2.2.2.2.2.2.2.2.2.1, o1.2.2.2.2.2.2.2.2.2.2.2.1, o1.2.2.2.2.2.2.2.2.2.2.2.2.1, o1.2.2.2.2.2.2.2.2.2.2.2.2.2.1, o1.2.2.2.2.2.2.2.2.2.2.2.2.2.2.1, o1.2.2.2.2.2.2.2.2.2.2.2.2.2.2.2.1, o1.2.2.2.2.2.2.2.2.2.2.2.2.2.2.2.2.1, o1.2.2.2.2.2.2.2.2.2.2.2.2.2.2.2.2.2.1, o1.2.2.2.2.2.2.2.2.2.2.2.2.2.2.2.2.2.2, t_now_pressure, t_now_day, t_now_wells, t_now_lefts, t_now_notes, t_now_undos, t_now_kind, t_now_wanted, t_now_hours, t_now_had, t_now_due, t_now_leftHour, t_now_leftPressure, t_now_note, t_now_past)
  else
    (f_X1_copyFrom F o1.2.2.2.2.2.1 o1.2.2.2.2.2.2.1 o1.2.2.2.2.2.2.2.1 o1.2.2.2.2.2.2.2.2.1 o1.2.2.2.2.2.2.2.2.2.1 o1.2.2.2.2.2.2.2.2.2.2.1 o1.2.2.2.2.2.2.2.2.2.2.2.2.2.2.1 o1.2.2.2.2.2.2.2.2.2.2.2.2.2.2.2.1 o1.2.2.2.2.2.2.2.2.2.2.2.2.1 o1.2.2.2.2.2.2.2.2.2.2.2.2.2.2.2.2.2.1 o1.2.2.2.2.2.2.2.2.2.2.2.2.2.2.2.2.2.2 t_reader_draft_leftHour t_reader_draft_leftPressure t_reader_draft_note t_reader_draft_past t_now_pressure t_now_day t_now_wells t_now_lefts t_now_notes t_now_undos t_now_kind t_now_wanted t_now_hours t_now_had t_now_due t_now_leftHour t_now_leftPressure t_now_note t_now_past).bind fun o3 =>
    some (o1.1, o1.2.1, o1.2.2.1, o1.2.2.2.1, o1.2.2.2.2.1, o1.2.2.2.2.2.1, o1.2.2.2.2.2.2.1, o1.2.2.2.2.2.2.2.1, o1.2.2.2.2.2.2.2.2.1, o1.2.2.2.2.2.2.2.2.2.1, o1.2.2.2.2.2.2.2.2.2.2.1, o1.2.2.2.2.2.2.2.2.2.2.2.1, o1.2.2.2.2.2.2.2.2.2.2.2.2.1, o1.2.2.2.2.2.2.2.2.2.2.2.2.2.1, o1.2.2.2.2.2.2.2.2.2.2.2.2.2.2.1, o1.2.2.2.2.2.2.2.2.2.2.2.2.2.2.2.1, o1.2.2.2.2.2.2.2.2.2.2.2.2.2.2.2.2.1, o1.2.2.2.2.2.2.2.2.2.2.2.2.2.2.2.2.2.1, o1.2.2.2.2.2.2.2.2.2.2.2.2.2.2.2.2.2.2, o3.1, o3.2.1, o3.2.2.1, o3.2.2.2.1, o3.2.2.2.2.1, o3.2.2.2.2.2.1, o3.2.2.2.2.2.2.1, o3.2.2.2.2.2.2.2.1, o3.2.2.2.2.2.2.2.2.1, o3.2.2.2.2.2.2.2.2.2.1, o3.2.2.2.2.2.2.2.2.2.2.1, o3.2.2.2.2.2.2.2.2.2.2.2.1, o3.2.2.2.2.2.2.2.2.2.2.2.2.1, o3.2.2.2.2.2.2.2.2.2.2.2.2.2.1, o3.2.2.2.2.2.2.2.2.2.2.2.2.2.2)
def f_X4_day_b26 (F : Nat) (a1 : Int32) (t_now_pressure : Int32) (t_now_wells : Int32) (t_now_wanted : Nat → Int32) (t_now_hours : Nat → Int32) (t_now_kind : Nat → Int32) : Nat → Int32 → Int32 → Int32 → Int32 → Int32 → Int32 → (Nat → Int32) → (Nat → Int32) → (Nat → Int32) → (Nat → Int32) → (Nat → Int32) → Option (Int32 × Int32 × Int32 × Int32 × Int32 × (Nat → Int32) × (Nat → Int32) × (Nat → Int32) × (Nat → Int32) × (Nat → Int32))
  | 0, _, _, _, _, _, _, _, _, _, _, _ => none
  | n + 1, v2, v3, t_bads, t_now_day, t_now_undos, t_now_leftOver, t_now_past, t_now_had, t_now_due, t_now_ahead, t_now_gets =>
    if a1 ≤ v3 then
      some (v2, t_bads, t_now_day, t_now_undos, t_now_leftOver, t_now_past, t_now_had, t_now_due, t_now_ahead, t_now_gets)
    else
      (f_X1_passDay F t_now_pressure t_now_wells t_now_hours t_now_kind t_now_wanted t_now_day t_now_leftOver t_now_ahead t_now_gets t_now_had t_now_due).bind fun o7 =>
      (f_X4_day_b26 F a1 t_now_pressure t_now_wells t_now_wanted t_now_hours t_now_kind n) (v2 + o7.1) (v3 + (1 : Int32)) t_bads o7.2.1 t_now_undos o7.2.2.1 t_now_past o7.2.2.2.2.2.1 o7.2.2.2.2.2.2 o7.2.2.2.1 o7.2.2.2.2.1
def f_X4_day (F : Nat) (a1 : Int32) (t_now_pressure : Int32) (t_now_wells : Int32) (t_now_wanted : Nat → Int32) (t_now_hours : Nat → Int32) (t_now_kind : Nat → Int32) (t_bads : Int32) (t_now_day : Int32) (t_now_undos : Int32) (t_now_leftOver : Int32) (t_now_past : Nat → Int32) (t_now_had : Nat → Int32) (t_now_due : Nat → Int32) (t_now_ahead : Nat → Int32) (t_now_gets : Nat → Int32) : Option (Int32 × Int32 × Int32 × Int32 × Int32 × (Nat → Int32) × (Nat → Int32) × (Nat → Int32) × (Nat → Int32) × (Nat → Int32)) :=
  (f_X4_within F a1 (1 : Int32) (30 : Int32)).bind fun o1 =>
  if o1 = 0 then
    (f_X4_bad F t_bads).bind fun o5 =>
    some (o5.1, o5.2, t_now_day, t_now_undos, t_now_leftOver, t_now_past, t_now_had, t_now_due, t_now_ahead, t_now_gets)
  else
    (f_X1_remember F t_now_pressure t_now_day t_now_wanted t_now_hours t_now_had t_now_due t_now_undos t_now_past).bind fun o3 =>
    (f_X4_day_b26 F a1 t_now_pressure t_now_wells t_now_wanted t_now_hours t_now_kind F) (0 : Int32) (0 : Int32) t_bads t_now_day o3.1 t_now_leftOver o3.2 t_now_had t_now_due t_now_ahead t_now_gets
def f_X4_turn_b22 (F : Nat) (a1 : Int32) (a2 : Int32) (t_now_pressure : Int32) (t_now_day : Int32) (t_now_wells : Int32) (t_now_wanted : Nat → Int32) (t_now_had : Nat → Int32) (t_now_due : Nat → Int32) (t_bads : Int32) (t_now_undos : Int32) (t_now_past : Nat → Int32) (t_now_hours : Nat → Int32) : Option (Int32 × Int32 × Int32 × (Nat → Int32) × (Nat → Int32)) :=
  (f_X4_bad F t_bads).bind fun o9 =>
  some (o9.1, o9.2, t_now_undos, t_now_past, t_now_hours)
def f_X4_turn (F : Nat) (a1 : Int32) (a2 : Int32) (t_now_pressure : Int32) (t_now_day : Int32) (t_now_wells : Int32) (t_now_wanted : Nat → Int32) (t_now_had : Nat → Int32) (t_now_due : Nat → Int32) (t_bads : Int32) (t_now_undos : Int32) (t_now_past : Nat → Int32) (t_now_hours : Nat → Int32) : Option (Int32 × Int32 × Int32 × (Nat → Int32) × (Nat → Int32)) :=
  (f_X1_has F a1 t_now_wells).bind fun o1 =>
  if o1 = 0 then
    (f_X4_turn_b22 F a1 a2 t_now_pressure t_now_day t_now_wells t_now_wanted t_now_had t_now_due) t_bads t_now_undos t_now_past t_now_hours
  else
    (f_X4_within F a2 (0 : Int32) (255 : Int32)).bind fun o3 =>
    if o3 = 0 then
      (f_X4_turn_b22 F a1 a2 t_now_pressure t_now_day t_now_wells t_now_wanted t_now_had t_now_due) t_bads t_now_undos t_now_past t_now_hours
    else
      (f_X1_remember F t_now_pressure t_now_day t_now_wanted t_now_hours t_now_had t_now_due t_now_undos t_now_past).bind fun o5 =>
      chk (ix a1 5) <|
      chk (ix a1 5) <|
      some (t_now_hours a1.toNatClampNeg, t_bads, o5.1, o5.2, upd t_now_hours a1.toNatClampNeg a2)
def f_X4_want_b18 (F : Nat) (a1 : Int32) (a2 : Int32) (t_now_pressure : Int32) (t_now_day : Int32) (t_now_wells : Int32) (t_now_hours : Nat → Int32) (t_now_had : Nat → Int32) (t_now_due : Nat → Int32) (t_bads : Int32) (t_now_undos : Int32) (t_now_past : Nat → Int32) (t_now_wanted : Nat → Int32) : Option (Int32 × Int32 × Int32 × (Nat → Int32) × (Nat → Int32)) :=
  (f_X4_bad F t_bads).bind fun o9 =>
  some (o9.1, o9.2, t_now_undos, t_now_past, t_now_wanted)
def f_X4_want (F : Nat) (a1 : Int32) (a2 : Int32) (t_now_pressure : Int32) (t_now_day : Int32) (t_now_wells : Int32) (t_now_hours : Nat → Int32) (t_now_had : Nat → Int32) (t_now_due : Nat → Int32) (t_bads : Int32) (t_now_undos : Int32) (t_now_past : Nat → Int32) (t_now_wanted : Nat → Int32) : Option (Int32 × Int32 × Int32 × (Nat → Int32) × (Nat → Int32)) :=
  (f_X1_has F a1 t_now_wells).bind fun o1 =>
  if o1 = 0 then
    (f_X4_want_b18 F a1 a2 t_now_pressure t_now_day t_now_wells t_now_hours t_now_had t_now_due) t_bads t_now_undos t_now_past t_now_wanted
  else
    (f_X4_isWanted F a2).bind fun o3 =>
    if o3 = 0 then
      (f_X4_want_b18 F a1 a2 t_now_pressure t_now_day t_now_wells t_now_hours t_now_had t_now_due) t_bads t_now_undos t_now_past t_now_wanted
    else
      (f_X1_remember F t_now_pressure t_now_day t_now_wanted t_now_hours t_now_had t_now_due t_now_undos t_now_past).bind fun o5 =>
      chk (ix a1 5) <|
      chk (ix a1 5) <|
      some (t_now_wanted a1.toNatClampNeg, t_bads, o5.1, o5.2, upd t_now_wanted a1.toNatClampNeg a2)
def f_X4_press (F : Nat) (a1 : Int32) (t_now_day : Int32) (t_now_wanted : Nat → Int32) (t_now_hours : Nat → Int32) (t_now_had : Nat → Int32) (t_now_due : Nat → Int32) (t_bads : Int32) (t_now_pressure : Int32) (t_now_undos : Int32) (t_now_past : Nat → Int32) : Option (Int32 × Int32 × Int32 × Int32 × (Nat → Int32)) :=
  (f_X4_isPressure F a1).bind fun o1 =>
  if o1 = 0 then
    (f_X4_bad F t_bads).bind fun o5 =>
    some (o5.1, o5.2, t_now_pressure, t_now_undos, t_now_past)
  else
    (f_X1_remember F t_now_pressure t_now_day t_now_wanted t_now_hours t_now_had t_now_due t_now_undos t_now_past).bind fun o3 =>
    some (t_now_pressure, t_bads, a1, o3.1, o3.2)
def f_X4_no (F : Nat) (t_nos : Int32) : Option (Int32 × Int32) :=
  some ((-3 : Int32), t_nos + (1 : Int32))
def f_X4_undo (F : Nat) (t_now_past : Nat → Int32) (t_nos : Int32) (t_now_pressure : Int32) (t_now_day : Int32) (t_now_undos : Int32) (t_now_wanted : Nat → Int32) (t_now_hours : Nat → Int32) (t_now_had : Nat → Int32) (t_now_due : Nat → Int32) : Option (Int32 × Int32 × Int32 × Int32 × Int32 × (Nat → Int32) × (Nat → Int32) × (Nat → Int32) × (Nat → Int32)) :=
  if t_now_undos = 0 then
    (f_X4_no F t_nos).bind fun o3 =>
    some (o3.1, o3.2, t_now_pressure, t_now_day, t_now_undos, t_now_wanted, t_now_hours, t_now_had, t_now_due)
  else
    (f_X1_goBack F t_now_past t_now_pressure t_now_day t_now_undos t_now_wanted t_now_hours t_now_had t_now_due).bind fun o1 =>
    some (o1.2.1, t_nos, o1.1, o1.2.1, o1.2.2.1, o1.2.2.2.1, o1.2.2.2.2.1, o1.2.2.2.2.2.1, o1.2.2.2.2.2.2)
def f_X4_of (F : Nat) (a1 : Int32) (a2 : Int32) (t_now_wells : Int32) (t_now_kind : Nat → Int32) (t_now_wanted : Nat → Int32) (t_now_hours : Nat → Int32) (t_now_had : Nat → Int32) (t_now_due : Nat → Int32) (t_bads : Int32) : Option (Int32 × Int32) :=
  (f_X1_has F a1 t_now_wells).bind fun o1 =>
  if o1 = 0 then
    (f_X4_bad F t_bads).bind fun o10 =>
    some (o10.1, o10.2)
  else
    if a2 = (0 : Int32) then
      chk (ix a1 5) <|
      some (t_now_kind a1.toNatClampNeg, t_bads)
    else
    if a2 = (1 : Int32) then
      chk (ix a1 5) <|
      some (t_now_wanted a1.toNatClampNeg, t_bads)
    else
    if a2 = (2 : Int32) then
      chk (ix a1 5) <|
      some (t_now_hours a1.toNatClampNeg, t_bads)
    else
    if a2 = (3 : Int32) then
      chk (ix a1 5) <|
      some (t_now_had a1.toNatClampNeg, t_bads)
    else
    if a2 = (4 : Int32) then
      chk (ix a1 5) <|
      some (t_now_due a1.toNatClampNeg, t_bads)
    else
      (f_X4_bad F t_bads).bind fun o8 =>
      some (o8.1, o8.2)
def f_X4_isHour (F : Nat) (a0 : Int32) : Option (Int32) :=
  (f_X4_within F a0 (0 : Int32) (7 : Int32)).bind fun o1 =>
  chk (bo o1) <|
  some (o1)
def f_X4_hour_b27 (F : Nat) (a1 : Int32) (a2 : Int32) (a3 : Int32) (t_now_pressure : Int32) (t_now_wells : Int32) (t_now_hours : Nat → Int32) (t_now_kind : Nat → Int32) (t_now_wanted : Nat → Int32) (t_bads : Int32) (t_now_leftOver : Int32) (t_now_ahead : Nat → Int32) (t_now_gets : Nat → Int32) : Option (Int32 × Int32 × Int32 × (Nat → Int32) × (Nat → Int32)) :=
  (f_X4_bad F t_bads).bind fun o13 =>
  some (o13.1, o13.2, t_now_leftOver, t_now_ahead, t_now_gets)
def f_X4_hour (F : Nat) (a1 : Int32) (a2 : Int32) (a3 : Int32) (t_now_pressure : Int32) (t_now_wells : Int32) (t_now_hours : Nat → Int32) (t_now_kind : Nat → Int32) (t_now_wanted : Nat → Int32) (t_bads : Int32) (t_now_leftOver : Int32) (t_now_ahead : Nat → Int32) (t_now_gets : Nat → Int32) : Option (Int32 × Int32 × Int32 × (Nat → Int32) × (Nat → Int32)) :=
  (f_X1_has F a1 t_now_wells).bind fun o1 =>
  if o1 = 0 then
    (f_X4_hour_b27 F a1 a2 a3 t_now_pressure t_now_wells t_now_hours t_now_kind t_now_wanted) t_bads t_now_leftOver t_now_ahead t_now_gets
  else
    (f_X4_isHour F a2).bind fun o3 =>
    if o3 = 0 then
      (f_X4_hour_b27 F a1 a2 a3 t_now_pressure t_now_wells t_now_hours t_now_kind t_now_wanted) t_bads t_now_leftOver t_now_ahead t_now_gets
    else
      (f_X4_within F a3 (0 : Int32) (2 : Int32)).bind fun o5 =>
      if o5 = 0 then
        (f_X4_hour_b27 F a1 a2 a3 t_now_pressure t_now_wells t_now_hours t_now_kind t_now_wanted) t_bads t_now_leftOver t_now_ahead t_now_gets
      else
        (f_X1_openIn F a2 t_now_wells t_now_hours).bind fun o7 =>
        (f_X1_runHour F a2 o7 t_now_pressure t_now_wells t_now_kind t_now_wanted t_now_leftOver t_now_ahead t_now_gets).bind fun o9 =>
        if a3 = 0 then
          chk (ix a1 5) <|
          some (o9.2.2 a1.toNatClampNeg, t_bads, o9.1, o9.2.1, o9.2.2)
        else
          if a3 = (1 : Int32) then
            chk (ix a1 5) <|
            some (o9.2.1 a1.toNatClampNeg, t_bads, o9.1, o9.2.1, o9.2.2)
          else
            some (o9.1, t_bads, o9.1, o9.2.1, o9.2.2)
def f_X4_dailyOfOne (F : Nat) (a1 : Int32) (a2 : Int32) (t_now_pressure : Int32) (t_now_wells : Int32) (t_now_kind : Nat → Int32) (t_now_hours : Nat → Int32) (t_now_wanted : Nat → Int32) (t_now_leftOver : Int32) (t_now_ahead : Nat → Int32) (t_now_gets : Nat → Int32) : Option (Int32 × Int32 × (Nat → Int32) × (Nat → Int32)) :=
  if a2 = 0 then
    (f_X1_everyWell F t_now_wells).bind fun o3 =>
    (f_X1_dailyGets F a1 o3 t_now_pressure t_now_wells t_now_hours t_now_kind t_now_wanted t_now_leftOver t_now_ahead t_now_gets).bind fun o5 =>
    some (o5.1, o5.2.1, o5.2.2.1, o5.2.2.2)
  else
    (f_X1_dailyDue F a1 t_now_pressure t_now_wells t_now_kind t_now_hours t_now_wanted t_now_leftOver t_now_ahead t_now_gets).bind fun o1 =>
    some (o1.1, o1.2.1, o1.2.2.1, o1.2.2.2)
def f_X4_daily_b47 (F : Nat) (a1 : Int32) (a2 : Int32) (t_now_pressure : Int32) (t_now_wells : Int32) (t_now_kind : Nat → Int32) (t_now_hours : Nat → Int32) (t_now_wanted : Nat → Int32) : Nat → Int32 → Int32 → Int32 → Int32 → (Nat → Int32) → (Nat → Int32) → Option (Int32 × Int32 × Int32 × (Nat → Int32) × (Nat → Int32))
  | 0, _, _, _, _, _, _ => none
  | n + 1, v3, v4, t_bads, t_now_leftOver, t_now_ahead, t_now_gets =>
    if t_now_wells ≤ v4 then
      some (v3, t_bads, t_now_leftOver, t_now_ahead, t_now_gets)
    else
      (f_X4_dailyOfOne F v4 a2 t_now_pressure t_now_wells t_now_kind t_now_hours t_now_wanted t_now_leftOver t_now_ahead t_now_gets).bind fun o9 =>
      (f_X4_daily_b47 F a1 a2 t_now_pressure t_now_wells t_now_kind t_now_hours t_now_wanted n) (v3 + o9.1) (v4 + (1 : Int32)) t_bads o9.2.1 o9.2.2.1 o9.2.2.2
def f_X4_daily_b16 (F : Nat) (a1 : Int32) (a2 : Int32) (t_now_pressure : Int32) (t_now_wells : Int32) (t_now_kind : Nat → Int32) (t_now_hours : Nat → Int32) (t_now_wanted : Nat → Int32) (K25 : Int32 → Int32 → (Nat → Int32) → (Nat → Int32) → Option (Int32 × Int32 × Int32 × (Nat → Int32) × (Nat → Int32))) (t_bads : Int32) (t_now_leftOver : Int32) (t_now_ahead : Nat → Int32) (t_now_gets : Nat → Int32) : Option (Int32 × Int32 × Int32 × (Nat → Int32) × (Nat → Int32)) :=
  (f_X4_within F a2 (0 : Int32) (1 : Int32)).bind fun o3 =>
  if o3 = 0 then
    K25 t_bads t_now_leftOver t_now_ahead t_now_gets
  else
    if a1 = (-1 : Int32) then
      (f_X4_daily_b47 F a1 a2 t_now_pressure t_now_wells t_now_kind t_now_hours t_now_wanted F) (0 : Int32) (0 : Int32) t_bads t_now_leftOver t_now_ahead t_now_gets
    else
      (f_X4_dailyOfOne F a1 a2 t_now_pressure t_now_wells t_now_kind t_now_hours t_now_wanted t_now_leftOver t_now_ahead t_now_gets).bind fun o5 =>
      some (o5.1, t_bads, o5.2.1, o5.2.2.1, o5.2.2.2)
def f_X4_daily_b25 (F : Nat) (a1 : Int32) (a2 : Int32) (t_now_pressure : Int32) (t_now_wells : Int32) (t_now_kind : Nat → Int32) (t_now_hours : Nat → Int32) (t_now_wanted : Nat → Int32) (t_bads : Int32) (t_now_leftOver : Int32) (t_now_ahead : Nat → Int32) (t_now_gets : Nat → Int32) : Option (Int32 × Int32 × Int32 × (Nat → Int32) × (Nat → Int32)) :=
  (f_X4_bad F t_bads).bind fun o7 =>
  some (o7.1, o7.2, t_now_leftOver, t_now_ahead, t_now_gets)
def f_X4_daily (F : Nat) (a1 : Int32) (a2 : Int32) (t_now_pressure : Int32) (t_now_wells : Int32) (t_now_kind : Nat → Int32) (t_now_hours : Nat → Int32) (t_now_wanted : Nat → Int32) (t_bads : Int32) (t_now_leftOver : Int32) (t_now_ahead : Nat → Int32) (t_now_gets : Nat → Int32) : Option (Int32 × Int32 × Int32 × (Nat → Int32) × (Nat → Int32)) :=
  if a1 = (-1 : Int32) then
    (f_X4_daily_b16 F a1 a2 t_now_pressure t_now_wells t_now_kind t_now_hours t_now_wanted (f_X4_daily_b25 F a1 a2 t_now_pressure t_now_wells t_now_kind t_now_hours t_now_wanted)) t_bads t_now_leftOver t_now_ahead t_now_gets
  else
    (f_X1_has F a1 t_now_wells).bind fun o1 =>
    if o1 = 0 then
      (f_X4_daily_b25 F a1 a2 t_now_pressure t_now_wells t_now_kind t_now_hours t_now_wanted) t_bads t_now_leftOver t_now_ahead t_now_gets
    else
      (f_X4_daily_b16 F a1 a2 t_now_pressure t_now_wells t_now_kind t_now_hours t_now_wanted (f_X4_daily_b25 F a1 a2 t_now_pressure t_now_wells t_now_kind t_now_hours t_now_wanted)) t_bads t_now_leftOver t_now_ahead t_now_gets
def f_X4_badHere (F : Nat) (t_bads : Int32) : Option (Int32 × Int32) :=
  some ((-10 : Int32), t_bads + (1 : Int32))
def f_X4_turns_b21 (F : Nat) (a1 : Int32) (t_now_pressure : Int32) (t_now_wells : Int32) (t_now_kind : Nat → Int32) (t_now_wanted : Nat → Int32) (t_bads : Int32) (t_search_found : Int32) (t_search_bestWorth : Int32) (t_search_byDue : Int32) (t_search_rest : Nat → Int32) (t_search_mustGet : Nat → Int32) (t_search_way : Nat → Int32) (t_search_bestWay : Nat → Int32) : Option (Int32 × Int32 × Int32 × Int32 × Int32 × (Nat → Int32) × (Nat → Int32) × (Nat → Int32) × (Nat → Int32)) :=
  (f_X3_mostHad F t_now_pressure t_now_wells t_now_kind t_now_wanted t_search_found t_search_bestWorth t_search_byDue t_search_rest t_search_mustGet t_search_way t_search_bestWay).bind fun o5 =>
  if a1 = (-1 : Int32) then
    some (o5.2.1, t_bads, o5.1, o5.2.1, o5.2.2.1, o5.2.2.2.1, o5.2.2.2.2.1, o5.2.2.2.2.2.1, o5.2.2.2.2.2.2)
  else
    chk (ix a1 5) <|
    some (o5.2.2.2.2.2.2 a1.toNatClampNeg, t_bads, o5.1, o5.2.1, o5.2.2.1, o5.2.2.2.1, o5.2.2.2.2.1, o5.2.2.2.2.2.1, o5.2.2.2.2.2.2)
def f_X4_turns (F : Nat) (a1 : Int32) (t_now_pressure : Int32) (t_now_wells : Int32) (t_now_kind : Nat → Int32) (t_now_wanted : Nat → Int32) (t_bads : Int32) (t_search_found : Int32) (t_search_bestWorth : Int32) (t_search_byDue : Int32) (t_search_rest : Nat → Int32) (t_search_mustGet : Nat → Int32) (t_search_way : Nat → Int32) (t_search_bestWay : Nat → Int32) : Option (Int32 × Int32 × Int32 × Int32 × Int32 × (Nat → Int32) × (Nat → Int32) × (Nat → Int32) × (Nat → Int32)) :=
  if a1 = (-1 : Int32) then
    (f_X4_turns_b21 F a1 t_now_pressure t_now_wells t_now_kind t_now_wanted) t_bads t_search_found t_search_bestWorth t_search_byDue t_search_rest t_search_mustGet t_search_way t_search_bestWay
  else
    (f_X1_has F a1 t_now_wells).bind fun o1 =>
    if o1 = 0 then
      (f_X4_badHere F t_bads).bind fun o3 =>
      some (o3.1, o3.2, t_search_found, t_search_bestWorth, t_search_byDue, t_search_rest, t_search_mustGet, t_search_way, t_search_bestWay)
    else
      (f_X4_turns_b21 F a1 t_now_pressure t_now_wells t_now_kind t_now_wanted) t_bads t_search_found t_search_bestWorth t_search_byDue t_search_rest t_search_mustGet t_search_way t_search_bestWay
def f_X4_fair_b21 (F : Nat) (a1 : Int32) (t_now_pressure : Int32) (t_now_wells : Int32) (t_now_kind : Nat → Int32) (t_now_wanted : Nat → Int32) (t_bads : Int32) (t_search_found : Int32) (t_search_bestWorth : Int32) (t_search_byDue : Int32) (t_search_rest : Nat → Int32) (t_search_mustGet : Nat → Int32) (t_search_way : Nat → Int32) (t_search_bestWay : Nat → Int32) : Option (Int32 × Int32 × Int32 × Int32 × Int32 × (Nat → Int32) × (Nat → Int32) × (Nat → Int32) × (Nat → Int32)) :=
  (f_X3_leastDue F t_now_pressure t_now_wells t_now_kind t_now_wanted t_search_found t_search_bestWorth t_search_byDue t_search_rest t_search_mustGet t_search_way t_search_bestWay).bind fun o5 =>
  if o5.1 = 0 then
    some ((-1 : Int32), t_bads, o5.1, o5.2.1, o5.2.2.1, o5.2.2.2.1, o5.2.2.2.2.1, o5.2.2.2.2.2.1, o5.2.2.2.2.2.2)
  else
    if a1 = (-1 : Int32) then
      some (-o5.2.1, t_bads, o5.1, o5.2.1, o5.2.2.1, o5.2.2.2.1, o5.2.2.2.2.1, o5.2.2.2.2.2.1, o5.2.2.2.2.2.2)
    else
      chk (ix a1 5) <|
      some (o5.2.2.2.2.2.2 a1.toNatClampNeg, t_bads, o5.1, o5.2.1, o5.2.2.1, o5.2.2.2.1, o5.2.2.2.2.1, o5.2.2.2.2.2.1, o5.2.2.2.2.2.2)
def f_X4_fair (F : Nat) (a1 : Int32) (t_now_pressure : Int32) (t_now_wells : Int32) (t_now_kind : Nat → Int32) (t_now_wanted : Nat → Int32) (t_bads : Int32) (t_search_found : Int32) (t_search_bestWorth : Int32) (t_search_byDue : Int32) (t_search_rest : Nat → Int32) (t_search_mustGet : Nat → Int32) (t_search_way : Nat → Int32) (t_search_bestWay : Nat → Int32) : Option (Int32 × Int32 × Int32 × Int32 × Int32 × (Nat → Int32) × (Nat → Int32) × (Nat → Int32) × (Nat → Int32)) :=
  if a1 = (-1 : Int32) then
    (f_X4_fair_b21 F a1 t_now_pressure t_now_wells t_now_kind t_now_wanted) t_bads t_search_found t_search_bestWorth t_search_byDue t_search_rest t_search_mustGet t_search_way t_search_bestWay
  else
    (f_X1_has F a1 t_now_wells).bind fun o1 =>
    if o1 = 0 then
      (f_X4_badHere F t_bads).bind fun o3 =>
      some (o3.1, o3.2, t_search_found, t_search_bestWorth, t_search_byDue, t_search_rest, t_search_mustGet, t_search_way, t_search_bestWay)
    else
      (f_X4_fair_b21 F a1 t_now_pressure t_now_wells t_now_kind t_now_wanted) t_bads t_search_found t_search_bestWorth t_search_byDue t_search_rest t_search_mustGet t_search_way t_search_bestWay
def f_X4_isAmple_b10 (F : Nat) (a1 : Int32) (t_now_wells : Int32) (t_now_hours : Nat → Int32) (t_now_kind : Nat → Int32) (t_now_wanted : Nat → Int32) (K2 : Int32 → Int32 → (Nat → Int32) → (Nat → Int32) → Option (Int32 × Int32 × (Nat → Int32) × (Nat → Int32))) : Nat → Int32 → Int32 → Int32 → (Nat → Int32) → (Nat → Int32) → Option (Int32 × Int32 × (Nat → Int32) × (Nat → Int32))
  | 0, _, _, _, _, _ => none
  | n + 1, v2, v3, t_now_leftOver, t_now_ahead, t_now_gets =>
    if t_now_wells ≤ v3 then
      K2 (v2 + (1 : Int32)) t_now_leftOver t_now_ahead t_now_gets
    else
      (f_X1_getsAt F v3 v2 a1 t_now_wells t_now_hours t_now_kind t_now_wanted t_now_leftOver t_now_ahead t_now_gets).bind fun o1 =>
      (f_X1_getsAt F v3 v2 (300 : Int32) t_now_wells t_now_hours t_now_kind t_now_wanted o1.2.1 o1.2.2.1 o1.2.2.2).bind fun o3 =>
      if o3.1 ≤ o1.1 then
        (f_X4_isAmple_b10 F a1 t_now_wells t_now_hours t_now_kind t_now_wanted K2 n) v2 (v3 + (1 : Int32)) o3.2.1 o3.2.2.1 o3.2.2.2
      else
        some ((0 : Int32), o3.2.1, o3.2.2.1, o3.2.2.2)
def f_X4_isAmple_b2 (F : Nat) (a1 : Int32) (t_now_wells : Int32) (t_now_hours : Nat → Int32) (t_now_kind : Nat → Int32) (t_now_wanted : Nat → Int32) : Nat → Int32 → Int32 → (Nat → Int32) → (Nat → Int32) → Option (Int32 × Int32 × (Nat → Int32) × (Nat → Int32))
  | 0, _, _, _, _ => none
  | n + 1, v2, t_now_leftOver, t_now_ahead, t_now_gets =>
    if (8 : Int32) ≤ v2 then
      some ((1 : Int32), t_now_leftOver, t_now_ahead, t_now_gets)
    else
      (f_X4_isAmple_b10 F a1 t_now_wells t_now_hours t_now_kind t_now_wanted (f_X4_isAmple_b2 F a1 t_now_wells t_now_hours t_now_kind t_now_wanted n) F) v2 (0 : Int32) t_now_leftOver t_now_ahead t_now_gets
def f_X4_isAmple (F : Nat) (a1 : Int32) (t_now_wells : Int32) (t_now_hours : Nat → Int32) (t_now_kind : Nat → Int32) (t_now_wanted : Nat → Int32) (t_now_leftOver : Int32) (t_now_ahead : Nat → Int32) (t_now_gets : Nat → Int32) : Option (Int32 × Int32 × (Nat → Int32) × (Nat → Int32)) :=
  (f_X4_isAmple_b2 F a1 t_now_wells t_now_hours t_now_kind t_now_wanted F) (0 : Int32) t_now_leftOver t_now_ahead t_now_gets
def f_X4_least_b2 (F : Nat) (t_now_wells : Int32) (t_now_hours : Nat → Int32) (t_now_kind : Nat → Int32) (t_now_wanted : Nat → Int32) : Nat → Int32 → Int32 → (Nat → Int32) → (Nat → Int32) → Option (Int32 × Int32 × (Nat → Int32) × (Nat → Int32))
  | 0, _, _, _, _ => none
  | n + 1, v1, t_now_leftOver, t_now_ahead, t_now_gets =>
    if (99 : Int32) < v1 then
      some ((-1 : Int32), t_now_leftOver, t_now_ahead, t_now_gets)
    else
      (f_X4_isAmple F v1 t_now_wells t_now_hours t_now_kind t_now_wanted t_now_leftOver t_now_ahead t_now_gets).bind fun o1 =>
      if o1.1 = 0 then
        (f_X4_least_b2 F t_now_wells t_now_hours t_now_kind t_now_wanted n) (v1 + (1 : Int32)) o1.2.1 o1.2.2.1 o1.2.2.2
      else
        some (v1, o1.2.1, o1.2.2.1, o1.2.2.2)
def f_X4_least (F : Nat) (t_now_wells : Int32) (t_now_hours : Nat → Int32) (t_now_kind : Nat → Int32) (t_now_wanted : Nat → Int32) (t_now_leftOver : Int32) (t_now_ahead : Nat → Int32) (t_now_gets : Nat → Int32) : Option (Int32 × Int32 × (Nat → Int32) × (Nat → Int32)) :=
  (f_X4_least_b2 F t_now_wells t_now_hours t_now_kind t_now_wanted F) (0 : Int32) t_now_leftOver t_now_ahead t_now_gets
def f_X4_shut_b94 (F : Nat) (a1 : Int32) (t_now_pressure : Int32) (t_now_wells : Int32) (t_now_hours : Nat → Int32) (t_now_kind : Nat → Int32) (t_now_wanted : Nat → Int32) (K37 : Int32 → Int32 → Int32 → Int32 → Int32 → (Nat → Int32) → (Nat → Int32) → Option (Int32 × Int32 × Int32 × (Nat → Int32) × (Nat → Int32))) (v2 : Int32) (v3 : Int32) (v4 : Int32) (t_bads : Int32) (t_now_leftOver : Int32) (t_now_ahead : Nat → Int32) (t_now_gets : Nat → Int32) : Option (Int32 × Int32 × Int32 × (Nat → Int32) × (Nat → Int32)) :=
  K37 v2 v3 (v4 + (1 : Int32)) t_bads t_now_leftOver t_now_ahead t_now_gets
def f_X4_shut_b37 (F : Nat) (a1 : Int32) (t_now_pressure : Int32) (t_now_wells : Int32) (t_now_hours : Nat → Int32) (t_now_kind : Nat → Int32) (t_now_wanted : Nat → Int32) : Nat → Int32 → Int32 → Int32 → Int32 → Int32 → (Nat → Int32) → (Nat → Int32) → Option (Int32 × Int32 × Int32 × (Nat → Int32) × (Nat → Int32))
  | 0, _, _, _, _, _, _, _ => none
  | n + 1, v2, v3, v4, t_bads, t_now_leftOver, t_now_ahead, t_now_gets =>
    if t_now_wells ≤ v4 then
      some (v3, t_bads, t_now_leftOver, t_now_ahead, t_now_gets)
    else
      if v4 = a1 then
        (f_X4_shut_b94 F a1 t_now_pressure t_now_wells t_now_hours t_now_kind t_now_wanted (f_X4_shut_b37 F a1 t_now_pressure t_now_wells t_now_hours t_now_kind t_now_wanted n)) v2 v3 v4 t_bads t_now_leftOver t_now_ahead t_now_gets
      else
        (f_X1_everyWell F t_now_wells).bind fun o9 =>
        (f_X1_dailyGets F a1 (o9 &&& (((1 : Int32) <<< (v4 &&& 31)) ^^^ (-1 : Int32))) t_now_pressure t_now_wells t_now_hours t_now_kind t_now_wanted t_now_leftOver t_now_ahead t_now_gets).bind fun o11 =>
        if o11.1 ≤ v2 then
          (f_X4_shut_b94 F a1 t_now_pressure t_now_wells t_now_hours t_now_kind t_now_wanted (f_X4_shut_b37 F a1 t_now_pressure t_now_wells t_now_hours t_now_kind t_now_wanted n)) v2 v3 v4 t_bads o11.2.1 o11.2.2.1 o11.2.2.2
        else
          (f_X4_shut_b94 F a1 t_now_pressure t_now_wells t_now_hours t_now_kind t_now_wanted (f_X4_shut_b37 F a1 t_now_pressure t_now_wells t_now_hours t_now_kind t_now_wanted n)) o11.1 v4 v4 t_bads o11.2.1 o11.2.2.1 o11.2.2.2
def f_X4_shut (F : Nat) (a1 : Int32) (t_now_pressure : Int32) (t_now_wells : Int32) (t_now_hours : Nat → Int32) (t_now_kind : Nat → Int32) (t_now_wanted : Nat → Int32) (t_bads : Int32) (t_now_leftOver : Int32) (t_now_ahead : Nat → Int32) (t_now_gets : Nat → Int32) : Option (Int32 × Int32 × Int32 × (Nat → Int32) × (Nat → Int32)) :=
  (f_X1_has F a1 t_now_wells).bind fun o1 =>
  if o1 = 0 then
    (f_X4_bad F t_bads).bind fun o7 =>
    some (o7.1, o7.2, t_now_leftOver, t_now_ahead, t_now_gets)
  else
    (f_X1_everyWell F t_now_wells).bind fun o3 =>
    (f_X1_dailyGets F a1 o3 t_now_pressure t_now_wells t_now_hours t_now_kind t_now_wanted t_now_leftOver t_now_ahead t_now_gets).bind fun o5 =>
    (f_X4_shut_b37 F a1 t_now_pressure t_now_wells t_now_hours t_now_kind t_now_wanted F) o5.1 (-1 : Int32) (0 : Int32) t_bads o5.2.1 o5.2.2.1 o5.2.2.2
def f_X4_left_b14 (F : Nat) (a1 : Int32) (a2 : Int32) (t_bads : Int32) (t_fulls : Int32) (t_now_lefts : Int32) (t_now_leftHour : Nat → Int32) (t_now_leftPressure : Nat → Int32) : Option (Int32 × Int32 × Int32 × Int32 × (Nat → Int32) × (Nat → Int32)) :=
  (f_X4_bad F t_bads).bind fun o9 =>
  some (o9.1, o9.2, t_fulls, t_now_lefts, t_now_leftHour, t_now_leftPressure)
def f_X4_left (F : Nat) (a1 : Int32) (a2 : Int32) (t_bads : Int32) (t_fulls : Int32) (t_now_lefts : Int32) (t_now_leftHour : Nat → Int32) (t_now_leftPressure : Nat → Int32) : Option (Int32 × Int32 × Int32 × Int32 × (Nat → Int32) × (Nat → Int32)) :=
  (f_X4_isHour F a1).bind fun o1 =>
  if o1 = 0 then
    (f_X4_left_b14 F a1 a2) t_bads t_fulls t_now_lefts t_now_leftHour t_now_leftPressure
  else
    (f_X4_isPressure F a2).bind fun o3 =>
    if o3 = 0 then
      (f_X4_left_b14 F a1 a2) t_bads t_fulls t_now_lefts t_now_leftHour t_now_leftPressure
    else
      if t_now_lefts < (4 : Int32) then
        (f_X1_addLeft F a1 a2 t_now_lefts t_now_leftHour t_now_leftPressure).bind fun o5 =>
        some (o5.1, t_bads, t_fulls, o5.2.1, o5.2.2.1, o5.2.2.2)
      else
        (f_X4_full F t_fulls).bind fun o7 =>
        some (o7.1, t_bads, o7.2, t_now_lefts, t_now_leftHour, t_now_leftPressure)
def f_X4_fitsLefts_b2 (F : Nat) (a1 : Int32) (t_now_pressure : Int32) (t_now_wells : Int32) (t_now_lefts : Int32) (t_now_leftHour : Nat → Int32) (t_now_kind : Nat → Int32) (t_now_wanted : Nat → Int32) (t_now_leftPressure : Nat → Int32) : Nat → Int32 → Int32 → (Nat → Int32) → (Nat → Int32) → Option (Int32 × Int32 × (Nat → Int32) × (Nat → Int32))
  | 0, _, _, _, _ => none
  | n + 1, v2, t_now_leftOver, t_now_ahead, t_now_gets =>
    if t_now_lefts ≤ v2 then
      some ((1 : Int32), t_now_leftOver, t_now_ahead, t_now_gets)
    else
      chk (ix v2 4) <|
      (f_X1_runHour F (t_now_leftHour v2.toNatClampNeg) a1 t_now_pressure t_now_wells t_now_kind t_now_wanted t_now_leftOver t_now_ahead t_now_gets).bind fun o2 =>
      chk (ix v2 4) <|
      if o2.1 = (t_now_leftPressure v2.toNatClampNeg) then
        (f_X4_fitsLefts_b2 F a1 t_now_pressure t_now_wells t_now_lefts t_now_leftHour t_now_kind t_now_wanted t_now_leftPressure n) (v2 + (1 : Int32)) o2.1 o2.2.1 o2.2.2
      else
        some ((0 : Int32), o2.1, o2.2.1, o2.2.2)
def f_X4_fitsLefts (F : Nat) (a1 : Int32) (t_now_pressure : Int32) (t_now_wells : Int32) (t_now_lefts : Int32) (t_now_leftHour : Nat → Int32) (t_now_kind : Nat → Int32) (t_now_wanted : Nat → Int32) (t_now_leftPressure : Nat → Int32) (t_now_leftOver : Int32) (t_now_ahead : Nat → Int32) (t_now_gets : Nat → Int32) : Option (Int32 × Int32 × (Nat → Int32) × (Nat → Int32)) :=
  (f_X4_fitsLefts_b2 F a1 t_now_pressure t_now_wells t_now_lefts t_now_leftHour t_now_kind t_now_wanted t_now_leftPressure F) (0 : Int32) t_now_leftOver t_now_ahead t_now_gets
def f_X4_drew_b69 (F : Nat) (a1 : Int32) (t_now_pressure : Int32) (t_now_wells : Int32) (t_now_lefts : Int32) (t_now_leftHour : Nat → Int32) (t_now_kind : Nat → Int32) (t_now_wanted : Nat → Int32) (t_now_leftPressure : Nat → Int32) (K30 : Int32 → Int32 → Int32 → Int32 → Int32 → Int32 → (Nat → Int32) → (Nat → Int32) → Option (Int32 × Int32 × Int32 × (Nat → Int32) × (Nat → Int32))) (v2 : Int32) (v3 : Int32) (v4 : Int32) (v5 : Int32) (t_bads : Int32) (t_now_leftOver : Int32) (t_now_ahead : Nat → Int32) (t_now_gets : Nat → Int32) : Option (Int32 × Int32 × Int32 × (Nat → Int32) × (Nat → Int32)) :=
  K30 v2 v3 v4 (v5 + (1 : Int32)) t_bads t_now_leftOver t_now_ahead t_now_gets
def f_X4_drew_b30 (F : Nat) (a1 : Int32) (t_now_pressure : Int32) (t_now_wells : Int32) (t_now_lefts : Int32) (t_now_leftHour : Nat → Int32) (t_now_kind : Nat → Int32) (t_now_wanted : Nat → Int32) (t_now_leftPressure : Nat → Int32) : Nat → Int32 → Int32 → Int32 → Int32 → Int32 → Int32 → (Nat → Int32) → (Nat → Int32) → Option (Int32 × Int32 × Int32 × (Nat → Int32) × (Nat → Int32))
  | 0, _, _, _, _, _, _, _, _ => none
  | n + 1, v2, v3, v4, v5, t_bads, t_now_leftOver, t_now_ahead, t_now_gets =>
    (f_X1_everyWell F t_now_wells).bind fun o7 =>
    if o7 < v5 then
      if a1 = 0 then
        some (v2, t_bads, t_now_leftOver, t_now_ahead, t_now_gets)
      else
        if a1 = (2 : Int32) then
          some (v4, t_bads, t_now_leftOver, t_now_ahead, t_now_gets)
        else
          if v2 = 0 then
            some ((-1 : Int32), t_bads, t_now_leftOver, t_now_ahead, t_now_gets)
          else
            some (v3, t_bads, t_now_leftOver, t_now_ahead, t_now_gets)
    else
      (f_X4_fitsLefts F v5 t_now_pressure t_now_wells t_now_lefts t_now_leftHour t_now_kind t_now_wanted t_now_leftPressure t_now_leftOver t_now_ahead t_now_gets).bind fun o9 =>
      if o9.1 = 0 then
        (f_X4_drew_b69 F a1 t_now_pressure t_now_wells t_now_lefts t_now_leftHour t_now_kind t_now_wanted t_now_leftPressure (f_X4_drew_b30 F a1 t_now_pressure t_now_wells t_now_lefts t_now_leftHour t_now_kind t_now_wanted t_now_leftPressure n)) v2 v3 v4 v5 t_bads o9.2.1 o9.2.2.1 o9.2.2.2
      else
        (f_X4_drew_b69 F a1 t_now_pressure t_now_wells t_now_lefts t_now_leftHour t_now_kind t_now_wanted t_now_leftPressure (f_X4_drew_b30 F a1 t_now_pressure t_now_wells t_now_lefts t_now_leftHour t_now_kind t_now_wanted t_now_leftPressure n)) (v2 + (1 : Int32)) (v3 &&& v5) (v4 ||| v5) v5 t_bads o9.2.1 o9.2.2.1 o9.2.2.2
def f_X4_drew (F : Nat) (a1 : Int32) (t_now_pressure : Int32) (t_now_wells : Int32) (t_now_lefts : Int32) (t_now_leftHour : Nat → Int32) (t_now_kind : Nat → Int32) (t_now_wanted : Nat → Int32) (t_now_leftPressure : Nat → Int32) (t_bads : Int32) (t_now_leftOver : Int32) (t_now_ahead : Nat → Int32) (t_now_gets : Nat → Int32) : Option (Int32 × Int32 × Int32 × (Nat → Int32) × (Nat → Int32)) :=
  (f_X4_within F a1 (0 : Int32) (2 : Int32)).bind fun o1 =>
  if o1 = 0 then
    (f_X4_bad F t_bads).bind fun o5 =>
    some (o5.1, o5.2, t_now_leftOver, t_now_ahead, t_now_gets)
  else
    (f_X1_everyWell F t_now_wells).bind fun o3 =>
    (f_X4_drew_b30 F a1 t_now_pressure t_now_wells t_now_lefts t_now_leftHour t_now_kind t_now_wanted t_now_leftPressure F) (0 : Int32) o3 (0 : Int32) (0 : Int32) t_bads t_now_leftOver t_now_ahead t_now_gets
def f_X4_note_b33 (F : Nat) (a1 : Int32) (a2 : Int32) (a3 : Int32) (a4 : Int32) (a5 : Int32) (a6 : Int32) (t_now_wells : Int32) (t_bads : Int32) (t_fulls : Int32) (t_now_notes : Int32) (t_now_note : Nat → Int32) : Option (Int32 × Int32 × Int32 × Int32 × (Nat → Int32)) :=
  (f_X4_bad F t_bads).bind fun o17 =>
  some (o17.1, o17.2, t_fulls, t_now_notes, t_now_note)
def f_X4_note_b60 (F : Nat) (a1 : Int32) (a2 : Int32) (a3 : Int32) (a4 : Int32) (a5 : Int32) (a6 : Int32) (t_now_wells : Int32) (t_bads : Int32) (t_fulls : Int32) (t_now_notes : Int32) (t_now_note : Nat → Int32) : Option (Int32 × Int32 × Int32 × Int32 × (Nat → Int32)) :=
  (f_X4_bad F t_bads).bind fun o19 =>
  some (o19.1, o19.2, t_fulls, t_now_notes, t_now_note)
def f_X4_note (F : Nat) (a1 : Int32) (a2 : Int32) (a3 : Int32) (a4 : Int32) (a5 : Int32) (a6 : Int32) (t_now_wells : Int32) (t_bads : Int32) (t_fulls : Int32) (t_now_notes : Int32) (t_now_note : Nat → Int32) : Option (Int32 × Int32 × Int32 × Int32 × (Nat → Int32)) :=
  (f_X1_has F a1 t_now_wells).bind fun o1 =>
  if o1 = 0 then
    (f_X4_note_b33 F a1 a2 a3 a4 a5 a6 t_now_wells) t_bads t_fulls t_now_notes t_now_note
  else
    (f_X4_isWanted F a2).bind fun o3 =>
    if o3 = 0 then
      (f_X4_note_b33 F a1 a2 a3 a4 a5 a6 t_now_wells) t_bads t_fulls t_now_notes t_now_note
    else
      (f_X4_isHour F a3).bind fun o5 =>
      if o5 = 0 then
        (f_X4_note_b33 F a1 a2 a3 a4 a5 a6 t_now_wells) t_bads t_fulls t_now_notes t_now_note
      else
        (f_X4_isPressure F a4).bind fun o7 =>
        if o7 = 0 then
          (f_X4_note_b33 F a1 a2 a3 a4 a5 a6 t_now_wells) t_bads t_fulls t_now_notes t_now_note
        else
          (f_X4_within F a5 (0 : Int32) (40 : Int32)).bind fun o9 =>
          if o9 = 0 then
            (f_X4_note_b60 F a1 a2 a3 a4 a5 a6 t_now_wells) t_bads t_fulls t_now_notes t_now_note
          else
            (f_X4_within F a6 (0 : Int32) (80 : Int32)).bind fun o11 =>
            if o11 = 0 then
              (f_X4_note_b60 F a1 a2 a3 a4 a5 a6 t_now_wells) t_bads t_fulls t_now_notes t_now_note
            else
              if t_now_notes < (6 : Int32) then
                (f_X1_addNote F a1 a2 a3 a4 a5 a6 t_now_notes t_now_note).bind fun o13 =>
                some (o13.1, t_bads, t_fulls, o13.2.1, o13.2.2)
              else
                (f_X4_full F t_fulls).bind fun o15 =>
                some (o15.1, t_bads, o15.2, t_now_notes, t_now_note)
def f_X4_forget_b35 (F : Nat) (a1 : Int32) (s0 : Int32) (t_bads : Int32) (t_now_lefts : Int32) (t_now_notes : Int32) : Option (Int32 × Int32 × Int32 × Int32) :=
  if a1 = 0 then
    some (s0, t_bads, (0 : Int32), t_now_notes)
  else
    some (s0, t_bads, t_now_lefts, (0 : Int32))
def f_X4_forget (F : Nat) (a1 : Int32) (t_bads : Int32) (t_now_lefts : Int32) (t_now_notes : Int32) : Option (Int32 × Int32 × Int32 × Int32) :=
  (f_X4_within F a1 (0 : Int32) (1 : Int32)).bind fun o1 =>
  if o1 = 0 then
    (f_X4_bad F t_bads).bind fun o3 =>
    some (o3.1, o3.2, t_now_lefts, t_now_notes)
  else
    if a1 = 0 then
      (f_X4_forget_b35 F a1) t_now_lefts t_bads t_now_lefts t_now_notes
    else
      (f_X4_forget_b35 F a1) t_now_notes t_bads t_now_lefts t_now_notes
def f_X4_fitsNote (F : Nat) (a1 : Int32) (a2 : Int32) (t_now_note : Nat → Int32) : Option (Int32) :=
  chk (ix (a2 + (1 : Int32)) 36) <|
  chk (ix (a2 + (2 : Int32)) 36) <|
  chk (ix (a2 + (3 : Int32)) 36) <|
  (f_X0_gets F a1 (t_now_note (a2 + (1 : Int32)).toNatClampNeg) (t_now_note (a2 + (2 : Int32)).toNatClampNeg) (t_now_note (a2 + (3 : Int32)).toNatClampNeg)).bind fun o4 =>
  chk (ix (a2 + (4 : Int32)) 36) <|
  if o4 = (t_now_note (a2 + (4 : Int32)).toNatClampNeg) then
    (f_X0_due F a1 o4).bind fun o7 =>
    chk (ix (a2 + (5 : Int32)) 36) <|
    if o7 = (t_now_note (a2 + (5 : Int32)).toNatClampNeg) then
      some ((1 : Int32))
    else
      some ((0 : Int32))
  else
    some ((0 : Int32))
def f_X4_fitsNotes_b43 (F : Nat) (a1 : Int32) (a2 : Int32) (t_now_notes : Int32) (t_now_note : Nat → Int32) (K2 : Int32 → Option (Int32)) (v3 : Int32) : Option (Int32) :=
  K2 (v3 + (1 : Int32))
def f_X4_fitsNotes_b2 (F : Nat) (a1 : Int32) (a2 : Int32) (t_now_notes : Int32) (t_now_note : Nat → Int32) : Nat → Int32 → Option (Int32)
  | 0, _ => none
  | n + 1, v3 =>
    if t_now_notes ≤ v3 then
      some ((1 : Int32))
    else
      chk (ix (v3 * (6 : Int32)) 36) <|
      if (t_now_note (v3 * (6 : Int32)).toNatClampNeg) = a2 then
        (f_X4_fitsNote F a1 (v3 * (6 : Int32)) t_now_note).bind fun o2 =>
        if o2 = 0 then
          some ((0 : Int32))
        else
          (f_X4_fitsNotes_b43 F a1 a2 t_now_notes t_now_note (f_X4_fitsNotes_b2 F a1 a2 t_now_notes t_now_note n)) v3
      else
        (f_X4_fitsNotes_b43 F a1 a2 t_now_notes t_now_note (f_X4_fitsNotes_b2 F a1 a2 t_now_notes t_now_note n)) v3
def f_X4_fitsNotes (F : Nat) (a1 : Int32) (a2 : Int32) (t_now_notes : Int32) (t_now_note : Nat → Int32) : Option (Int32) :=
  (f_X4_fitsNotes_b2 F a1 a2 t_now_notes t_now_note F) (0 : Int32)
def f_X4_kindsOf_b25 (F : Nat) (a1 : Int32) (t_now_notes : Int32) (t_now_note : Nat → Int32) (K4 : Int32 → Int32 → Option (Int32)) (v2 : Int32) (v3 : Int32) : Option (Int32) :=
  K4 v2 (v3 + (1 : Int32))
def f_X4_kindsOf_b4 (F : Nat) (a1 : Int32) (t_now_notes : Int32) (t_now_note : Nat → Int32) : Nat → Int32 → Int32 → Option (Int32)
  | 0, _, _ => none
  | n + 1, v2, v3 =>
    if (6 : Int32) ≤ v3 then
      some (v2)
    else
      (f_X4_fitsNotes F v3 a1 t_now_notes t_now_note).bind fun o1 =>
      if o1 = 0 then
        (f_X4_kindsOf_b25 F a1 t_now_notes t_now_note (f_X4_kindsOf_b4 F a1 t_now_notes t_now_note n)) v2 v3
      else
        (f_X4_kindsOf_b25 F a1 t_now_notes t_now_note (f_X4_kindsOf_b4 F a1 t_now_notes t_now_note n)) (v2 ||| ((1 : Int32) <<< (v3 &&& 31))) v3
def f_X4_kindsOf (F : Nat) (a1 : Int32) (t_now_notes : Int32) (t_now_note : Nat → Int32) : Option (Int32) :=
  (f_X4_kindsOf_b4 F a1 t_now_notes t_now_note F) (0 : Int32) (0 : Int32)
def f_X4_is (F : Nat) (a1 : Int32) (t_now_wells : Int32) (t_now_notes : Int32) (t_now_note : Nat → Int32) (t_bads : Int32) : Option (Int32 × Int32) :=
  (f_X1_has F a1 t_now_wells).bind fun o1 =>
  if o1 = 0 then
    (f_X4_bad F t_bads).bind fun o5 =>
    some (o5.1, o5.2)
  else
    (f_X4_kindsOf F a1 t_now_notes t_now_note).bind fun o3 =>
    some (o3, t_bads)
def f_X4_areAlike (F : Nat) (a0 : Int32) (a1 : Int32) (a2 : Int32) (a3 : Int32) (a4 : Int32) : Option (Int32) :=
  (f_X0_gets F a0 a2 a3 a4).bind fun o1 =>
  (f_X0_gets F a1 a2 a3 a4).bind fun o3 =>
  if o1 = o3 then
    (f_X0_due F a0 o1).bind fun o5 =>
    (f_X0_due F a1 o3).bind fun o7 =>
    if o5 = o7 then
      some ((1 : Int32))
    else
      some ((0 : Int32))
  else
    some ((0 : Int32))
def f_X4_mostAlike_b57 (F : Nat) (a0 : Int32) (a1 : Int32) (a2 : Int32) (a3 : Int32) (K19 : Int32 → Int32 → Int32 → Int32 → Option (Int32)) (v4 : Int32) (v5 : Int32) (v6 : Int32) (v7 : Int32) : Option (Int32) :=
  K19 v4 v5 v6 (v7 + (1 : Int32))
def f_X4_mostAlike_b19 (F : Nat) (a0 : Int32) (a1 : Int32) (a2 : Int32) (a3 : Int32) (K6 : Int32 → Int32 → Option (Int32)) : Nat → Int32 → Int32 → Int32 → Int32 → Option (Int32)
  | 0, _, _, _, _ => none
  | n + 1, v4, v5, v6, v7 =>
    if (6 : Int32) ≤ v7 then
      K6 (if v4 < v6 then v6 else v4) (v5 + (1 : Int32))
    else
      if (((a0 >>> (v5 &&& 31)) &&& (a0 >>> (v7 &&& 31))) &&& (1 : Int32)) = (1 : Int32) then
        (f_X4_areAlike F v5 v7 a1 a2 a3).bind fun o1 =>
        if o1 = 0 then
          (f_X4_mostAlike_b57 F a0 a1 a2 a3 (f_X4_mostAlike_b19 F a0 a1 a2 a3 K6 n)) v4 v5 v6 v7
        else
          (f_X4_mostAlike_b57 F a0 a1 a2 a3 (f_X4_mostAlike_b19 F a0 a1 a2 a3 K6 n)) v4 v5 (v6 + (1 : Int32)) v7
      else
        (f_X4_mostAlike_b57 F a0 a1 a2 a3 (f_X4_mostAlike_b19 F a0 a1 a2 a3 K6 n)) v4 v5 v6 v7
def f_X4_mostAlike_b6 (F : Nat) (a0 : Int32) (a1 : Int32) (a2 : Int32) (a3 : Int32) : Nat → Int32 → Int32 → Option (Int32)
  | 0, _, _ => none
  | n + 1, v4, v5 =>
    if (6 : Int32) ≤ v5 then
      some (v4)
    else
      (f_X4_mostAlike_b19 F a0 a1 a2 a3 (f_X4_mostAlike_b6 F a0 a1 a2 a3 n) F) v4 v5 (0 : Int32) (0 : Int32)
def f_X4_mostAlike (F : Nat) (a0 : Int32) (a1 : Int32) (a2 : Int32) (a3 : Int32) : Option (Int32) :=
  (f_X4_mostAlike_b6 F a0 a1 a2 a3 F) (0 : Int32) (0 : Int32)
def f_X4_look_b91 (F : Nat) (a1 : Int32) (t_now_wells : Int32) (t_now_notes : Int32) (t_now_note : Nat → Int32) (t_now_wanted : Nat → Int32) (K46 : Int32 → Int32 → Int32 → Int32 → Int32 → Int32 → Option (Int32 × Int32)) (v2 : Int32) (v3 : Int32) (v4 : Int32) (v5 : Int32) (v6 : Int32) (t_bads : Int32) : Option (Int32 × Int32) :=
  K46 v2 v3 v4 v5 (v6 + (1 : Int32)) t_bads
def f_X4_look_b46 (F : Nat) (a1 : Int32) (t_now_wells : Int32) (t_now_notes : Int32) (t_now_note : Nat → Int32) (t_now_wanted : Nat → Int32) (K37 : Int32 → Int32 → Int32 → Int32 → Int32 → Option (Int32 × Int32)) : Nat → Int32 → Int32 → Int32 → Int32 → Int32 → Int32 → Option (Int32 × Int32)
  | 0, _, _, _, _, _, _ => none
  | n + 1, v2, v3, v4, v5, v6, t_bads =>
    if (30 : Int32) < v6 then
      K37 v2 v3 v4 (v5 + (1 : Int32)) t_bads
    else
      chk (ix a1 5) <|
      (f_X4_mostAlike F v2 (t_now_wanted a1.toNatClampNeg) v5 v6).bind fun o8 =>
      if v3 ≤ o8 then
        (f_X4_look_b91 F a1 t_now_wells t_now_notes t_now_note t_now_wanted (f_X4_look_b46 F a1 t_now_wells t_now_notes t_now_note t_now_wanted K37 n)) v2 v3 v4 v5 v6 t_bads
      else
        (f_X4_look_b91 F a1 t_now_wells t_now_notes t_now_note t_now_wanted (f_X4_look_b46 F a1 t_now_wells t_now_notes t_now_note t_now_wanted K37 n)) v2 o8 (((100 : Int32) * v5) + v6) v5 v6 t_bads
def f_X4_look_b37 (F : Nat) (a1 : Int32) (t_now_wells : Int32) (t_now_notes : Int32) (t_now_note : Nat → Int32) (t_now_wanted : Nat → Int32) : Nat → Int32 → Int32 → Int32 → Int32 → Int32 → Option (Int32 × Int32)
  | 0, _, _, _, _, _ => none
  | n + 1, v2, v3, v4, v5, t_bads =>
    if (2 : Int32) ≤ v5 then
      some (v4, t_bads)
    else
      (f_X4_look_b46 F a1 t_now_wells t_now_notes t_now_note t_now_wanted (f_X4_look_b37 F a1 t_now_wells t_now_notes t_now_note t_now_wanted n) F) v2 v3 v4 v5 (0 : Int32) t_bads
def f_X4_look (F : Nat) (a1 : Int32) (t_now_wells : Int32) (t_now_notes : Int32) (t_now_note : Nat → Int32) (t_now_wanted : Nat → Int32) (t_bads : Int32) : Option (Int32 × Int32) :=
  (f_X1_has F a1 t_now_wells).bind fun o1 =>
  if o1 = 0 then
    (f_X4_bad F t_bads).bind fun o5 =>
    some (o5.1, o5.2)
  else
    (f_X4_kindsOf F a1 t_now_notes t_now_note).bind fun o3 =>
    if o3 = 0 then
      some ((-1 : Int32), t_bads)
    else
      (f_X4_look_b37 F a1 t_now_wells t_now_notes t_now_note t_now_wanted F) o3 (7 : Int32) (-1 : Int32) (0 : Int32) t_bads
def f_X4_bothWouldSwap_b71 (F : Nat) (a1 : Int32) (a2 : Int32) (t_now_pressure : Int32) (t_now_wells : Int32) (t_now_kind : Nat → Int32) (t_now_wanted : Nat → Int32) (K72 : Int32 → Int32 → (Nat → Int32) → (Nat → Int32) → (Nat → Int32) → Option (Int32 × Int32 × (Nat → Int32) × (Nat → Int32) × (Nat → Int32))) (t_now_leftOver : Int32) (t_now_hours : Nat → Int32) (t_now_ahead : Nat → Int32) (t_now_gets : Nat → Int32) : Option (Int32 × Int32 × (Nat → Int32) × (Nat → Int32) × (Nat → Int32)) :=
  K72 (0 : Int32) t_now_leftOver t_now_hours t_now_ahead t_now_gets
def f_X4_bothWouldSwap_b72 (F : Nat) (a1 : Int32) (a2 : Int32) (t_now_pressure : Int32) (t_now_wells : Int32) (t_now_kind : Nat → Int32) (t_now_wanted : Nat → Int32) (s0 : Int32) (t_now_leftOver : Int32) (t_now_hours : Nat → Int32) (t_now_ahead : Nat → Int32) (t_now_gets : Nat → Int32) : Option (Int32 × Int32 × (Nat → Int32) × (Nat → Int32) × (Nat → Int32)) :=
  (f_X1_swapHours F a1 a2 t_now_hours).bind fun o13 =>
  chk (bo s0) <|
  some (s0, t_now_leftOver, o13, t_now_ahead, t_now_gets)
def f_X4_bothWouldSwap (F : Nat) (a1 : Int32) (a2 : Int32) (t_now_pressure : Int32) (t_now_wells : Int32) (t_now_kind : Nat → Int32) (t_now_wanted : Nat → Int32) (t_now_leftOver : Int32) (t_now_hours : Nat → Int32) (t_now_ahead : Nat → Int32) (t_now_gets : Nat → Int32) : Option (Int32 × Int32 × (Nat → Int32) × (Nat → Int32) × (Nat → Int32)) :=
  (f_X1_everyWell F t_now_wells).bind fun o1 =>
  (f_X1_dailyGets F a1 o1 t_now_pressure t_now_wells t_now_hours t_now_kind t_now_wanted t_now_leftOver t_now_ahead t_now_gets).bind fun o3 =>
  (f_X1_dailyGets F a2 o1 t_now_pressure t_now_wells t_now_hours t_now_kind t_now_wanted o3.2.1 o3.2.2.1 o3.2.2.2).bind fun o5 =>
  (f_X1_swapHours F a1 a2 t_now_hours).bind fun o7 =>
  (f_X1_dailyGets F a1 o1 t_now_pressure t_now_wells o7 t_now_kind t_now_wanted o5.2.1 o5.2.2.1 o5.2.2.2).bind fun o9 =>
  if o9.1 ≤ o3.1 then
    (f_X4_bothWouldSwap_b71 F a1 a2 t_now_pressure t_now_wells t_now_kind t_now_wanted (f_X4_bothWouldSwap_b72 F a1 a2 t_now_pressure t_now_wells t_now_kind t_now_wanted)) o9.2.1 o7 o9.2.2.1 o9.2.2.2
  else
    (f_X1_dailyGets F a2 o1 t_now_pressure t_now_wells o7 t_now_kind t_now_wanted o9.2.1 o9.2.2.1 o9.2.2.2).bind fun o11 =>
    if o11.1 ≤ o5.1 then
      (f_X4_bothWouldSwap_b71 F a1 a2 t_now_pressure t_now_wells t_now_kind t_now_wanted (f_X4_bothWouldSwap_b72 F a1 a2 t_now_pressure t_now_wells t_now_kind t_now_wanted)) o11.2.1 o7 o11.2.2.1 o11.2.2.2
    else
      (f_X4_bothWouldSwap_b72 F a1 a2 t_now_pressure t_now_wells t_now_kind t_now_wanted) (1 : Int32) o11.2.1 o7 o11.2.2.1 o11.2.2.2
def f_X4_swaps_b71 (F : Nat) (a1 : Int32) (t_now_pressure : Int32) (t_now_wells : Int32) (t_now_kind : Nat → Int32) (t_now_wanted : Nat → Int32) (K30 : Int32 → Int32 → Int32 → Int32 → Int32 → (Nat → Int32) → (Nat → Int32) → (Nat → Int32) → Option (Int32 × Int32 × Int32 × (Nat → Int32) × (Nat → Int32) × (Nat → Int32))) (v2 : Int32) (v3 : Int32) (v4 : Int32) (t_bads : Int32) (t_now_leftOver : Int32) (t_now_hours : Nat → Int32) (t_now_ahead : Nat → Int32) (t_now_gets : Nat → Int32) : Option (Int32 × Int32 × Int32 × (Nat → Int32) × (Nat → Int32) × (Nat → Int32)) :=
  K30 v2 v3 (v4 + (1 : Int32)) t_bads t_now_leftOver t_now_hours t_now_ahead t_now_gets
def f_X4_swaps_b30 (F : Nat) (a1 : Int32) (t_now_pressure : Int32) (t_now_wells : Int32) (t_now_kind : Nat → Int32) (t_now_wanted : Nat → Int32) (K14 : Int32 → Int32 → Int32 → Int32 → (Nat → Int32) → (Nat → Int32) → (Nat → Int32) → Option (Int32 × Int32 × Int32 × (Nat → Int32) × (Nat → Int32) × (Nat → Int32))) : Nat → Int32 → Int32 → Int32 → Int32 → Int32 → (Nat → Int32) → (Nat → Int32) → (Nat → Int32) → Option (Int32 × Int32 × Int32 × (Nat → Int32) × (Nat → Int32) × (Nat → Int32))
  | 0, _, _, _, _, _, _, _, _ => none
  | n + 1, v2, v3, v4, t_bads, t_now_leftOver, t_now_hours, t_now_ahead, t_now_gets =>
    if t_now_wells ≤ v4 then
      K14 v2 (v3 + (1 : Int32)) t_bads t_now_leftOver t_now_hours t_now_ahead t_now_gets
    else
      (f_X4_bothWouldSwap F v3 v4 t_now_pressure t_now_wells t_now_kind t_now_wanted t_now_leftOver t_now_hours t_now_ahead t_now_gets).bind fun o3 =>
      if o3.1 = 0 then
        (f_X4_swaps_b71 F a1 t_now_pressure t_now_wells t_now_kind t_now_wanted (f_X4_swaps_b30 F a1 t_now_pressure t_now_wells t_now_kind t_now_wanted K14 n)) v2 v3 v4 t_bads o3.2.1 o3.2.2.1 o3.2.2.2.1 o3.2.2.2.2
      else
        if v2 = a1 then
          some (((10 : Int32) * v3) + v4, t_bads, o3.2.1, o3.2.2.1, o3.2.2.2.1, o3.2.2.2.2)
        else
          (f_X4_swaps_b71 F a1 t_now_pressure t_now_wells t_now_kind t_now_wanted (f_X4_swaps_b30 F a1 t_now_pressure t_now_wells t_now_kind t_now_wanted K14 n)) (v2 + (1 : Int32)) v3 v4 t_bads o3.2.1 o3.2.2.1 o3.2.2.2.1 o3.2.2.2.2
def f_X4_swaps_b14 (F : Nat) (a1 : Int32) (t_now_pressure : Int32) (t_now_wells : Int32) (t_now_kind : Nat → Int32) (t_now_wanted : Nat → Int32) : Nat → Int32 → Int32 → Int32 → Int32 → (Nat → Int32) → (Nat → Int32) → (Nat → Int32) → Option (Int32 × Int32 × Int32 × (Nat → Int32) × (Nat → Int32) × (Nat → Int32))
  | 0, _, _, _, _, _, _, _ => none
  | n + 1, v2, v3, t_bads, t_now_leftOver, t_now_hours, t_now_ahead, t_now_gets =>
    if t_now_wells ≤ v3 then
      if a1 = (-1 : Int32) then
        some (v2, t_bads, t_now_leftOver, t_now_hours, t_now_ahead, t_now_gets)
      else
        some ((-5 : Int32), t_bads, t_now_leftOver, t_now_hours, t_now_ahead, t_now_gets)
    else
      (f_X4_swaps_b30 F a1 t_now_pressure t_now_wells t_now_kind t_now_wanted (f_X4_swaps_b14 F a1 t_now_pressure t_now_wells t_now_kind t_now_wanted n) F) v2 v3 (v3 + (1 : Int32)) t_bads t_now_leftOver t_now_hours t_now_ahead t_now_gets
def f_X4_swaps (F : Nat) (a1 : Int32) (t_now_pressure : Int32) (t_now_wells : Int32) (t_now_kind : Nat → Int32) (t_now_wanted : Nat → Int32) (t_bads : Int32) (t_now_leftOver : Int32) (t_now_hours : Nat → Int32) (t_now_ahead : Nat → Int32) (t_now_gets : Nat → Int32) : Option (Int32 × Int32 × Int32 × (Nat → Int32) × (Nat → Int32) × (Nat → Int32)) :=
  if (-1 : Int32) ≤ a1 then
    (f_X4_swaps_b14 F a1 t_now_pressure t_now_wells t_now_kind t_now_wanted F) (0 : Int32) (0 : Int32) t_bads t_now_leftOver t_now_hours t_now_ahead t_now_gets
  else
    (f_X4_badHere F t_bads).bind fun o1 =>
    some (o1.1, o1.2, t_now_leftOver, t_now_hours, t_now_ahead, t_now_gets)
def f_X4_toWell (F : Nat) (a0 : Int32) (a1 : Int32) (a2 : Int32) (a3 : Int32) : Option (Int32) :=
  if a1 = 0 then
    some ((0 : Int32))
  else
    if a0 = 0 then
      some (a2)
    else
      if a3 = 0 then
        some (a2)
      else
        some (a2 - (20 : Int32))
def f_X4_toInspector (F : Nat) (a0 : Int32) (a1 : Int32) (a2 : Int32) : Option (Int32) :=
  if a0 = 0 then
    some ((0 : Int32))
  else
    if a1 = 0 then
      some ((-1 : Int32))
    else
      if a2 = 0 then
        some ((-1 : Int32))
      else
        some ((5 : Int32))
def f_X4_rests_b40 (F : Nat) (a0 : Int32) (a1 : Int32) (a2 : Int32) (a3 : Int32) (s0 : Int32) (s1 : Int32) : Option (Int32) :=
  (f_X4_toInspector F s1 a1 a3).bind fun o7 =>
  if s0 < o7 then
    some ((0 : Int32))
  else
    some ((1 : Int32))
def f_X4_rests_b17 (F : Nat) (a0 : Int32) (a1 : Int32) (a2 : Int32) (a3 : Int32) (s0 : Int32) (s1 : Int32) (s2 : Int32) : Option (Int32) :=
  (f_X4_toWell F s1 s2 a2 a3).bind fun o3 =>
  if s0 < o3 then
    some ((0 : Int32))
  else
    (f_X4_toInspector F a0 a1 a3).bind fun o5 =>
    if a0 = 0 then
      (f_X4_rests_b40 F a0 a1 a2 a3) o5 (1 : Int32)
    else
      (f_X4_rests_b40 F a0 a1 a2 a3) o5 (0 : Int32)
def f_X4_rests (F : Nat) (a0 : Int32) (a1 : Int32) (a2 : Int32) (a3 : Int32) : Option (Int32) :=
  (f_X4_toWell F a0 a1 a2 a3).bind fun o1 =>
  if a1 = 0 then
    (f_X4_rests_b17 F a0 a1 a2 a3) o1 a0 (1 : Int32)
  else
    (f_X4_rests_b17 F a0 a1 a2 a3) o1 a0 (0 : Int32)
def f_X4_inspector_b18 (F : Nat) (a1 : Int32) (a2 : Int32) (t_now_pressure : Int32) (t_now_wells : Int32) (t_now_hours : Nat → Int32) (t_now_kind : Nat → Int32) (t_now_wanted : Nat → Int32) (t_bads : Int32) (t_nos : Int32) (t_now_leftOver : Int32) (t_now_ahead : Nat → Int32) (t_now_gets : Nat → Int32) : Option (Int32 × Int32 × Int32 × Int32 × (Nat → Int32) × (Nat → Int32)) :=
  (f_X4_bad F t_bads).bind fun o12 =>
  some (o12.1, o12.2, t_nos, t_now_leftOver, t_now_ahead, t_now_gets)
def f_X4_inspector_b133 (F : Nat) (a1 : Int32) (a2 : Int32) (t_now_pressure : Int32) (t_now_wells : Int32) (t_now_hours : Nat → Int32) (t_now_kind : Nat → Int32) (t_now_wanted : Nat → Int32) (K83 : Int32 → Int32 → Int32 → Int32 → Int32 → Int32 → Int32 → (Nat → Int32) → (Nat → Int32) → Option (Int32 × Int32 × Int32 × Int32 × (Nat → Int32) × (Nat → Int32))) (v3 : Int32) (v4 : Int32) (v5 : Int32) (v6 : Int32) (t_bads : Int32) (t_nos : Int32) (t_now_leftOver : Int32) (t_now_ahead : Nat → Int32) (t_now_gets : Nat → Int32) : Option (Int32 × Int32 × Int32 × Int32 × (Nat → Int32) × (Nat → Int32)) :=
  K83 v3 v4 v5 (v6 + (1 : Int32)) t_bads t_nos t_now_leftOver t_now_ahead t_now_gets
def f_X4_inspector_b115 (F : Nat) (a1 : Int32) (a2 : Int32) (t_now_pressure : Int32) (t_now_wells : Int32) (t_now_hours : Nat → Int32) (t_now_kind : Nat → Int32) (t_now_wanted : Nat → Int32) (K83 : Int32 → Int32 → Int32 → Int32 → Int32 → Int32 → Int32 → (Nat → Int32) → (Nat → Int32) → Option (Int32 × Int32 × Int32 × Int32 × (Nat → Int32) × (Nat → Int32))) (v3 : Int32) (v4 : Int32) (v5 : Int32) (v6 : Int32) (s0 : Int32) (s1 : Int32) (t_bads : Int32) (t_nos : Int32) (t_now_leftOver : Int32) (t_now_ahead : Nat → Int32) (t_now_gets : Nat → Int32) : Option (Int32 × Int32 × Int32 × Int32 × (Nat → Int32) × (Nat → Int32)) :=
  (f_X4_rests F s0 s1 v3 v4).bind fun o14 =>
  if o14 = 0 then
    (f_X4_inspector_b133 F a1 a2 t_now_pressure t_now_wells t_now_hours t_now_kind t_now_wanted K83) v3 v4 v5 v6 t_bads t_nos t_now_leftOver t_now_ahead t_now_gets
  else
    (f_X4_inspector_b133 F a1 a2 t_now_pressure t_now_wells t_now_hours t_now_kind t_now_wanted K83) v3 v4 (v5 ||| ((1 : Int32) <<< (v6 &&& 31))) v6 t_bads t_nos t_now_leftOver t_now_ahead t_now_gets
def f_X4_inspector_b102 (F : Nat) (a1 : Int32) (a2 : Int32) (t_now_pressure : Int32) (t_now_wells : Int32) (t_now_hours : Nat → Int32) (t_now_kind : Nat → Int32) (t_now_wanted : Nat → Int32) (K83 : Int32 → Int32 → Int32 → Int32 → Int32 → Int32 → Int32 → (Nat → Int32) → (Nat → Int32) → Option (Int32 × Int32 × Int32 × Int32 × (Nat → Int32) × (Nat → Int32))) (v3 : Int32) (v4 : Int32) (v5 : Int32) (v6 : Int32) (s0 : Int32) (t_bads : Int32) (t_nos : Int32) (t_now_leftOver : Int32) (t_now_ahead : Nat → Int32) (t_now_gets : Nat → Int32) : Option (Int32 × Int32 × Int32 × Int32 × (Nat → Int32) × (Nat → Int32)) :=
  if (v6 &&& (2 : Int32)) = (2 : Int32) then
    (f_X4_inspector_b115 F a1 a2 t_now_pressure t_now_wells t_now_hours t_now_kind t_now_wanted K83) v3 v4 v5 v6 s0 (1 : Int32) t_bads t_nos t_now_leftOver t_now_ahead t_now_gets
  else
    (f_X4_inspector_b115 F a1 a2 t_now_pressure t_now_wells t_now_hours t_now_kind t_now_wanted K83) v3 v4 v5 v6 s0 (0 : Int32) t_bads t_nos t_now_leftOver t_now_ahead t_now_gets
def f_X4_inspector_b83 (F : Nat) (a1 : Int32) (a2 : Int32) (t_now_pressure : Int32) (t_now_wells : Int32) (t_now_hours : Nat → Int32) (t_now_kind : Nat → Int32) (t_now_wanted : Nat → Int32) : Nat → Int32 → Int32 → Int32 → Int32 → Int32 → Int32 → Int32 → (Nat → Int32) → (Nat → Int32) → Option (Int32 × Int32 × Int32 × Int32 × (Nat → Int32) × (Nat → Int32))
  | 0, _, _, _, _, _, _, _, _, _ => none
  | n + 1, v3, v4, v5, v6, t_bads, t_nos, t_now_leftOver, t_now_ahead, t_now_gets =>
    if (4 : Int32) ≤ v6 then
      some (v5, t_bads, t_nos, t_now_leftOver, t_now_ahead, t_now_gets)
    else
      if (v6 &&& (1 : Int32)) = (1 : Int32) then
        (f_X4_inspector_b102 F a1 a2 t_now_pressure t_now_wells t_now_hours t_now_kind t_now_wanted (f_X4_inspector_b83 F a1 a2 t_now_pressure t_now_wells t_now_hours t_now_kind t_now_wanted n)) v3 v4 v5 v6 (1 : Int32) t_bads t_nos t_now_leftOver t_now_ahead t_now_gets
      else
        (f_X4_inspector_b102 F a1 a2 t_now_pressure t_now_wells t_now_hours t_now_kind t_now_wanted (f_X4_inspector_b83 F a1 a2 t_now_pressure t_now_wells t_now_hours t_now_kind t_now_wanted n)) v3 v4 v5 v6 (0 : Int32) t_bads t_nos t_now_leftOver t_now_ahead t_now_gets
def f_X4_inspector_b75 (F : Nat) (a1 : Int32) (a2 : Int32) (t_now_pressure : Int32) (t_now_wells : Int32) (t_now_hours : Nat → Int32) (t_now_kind : Nat → Int32) (t_now_wanted : Nat → Int32) (v3 : Int32) (s0 : Int32) (t_bads : Int32) (t_nos : Int32) (t_now_leftOver : Int32) (t_now_ahead : Nat → Int32) (t_now_gets : Nat → Int32) : Option (Int32 × Int32 × Int32 × Int32 × (Nat → Int32) × (Nat → Int32)) :=
  (f_X4_inspector_b83 F a1 a2 t_now_pressure t_now_wells t_now_hours t_now_kind t_now_wanted F) v3 s0 (0 : Int32) (0 : Int32) t_bads t_nos t_now_leftOver t_now_ahead t_now_gets
def f_X4_inspector (F : Nat) (a1 : Int32) (a2 : Int32) (t_now_pressure : Int32) (t_now_wells : Int32) (t_now_hours : Nat → Int32) (t_now_kind : Nat → Int32) (t_now_wanted : Nat → Int32) (t_bads : Int32) (t_nos : Int32) (t_now_leftOver : Int32) (t_now_ahead : Nat → Int32) (t_now_gets : Nat → Int32) : Option (Int32 × Int32 × Int32 × Int32 × (Nat → Int32) × (Nat → Int32)) :=
  (f_X1_has F a1 t_now_wells).bind fun o1 =>
  if o1 = 0 then
    (f_X4_inspector_b18 F a1 a2 t_now_pressure t_now_wells t_now_hours t_now_kind t_now_wanted) t_bads t_nos t_now_leftOver t_now_ahead t_now_gets
  else
    (f_X4_isHour F a2).bind fun o3 =>
    if o3 = 0 then
      (f_X4_inspector_b18 F a1 a2 t_now_pressure t_now_wells t_now_hours t_now_kind t_now_wanted) t_bads t_nos t_now_leftOver t_now_ahead t_now_gets
    else
      (f_X1_isOpen F a1 a2 t_now_hours).bind fun o5 =>
      if o5 = 0 then
        (f_X4_no F t_nos).bind fun o10 =>
        some (o10.1, t_bads, o10.2, t_now_leftOver, t_now_ahead, t_now_gets)
      else
        (f_X1_getsAt F a1 a2 t_now_pressure t_now_wells t_now_hours t_now_kind t_now_wanted t_now_leftOver t_now_ahead t_now_gets).bind fun o7 =>
        chk (ix a1 5) <|
        if (t_now_kind a1.toNatClampNeg) = (3 : Int32) then
          (f_X4_inspector_b75 F a1 a2 t_now_pressure t_now_wells t_now_hours t_now_kind t_now_wanted) o7.1 (1 : Int32) t_bads t_nos o7.2.1 o7.2.2.1 o7.2.2.2
        else
          (f_X4_inspector_b75 F a1 a2 t_now_pressure t_now_wells t_now_hours t_now_kind t_now_wanted) o7.1 (0 : Int32) t_bads t_nos o7.2.1 o7.2.2.1 o7.2.2.2
def f_X4_commonDivisor_b7 (F : Nat) (a0 : Int32) (a1 : Int32) : Nat → Int32 → Int32 → Int32 → Option (Int32)
  | 0, _, _, _ => none
  | n + 1, v2, v3, v4 =>
    if (100 : Int32) ≤ v4 then
      some (v2)
    else
      if v3 = 0 then
        some (v2)
      else
        chk (decide (¬ v3 = 0)) <|
        (f_X4_commonDivisor_b7 F a0 a1 n) v3 (v2 - v2 / v3 * v3) (v4 + (1 : Int32))
def f_X4_commonDivisor (F : Nat) (a0 : Int32) (a1 : Int32) : Option (Int32) :=
  (f_X4_commonDivisor_b7 F a0 a1 F) a0 a1 (0 : Int32)
def f_X4_setFraction (F : Nat) (a1 : Int32) (a2 : Int32) (t_above : Int32) (t_below : Int32) : Option (Int32 × Int32) :=
  (f_X4_commonDivisor F a1 a2).bind fun o1 =>
  if o1 = 0 then
    some (t_above, t_below)
  else
    chk (decide (¬ o1 = 0)) <|
    chk (decide (¬ o1 = 0)) <|
    some (a1 / o1, a2 / o1)
def f_X4_noons_b28 (F : Nat) (a1 : Int32) (a2 : Int32) (a3 : Int32) (t_now_pressure : Int32) (t_now_wells : Int32) (t_now_hours : Nat → Int32) (t_now_kind : Nat → Int32) (t_now_wanted : Nat → Int32) (t_above : Int32) (t_below : Int32) (t_bads : Int32) (t_now_leftOver : Int32) (t_now_ahead : Nat → Int32) (t_now_gets : Nat → Int32) : Option (Int32 × Int32 × Int32 × Int32 × Int32 × (Nat → Int32) × (Nat → Int32)) :=
  (f_X4_bad F t_bads).bind fun o13 =>
  some (o13.1, t_above, t_below, o13.2, t_now_leftOver, t_now_ahead, t_now_gets)
def f_X4_noons (F : Nat) (a1 : Int32) (a2 : Int32) (a3 : Int32) (t_now_pressure : Int32) (t_now_wells : Int32) (t_now_hours : Nat → Int32) (t_now_kind : Nat → Int32) (t_now_wanted : Nat → Int32) (t_above : Int32) (t_below : Int32) (t_bads : Int32) (t_now_leftOver : Int32) (t_now_ahead : Nat → Int32) (t_now_gets : Nat → Int32) : Option (Int32 × Int32 × Int32 × Int32 × Int32 × (Nat → Int32) × (Nat → Int32)) :=
  (f_X1_has F a1 t_now_wells).bind fun o1 =>
  if o1 = 0 then
    (f_X4_noons_b28 F a1 a2 a3 t_now_pressure t_now_wells t_now_hours t_now_kind t_now_wanted) t_above t_below t_bads t_now_leftOver t_now_ahead t_now_gets
  else
    (f_X4_isHour F a2).bind fun o3 =>
    if o3 = 0 then
      (f_X4_noons_b28 F a1 a2 a3 t_now_pressure t_now_wells t_now_hours t_now_kind t_now_wanted) t_above t_below t_bads t_now_leftOver t_now_ahead t_now_gets
    else
      (f_X4_within F a3 (0 : Int32) (10 : Int32)).bind fun o5 =>
      if o5 = 0 then
        (f_X4_noons_b28 F a1 a2 a3 t_now_pressure t_now_wells t_now_hours t_now_kind t_now_wanted) t_above t_below t_bads t_now_leftOver t_now_ahead t_now_gets
      else
        (f_X1_getsAt F a1 a2 (t_now_pressure / (2 : Int32)) t_now_wells t_now_hours t_now_kind t_now_wanted t_now_leftOver t_now_ahead t_now_gets).bind fun o7 =>
        (f_X1_getsAt F a1 a2 t_now_pressure t_now_wells t_now_hours t_now_kind t_now_wanted o7.2.1 o7.2.2.1 o7.2.2.2).bind fun o9 =>
        (f_X4_setFraction F ((a3 * o7.1) + (((10 : Int32) - a3) * o9.1)) (10 : Int32) t_above t_below).bind fun o11 =>
        some ((1 : Int32), o11.1, o11.2, t_bads, o9.2.1, o9.2.2.1, o9.2.2.2)
def f_X4_years_b20 (F : Nat) (a1 : Int32) (a2 : Int32) (t_now_wells : Int32) (t_now_hours : Nat → Int32) (t_now_kind : Nat → Int32) (t_now_wanted : Nat → Int32) (t_bads : Int32) (t_now_leftOver : Int32) (t_now_ahead : Nat → Int32) (t_now_gets : Nat → Int32) : Option (Int32 × Int32 × Int32 × (Nat → Int32) × (Nat → Int32)) :=
  (f_X4_bad F t_bads).bind fun o5 =>
  some (o5.1, o5.2, t_now_leftOver, t_now_ahead, t_now_gets)
def f_X4_years_b34 (F : Nat) (a1 : Int32) (a2 : Int32) (t_now_wells : Int32) (t_now_hours : Nat → Int32) (t_now_kind : Nat → Int32) (t_now_wanted : Nat → Int32) : Nat → Int64 → Int32 → Int32 → Int32 → Int32 → (Nat → Int32) → (Nat → Int32) → Option (Int32 × Int32 × Int32 × (Nat → Int32) × (Nat → Int32))
  | 0, _, _, _, _, _, _, _ => none
  | n + 1, v3, v5, v6, t_bads, t_now_leftOver, t_now_ahead, t_now_gets =>
    if a2 ≤ v6 then
      some (v5, t_bads, t_now_leftOver, t_now_ahead, t_now_gets)
    else
      (f_X1_dailyOfAll F ((((((v3 * (1103515245 : Int64)) + (12345 : Int64)) - ((v3 * (1103515245 : Int64)) + (12345 : Int64)) / (2147483648 : Int64) * (2147483648 : Int64)) / (65536 : Int64)) - ((((v3 * (1103515245 : Int64)) + (12345 : Int64)) - ((v3 * (1103515245 : Int64)) + (12345 : Int64)) / (2147483648 : Int64) * (2147483648 : Int64)) / (65536 : Int64)) / (61 : Int64) * (61 : Int64)).toInt32) t_now_wells t_now_hours t_now_kind t_now_wanted t_now_leftOver t_now_ahead t_now_gets).bind fun o7 =>
      (f_X4_years_b34 F a1 a2 t_now_wells t_now_hours t_now_kind t_now_wanted n) (((v3 * (1103515245 : Int64)) + (12345 : Int64)) - ((v3 * (1103515245 : Int64)) + (12345 : Int64)) / (2147483648 : Int64) * (2147483648 : Int64)) (v5 + o7.1) (v6 + (1 : Int32)) t_bads o7.2.1 o7.2.2.1 o7.2.2.2
def f_X4_years (F : Nat) (a1 : Int32) (a2 : Int32) (t_now_wells : Int32) (t_now_hours : Nat → Int32) (t_now_kind : Nat → Int32) (t_now_wanted : Nat → Int32) (t_bads : Int32) (t_now_leftOver : Int32) (t_now_ahead : Nat → Int32) (t_now_gets : Nat → Int32) : Option (Int32 × Int32 × Int32 × (Nat → Int32) × (Nat → Int32)) :=
  (f_X4_within F a1 (0 : Int32) (999999 : Int32)).bind fun o1 =>
  if o1 = 0 then
    (f_X4_years_b20 F a1 a2 t_now_wells t_now_hours t_now_kind t_now_wanted) t_bads t_now_leftOver t_now_ahead t_now_gets
  else
    (f_X4_within F a2 (0 : Int32) (60 : Int32)).bind fun o3 =>
    if o3 = 0 then
      (f_X4_years_b20 F a1 a2 t_now_wells t_now_hours t_now_kind t_now_wanted) t_bads t_now_leftOver t_now_ahead t_now_gets
    else
      (f_X4_years_b34 F a1 a2 t_now_wells t_now_hours t_now_kind t_now_wanted F) a1.toInt64 (0 : Int32) (0 : Int32) t_bads t_now_leftOver t_now_ahead t_now_gets
def f_X4_part (F : Nat) (a1 : Int32) (t_above : Int32) (t_below : Int32) (t_bads : Int32) : Option (Int64 × Int32) :=
  (f_X4_within F a1 (0 : Int32) (1 : Int32)).bind fun o1 =>
  if o1 = 0 then
    (f_X4_bad F t_bads).bind fun o3 =>
    some (o3.1.toInt64, o3.2)
  else
    if a1 = 0 then
      some (t_above.toInt64, t_bads)
    else
      some (t_below.toInt64, t_bads)
def f_X4_status (F : Nat) (a1 : Int32) (t_nos : Int32) (t_fulls : Int32) (t_bads : Int32) : Option (Int32 × Int32) :=
  if a1 = (0 : Int32) then
    some (t_bads, t_bads)
  else
  if a1 = (1 : Int32) then
    some (t_nos, t_bads)
  else
  if a1 = (2 : Int32) then
    some (t_fulls, t_bads)
  else
    some ((-1 : Int32), t_bads + (1 : Int32))
def f_X4_howMany (F : Nat) (a1 : Int32) (t_now_pressure : Int32) (t_now_day : Int32) (t_now_wells : Int32) (t_now_lefts : Int32) (t_now_notes : Int32) (t_now_undos : Int32) (t_now_had : Nat → Int32) (t_now_due : Nat → Int32) (t_reader_length : Int32) : Option (Int32) :=
  if a1 = (0 : Int32) then
    some (t_now_wells)
  else
  if a1 = (1 : Int32) then
    some (t_now_pressure)
  else
  if a1 = (2 : Int32) then
    some (t_now_day)
  else
  if a1 = (3 : Int32) then
    (f_X1_sumOf F 5 t_now_wells t_now_had).bind fun o1 =>
    some (o1)
  else
  if a1 = (4 : Int32) then
    (f_X1_sumOf F 5 t_now_wells t_now_due).bind fun o3 =>
    some (o3)
  else
  if a1 = (5 : Int32) then
    some (t_now_lefts)
  else
  if a1 = (6 : Int32) then
    some (t_now_notes)
  else
  if a1 = (7 : Int32) then
    some (t_now_undos)
  else
    some (t_reader_length)
def f_X4_count (F : Nat) (a1 : Int32) (t_now_pressure : Int32) (t_now_day : Int32) (t_now_wells : Int32) (t_now_lefts : Int32) (t_now_notes : Int32) (t_now_undos : Int32) (t_now_had : Nat → Int32) (t_now_due : Nat → Int32) (t_reader_length : Int32) (t_bads : Int32) : Option (Int32 × Int32) :=
  (f_X4_within F a1 (0 : Int32) (8 : Int32)).bind fun o1 =>
  if o1 = 0 then
    (f_X4_bad F t_bads).bind fun o5 =>
    some (o5.1, o5.2)
  else
    (f_X4_howMany F a1 t_now_pressure t_now_day t_now_wells t_now_lefts t_now_notes t_now_undos t_now_had t_now_due t_reader_length).bind fun o3 =>
    some (o3, t_bads)
def f_X4_digest_b190 (F : Nat) (t_above : Int32) (t_below : Int32) (t_now_pressure : Int32) (t_now_day : Int32) (t_now_wells : Int32) (t_now_lefts : Int32) (t_now_notes : Int32) (t_now_undos : Int32) (t_now_had : Nat → Int32) (t_now_due : Nat → Int32) (t_reader_length : Int32) (t_now_kind : Nat → Int32) (t_now_wanted : Nat → Int32) (t_now_hours : Nat → Int32) (t_now_leftHour : Nat → Int32) (t_now_leftPressure : Nat → Int32) (t_now_note : Nat → Int32) : Nat → Int64 → Int32 → Option (Int64)
  | 0, _, _ => none
  | n + 1, v1, v3 =>
    if (t_now_notes * (6 : Int32)) ≤ v3 then
      some (((31 : Int64) * (((31 : Int64) * v1) + t_above.toInt64)) + t_below.toInt64)
    else
      chk (ix v3 36) <|
      (f_X4_digest_b190 F t_above t_below t_now_pressure t_now_day t_now_wells t_now_lefts t_now_notes t_now_undos t_now_had t_now_due t_reader_length t_now_kind t_now_wanted t_now_hours t_now_leftHour t_now_leftPressure t_now_note n) (((31 : Int64) * v1) + ((t_now_note v3.toNatClampNeg).toInt64)) (v3 + (1 : Int32))
def f_X4_digest_b137 (F : Nat) (t_above : Int32) (t_below : Int32) (t_now_pressure : Int32) (t_now_day : Int32) (t_now_wells : Int32) (t_now_lefts : Int32) (t_now_notes : Int32) (t_now_undos : Int32) (t_now_had : Nat → Int32) (t_now_due : Nat → Int32) (t_reader_length : Int32) (t_now_kind : Nat → Int32) (t_now_wanted : Nat → Int32) (t_now_hours : Nat → Int32) (t_now_leftHour : Nat → Int32) (t_now_leftPressure : Nat → Int32) (t_now_note : Nat → Int32) : Nat → Int64 → Int32 → Option (Int64)
  | 0, _, _ => none
  | n + 1, v1, v3 =>
    if t_now_lefts ≤ v3 then
      (f_X4_digest_b190 F t_above t_below t_now_pressure t_now_day t_now_wells t_now_lefts t_now_notes t_now_undos t_now_had t_now_due t_reader_length t_now_kind t_now_wanted t_now_hours t_now_leftHour t_now_leftPressure t_now_note F) v1 (0 : Int32)
    else
      chk (ix v3 4) <|
      chk (ix v3 4) <|
      (f_X4_digest_b137 F t_above t_below t_now_pressure t_now_day t_now_wells t_now_lefts t_now_notes t_now_undos t_now_had t_now_due t_reader_length t_now_kind t_now_wanted t_now_hours t_now_leftHour t_now_leftPressure t_now_note n) (((31 : Int64) * (((31 : Int64) * v1) + ((t_now_leftHour v3.toNatClampNeg).toInt64))) + ((t_now_leftPressure v3.toNatClampNeg).toInt64)) (v3 + (1 : Int32))
def f_X4_digest_b33 (F : Nat) (t_above : Int32) (t_below : Int32) (t_now_pressure : Int32) (t_now_day : Int32) (t_now_wells : Int32) (t_now_lefts : Int32) (t_now_notes : Int32) (t_now_undos : Int32) (t_now_had : Nat → Int32) (t_now_due : Nat → Int32) (t_reader_length : Int32) (t_now_kind : Nat → Int32) (t_now_wanted : Nat → Int32) (t_now_hours : Nat → Int32) (t_now_leftHour : Nat → Int32) (t_now_leftPressure : Nat → Int32) (t_now_note : Nat → Int32) : Nat → Int64 → Int32 → Option (Int64)
  | 0, _, _ => none
  | n + 1, v1, v3 =>
    if t_now_wells ≤ v3 then
      (f_X4_digest_b137 F t_above t_below t_now_pressure t_now_day t_now_wells t_now_lefts t_now_notes t_now_undos t_now_had t_now_due t_reader_length t_now_kind t_now_wanted t_now_hours t_now_leftHour t_now_leftPressure t_now_note F) v1 (0 : Int32)
    else
      chk (ix v3 5) <|
      chk (ix v3 5) <|
      chk (ix v3 5) <|
      chk (ix v3 5) <|
      chk (ix v3 5) <|
      (f_X4_digest_b33 F t_above t_below t_now_pressure t_now_day t_now_wells t_now_lefts t_now_notes t_now_undos t_now_had t_now_due t_reader_length t_now_kind t_now_wanted t_now_hours t_now_leftHour t_now_leftPressure t_now_note n) (((31 : Int64) * (((31 : Int64) * (((31 : Int64) * (((31 : Int64) * (((31 : Int64) * v1) + ((t_now_kind v3.toNatClampNeg).toInt64))) + ((t_now_wanted v3.toNatClampNeg).toInt64))) + ((t_now_hours v3.toNatClampNeg).toInt64))) + ((t_now_had v3.toNatClampNeg).toInt64))) + ((t_now_due v3.toNatClampNeg).toInt64)) (v3 + (1 : Int32))
def f_X4_digest_b6 (F : Nat) (t_above : Int32) (t_below : Int32) (t_now_pressure : Int32) (t_now_day : Int32) (t_now_wells : Int32) (t_now_lefts : Int32) (t_now_notes : Int32) (t_now_undos : Int32) (t_now_had : Nat → Int32) (t_now_due : Nat → Int32) (t_reader_length : Int32) (t_now_kind : Nat → Int32) (t_now_wanted : Nat → Int32) (t_now_hours : Nat → Int32) (t_now_leftHour : Nat → Int32) (t_now_leftPressure : Nat → Int32) (t_now_note : Nat → Int32) : Nat → Int64 → Int32 → Option (Int64)
  | 0, _, _ => none
  | n + 1, v1, v3 =>
    if (8 : Int32) < v3 then
      (f_X4_digest_b33 F t_above t_below t_now_pressure t_now_day t_now_wells t_now_lefts t_now_notes t_now_undos t_now_had t_now_due t_reader_length t_now_kind t_now_wanted t_now_hours t_now_leftHour t_now_leftPressure t_now_note F) v1 (0 : Int32)
    else
      (f_X4_howMany F v3 t_now_pressure t_now_day t_now_wells t_now_lefts t_now_notes t_now_undos t_now_had t_now_due t_reader_length).bind fun o1 =>
      (f_X4_digest_b6 F t_above t_below t_now_pressure t_now_day t_now_wells t_now_lefts t_now_notes t_now_undos t_now_had t_now_due t_reader_length t_now_kind t_now_wanted t_now_hours t_now_leftHour t_now_leftPressure t_now_note n) (((31 : Int64) * v1) + o1.toInt64) (v3 + (1 : Int32))
def f_X4_digest (F : Nat) (t_above : Int32) (t_below : Int32) (t_now_pressure : Int32) (t_now_day : Int32) (t_now_wells : Int32) (t_now_lefts : Int32) (t_now_notes : Int32) (t_now_undos : Int32) (t_now_had : Nat → Int32) (t_now_due : Nat → Int32) (t_reader_length : Int32) (t_now_kind : Nat → Int32) (t_now_wanted : Nat → Int32) (t_now_hours : Nat → Int32) (t_now_leftHour : Nat → Int32) (t_now_leftPressure : Nat → Int32) (t_now_note : Nat → Int32) : Option (Int64) :=
  (f_X4_digest_b6 F t_above t_below t_now_pressure t_now_day t_now_wells t_now_lefts t_now_notes t_now_undos t_now_had t_now_due t_reader_length t_now_kind t_now_wanted t_now_hours t_now_leftHour t_now_leftPressure t_now_note F) (1439 : Int64) (0 : Int32)
