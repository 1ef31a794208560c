set_option maxRecDepth 100000 in
theorem e_Mo_adds_0 (d : Nat) (x1 : Int32) (h : Bool × Nat × Nat) (I : Nat → Nat → Int32) (L : Nat → Nat → Int64) : ev_do (d + 1) M_Mo_adds [.ref 139, .int x1] (ev_mk h I L) =
  (if 15 < ((I 139 26) + 1) then
    ev_at d M_Mo_adds 21 [.ref 139, .int x1, .int 0] [] (ev_mk h (ev_up I 139 26 ((I 139 26) + 1)) L)
  else
    ev_ri x1 (ev_mk h (ev_up I 139 26 ((I 139 26) + 1)) L)) := 
  (ev_eq true (ev_call true d) M_Mo_adds 0 [.ref 139, .int x1, .float 0] [] (ev_mk h I L)).trans rfl
set_option maxRecDepth 100000 in
theorem e_Mo_adds_21 (d : Nat) (x1 x2 : Int32) (h : Bool × Nat × Nat) (I : Nat → Nat → Int32) (L : Nat → Nat → Int64) : ev_at d M_Mo_adds 21 [.ref 139, .int x1, .int x2] [] (ev_mk h I L) =
  (if x2 < 405 then
    (if ev_in (x2 + 27) 432 then
      (if ev_in x2 432 then
        ev_at d M_Mo_adds 21 [.ref 139, .int x1, .int (x2 + 1)] [] (ev_mk h (ev_up I 155 x2.toNatClampNeg (I 155 ((x2 + 27).toNatClampNeg))) L)
      else none)
    else none)
  else
    ev_ri x1 (ev_mk h (ev_up I 139 26 ((I 139 26) - 1)) L)) := 
  (ev_eq true (ev_call true d) M_Mo_adds 21 [.ref 139, .int x1, .int x2] [] (ev_mk h I L)).trans rfl
set_option maxRecDepth 100000 in
theorem e_Mo_again_0 (d : Nat) (x1 : Int32) (h : Bool × Nat × Nat) (I : Nat → Nat → Int32) (L : Nat → Nat → Int64) : ev_do (d + 1) M_Mo_again [.ref 139, .int x1] (ev_mk h I L) =
  ev_cI (ev_do d M_Mo_in [.long x1.toInt64, .long 0, .long 2] (ev_mk h (ev_up I 139 0 0) L)) (fun v2 s1 =>
    (if v2 = 0 then
      ev_ri 0 (ev_mk s1.1.2 s1.2.1 s1.2.2.1)
    else
      (if ev_in x1 3 then
        (if (s1.2.1 171 x1.toNatClampNeg) = 0 then
          ev_ri 0 (ev_mk s1.1.2 s1.2.1 s1.2.2.1)
        else
          (if ev_in x1 3 then
            (if (s1.2.1 172 x1.toNatClampNeg) = (s1.2.1 139 4) then
              ev_at d M_Mo_again 43 [.ref 139, .int x1, .int 0] [] (ev_mk s1.1.2 s1.2.1 s1.2.2.1)
            else
              ev_ri 0 (ev_mk s1.1.2 s1.2.1 s1.2.2.1))
          else none))
      else none))) := 
  (ev_eq true (ev_call true d) M_Mo_again 0 [.ref 139, .int x1, .float 0] [] (ev_mk h I L)).trans rfl
set_option maxRecDepth 100000 in
theorem e_Mo_again_43 (d : Nat) (x1 x2 : Int32) (h : Bool × Nat × Nat) (I : Nat → Nat → Int32) (L : Nat → Nat → Int64) : ev_at d M_Mo_again 43 [.ref 139, .int x1, .int x2] [] (ev_mk h I L) =
  (if x2 < 27 then
    (if ev_in ((27 * x1) + x2) 81 then
      (if ev_in x2 27 then
        ev_at d M_Mo_again 43 [.ref 139, .int x1, .int (x2 + 1)] [] (ev_mk h (ev_up I 143 x2.toNatClampNeg (I 173 (((27 * x1) + x2).toNatClampNeg))) L)
      else none)
    else none)
  else
    ev_ri 1 (ev_mk h (ev_up I 139 26 0) L)) := 
  (ev_eq true (ev_call true d) M_Mo_again 43 [.ref 139, .int x1, .int x2] [] (ev_mk h I L)).trans rfl
set_option maxRecDepth 100000 in
theorem e_Mo_ahead_0 (d : Nat) (x1 : Int32) (h : Bool × Nat × Nat) (I : Nat → Nat → Int32) (L : Nat → Nat → Int64) : ev_do (d + 1) M_Mo_ahead [.ref 139, .int x1] (ev_mk h I L) =
  ev_cI (ev_do d M_Mo_in [.long x1.toInt64, .long 0, .long 99] (ev_mk h (ev_up I 139 0 0) L)) (fun v2 s1 =>
    (if v2 = 0 then
      ev_ri (-1) (ev_mk s1.1.2 s1.2.1 s1.2.2.1)
    else
      ev_cV (ev_do d M_Mo_copies [.ref 139] (ev_mk s1.1.2 s1.2.1 s1.2.2.1)) (fun s3 =>
        ev_at d M_Mo_ahead 25 [.ref 139, .int x1, .int 0] [] (ev_mk s3.1.2 s3.2.1 s3.2.2.1)))) := 
  (ev_eq true (ev_call true d) M_Mo_ahead 0 [.ref 139, .int x1, .float 0] [] (ev_mk h I L)).trans rfl
set_option maxRecDepth 100000 in
theorem e_Mo_ahead_25 (d : Nat) (x1 x2 : Int32) (h : Bool × Nat × Nat) (I : Nat → Nat → Int32) (L : Nat → Nat → Int64) : ev_at d M_Mo_ahead 25 [.ref 139, .int x1, .int x2] [] (ev_mk h I L) =
  (if x2 < x1 then
    ev_cI (ev_do d M_Mo_dayGoes [.ref 139, .ref 144] (ev_mk h I L)) (fun v2 s1 =>
      ev_at d M_Mo_ahead 25 [.ref 139, .int x1, .int (x2 + 1)] [] (ev_mk s1.1.2 s1.2.1 s1.2.2.1))
  else
    ev_cV (ev_do d M_Mo_enters [.ref 139, .long ((I 144 26).toInt64)] (ev_mk h (ev_up I 139 1 0) L)) (fun s3 =>
      ev_cI (ev_do d M_Mo_sumOf [.ref 144, .int 8] (ev_mk s3.1.2 s3.2.1 s3.2.2.1)) (fun v5 s4 =>
        ev_cV (ev_do d M_Mo_enters [.ref 139, .long v5.toInt64] (ev_mk s4.1.2 s4.2.1 s4.2.2.1)) (fun s6 =>
          ev_ri (s6.2.1 144 24) (ev_mk s6.1.2 s6.2.1 s6.2.2.1))))) := 
  (ev_eq true (ev_call true d) M_Mo_ahead 25 [.ref 139, .int x1, .int x2] [] (ev_mk h I L)).trans rfl
set_option maxRecDepth 100000 in
theorem e_Mo_allSigns_0 (d : Nat) (x1 : Int32) (h : Bool × Nat × Nat) (I : Nat → Nat → Int32) (L : Nat → Nat → Int64) : ev_do (d + 1) M_Mo_allSigns [.ref 139, .int x1] (ev_mk h I L) =
  ev_at d M_Mo_allSigns 4 [.ref 139, .int x1, .int 0, .int 0] [] (ev_mk h I L) := 
  (ev_eq true (ev_call true d) M_Mo_allSigns 0 [.ref 139, .int x1, .float 0, .float 0] [] (ev_mk h I L)).trans rfl
set_option maxRecDepth 100000 in
theorem e_Mo_allSigns_4 (d : Nat) (x1 x2 x3 : Int32) (h : Bool × Nat × Nat) (I : Nat → Nat → Int32) (L : Nat → Nat → Int64) : ev_at d M_Mo_allSigns 4 [.ref 139, .int x1, .int x2, .int x3] [] (ev_mk h I L) =
  (if x3 < 8 then
    ev_cI (ev_do d M_Mo_signsOf [.ref 139, .ref 143, .int x3, .int x1] (ev_mk h I L)) (fun v2 s1 =>
      ev_at d M_Mo_allSigns 4 [.ref 139, .int x1, .int (x2 + v2), .int (x3 + 1)] [] (ev_mk s1.1.2 s1.2.1 s1.2.2.1))
  else
    ev_ri x2 (ev_mk h I L)) := 
  (ev_eq true (ev_call true d) M_Mo_allSigns 4 [.ref 139, .int x1, .int x2, .int x3] [] (ev_mk h I L)).trans rfl
set_option maxRecDepth 100000 in
theorem e_Mo_apart_0 (d : Nat) (x1 x2 : Int32) (h : Bool × Nat × Nat) (I : Nat → Nat → Int32) (L : Nat → Nat → Int64) : ev_do (d + 1) M_Mo_apart [.ref 139, .int x1, .int x2] (ev_mk h I L) =
  ev_cI (ev_do d M_Mo_arePair [.ref 139, .int x1, .int x2] (ev_mk h (ev_up I 139 0 0) L)) (fun v2 s1 =>
    (if v2 = 0 then
      ev_ri (-1) (ev_mk s1.1.2 s1.2.1 s1.2.2.1)
    else
      ev_cI (ev_do d M_Mo_apartBy [.ref 139, .int x1, .int x2, .int 0] (ev_mk s1.1.2 (ev_up s1.2.1 139 1 0) s1.2.2.1)) (fun v4 s3 =>
        ev_cV (ev_do d M_Mo_enters [.ref 139, .long v4.toInt64] (ev_mk s3.1.2 s3.2.1 s3.2.2.1)) (fun s5 =>
          ev_cI (ev_do d M_Mo_apartBy [.ref 139, .int x1, .int x2, .int (s5.2.1 143 24)] (ev_mk s5.1.2 s5.2.1 s5.2.2.1)) (fun v7 s6 =>
            ev_ri v7 (ev_mk s6.1.2 s6.2.1 s6.2.2.1)))))) := 
  (ev_eq true (ev_call true d) M_Mo_apart 0 [.ref 139, .int x1, .int x2] [] (ev_mk h I L)).trans rfl
set_option maxRecDepth 100000 in
theorem e_Mo_apartBy_0 (d : Nat) (x1 x2 x3 : Int32) (h : Bool × Nat × Nat) (I : Nat → Nat → Int32) (L : Nat → Nat → Int64) : ev_do (d + 1) M_Mo_apartBy [.ref 139, .int x1, .int x2, .int x3] (ev_mk h I L) =
  (if ev_in x1 27 then
    ev_cI (ev_do d M_Mo_lays [.ref 139, .ref 153, .int x1, .int (I 143 x1.toNatClampNeg), .int x3] (ev_mk h I L)) (fun v2 s1 =>
      (if ev_in x2 27 then
        ev_cI (ev_do d M_Mo_lays [.ref 139, .ref 154, .int x2, .int (s1.2.1 143 x2.toNatClampNeg), .int x3] (ev_mk s1.1.2 s1.2.1 s1.2.2.1)) (fun v4 s3 =>
          ev_at d M_Mo_apartBy 39 [.ref 139, .float 0, .float 0, .float 0, .int v2, .int v4, .int 0, .float 0, .float 0] [] (ev_mk s3.1.2 s3.2.1 s3.2.2.1))
      else none))
  else none) := 
  (ev_eq true (ev_call true d) M_Mo_apartBy 0 [.ref 139, .int x1, .int x2, .int x3, .float 0, .float 0, .float 0, .float 0, .float 0] [] (ev_mk h I L)).trans rfl
set_option maxRecDepth 100000 in
theorem e_Mo_apartBy_39 (d : Nat) (x4 x5 x6 : Int32) (h : Bool × Nat × Nat) (I : Nat → Nat → Int32) (L : Nat → Nat → Int64) : ev_at d M_Mo_apartBy 39 [.ref 139, .float 0, .float 0, .float 0, .int x4, .int x5, .int x6, .float 0, .float 0] [] (ev_mk h I L) =
  (if x4 < x6 then
    ev_cI (ev_do d M_Mo_square [.int x4, .int x5] (ev_mk h I L)) (fun v2 s1 =>
      (if ev_in v2 81 then
        ev_ri (s1.2.1 159 v2.toNatClampNeg) (ev_mk s1.1.2 s1.2.1 s1.2.2.1)
      else none))
  else
    ev_at d M_Mo_apartBy 49 [.ref 139, .float 0, .float 0, .float 0, .int x4, .int x5, .int x6, .int 0, .float 0] [] (ev_mk h I L)) := 
  (ev_eq true (ev_call true d) M_Mo_apartBy 39 [.ref 139, .float 0, .float 0, .float 0, .int x4, .int x5, .int x6, .float 0, .float 0] [] (ev_mk h I L)).trans rfl
set_option maxRecDepth 100000 in
theorem e_Mo_apartBy_49 (d : Nat) (x4 x5 x6 x7 : Int32) (h : Bool × Nat × Nat) (I : Nat → Nat → Int32) (L : Nat → Nat → Int64) : ev_at d M_Mo_apartBy 49 [.ref 139, .float 0, .float 0, .float 0, .int x4, .int x5, .int x6, .int x7, .float 0] [] (ev_mk h I L) =
  (if x5 < x7 then
    ev_at d M_Mo_apartBy 39 [.ref 139, .float 0, .float 0, .float 0, .int x4, .int x5, .int (x6 + 1), .float 0, .float 0] [] (ev_mk h I L)
  else
    (if x6 = 0 then
      ev_at d M_Mo_apartBy 82 [.ref 139, .float 0, .float 0, .float 0, .int x4, .int x5, .int x6, .int x7, .float 0] [.int x7] (ev_mk h I L)
    else
      ev_cI (ev_do d M_Mo_square [.int (x6 - 1), .int x7] (ev_mk h I L)) (fun v2 s1 =>
        (if ev_in v2 81 then
          ev_at d M_Mo_apartBy 82 [.ref 139, .float 0, .float 0, .float 0, .int x4, .int x5, .int x6, .int x7, .float 0] [.int ((s1.2.1 159 v2.toNatClampNeg) + 1)] (ev_mk s1.1.2 s1.2.1 s1.2.2.1)
        else none)))) := 
  (ev_eq true (ev_call true d) M_Mo_apartBy 49 [.ref 139, .float 0, .float 0, .float 0, .int x4, .int x5, .int x6, .int x7, .float 0] [] (ev_mk h I L)).trans rfl
set_option maxRecDepth 100000 in
theorem e_Mo_apartBy_82 (d : Nat) (x4 x5 x6 x7 y0 : Int32) (h : Bool × Nat × Nat) (I : Nat → Nat → Int32) (L : Nat → Nat → Int64) : ev_at d M_Mo_apartBy 82 [.ref 139, .float 0, .float 0, .float 0, .int x4, .int x5, .int x6, .int x7, .float 0] [.int y0] (ev_mk h I L) =
  (if x7 = 0 then
    ev_at d M_Mo_apartBy 115 [.ref 139, .float 0, .float 0, .float 0, .int x4, .int x5, .int x6, .int x7, .float 0] [.int x6] (ev_mk h I L)
  else
    ev_cI (ev_do d M_Mo_square [.int x6, .int (x7 - 1)] (ev_mk h I L)) (fun v2 s1 =>
      (if ev_in v2 81 then
        ev_at d M_Mo_apartBy 115 [.ref 139, .float 0, .float 0, .float 0, .int x4, .int x5, .int x6, .int x7, .float 0] [.int (if ((s1.2.1 159 v2.toNatClampNeg) + 1) < y0 then ((s1.2.1 159 v2.toNatClampNeg) + 1) else y0)] (ev_mk s1.1.2 s1.2.1 s1.2.2.1)
      else none))) := 
  (ev_eq true (ev_call true d) M_Mo_apartBy 82 [.ref 139, .float 0, .float 0, .float 0, .int x4, .int x5, .int x6, .int x7, .float 0] [.int y0] (ev_mk h I L)).trans rfl
set_option maxRecDepth 100000 in
theorem e_Mo_apartBy_115 (d : Nat) (x4 x5 x6 x7 y0 : Int32) (h : Bool × Nat × Nat) (I : Nat → Nat → Int32) (L : Nat → Nat → Int64) : ev_at d M_Mo_apartBy 115 [.ref 139, .float 0, .float 0, .float 0, .int x4, .int x5, .int x6, .int x7, .float 0] [.int y0] (ev_mk h I L) =
  (if 0 < x6 then
    (if 0 < x7 then
      ev_cI (ev_do d M_Mo_square [.int (x6 - 1), .int (x7 - 1)] (ev_mk h I L)) (fun v2 s1 =>
        (if ev_in v2 81 then
          (if ev_in (x6 - 1) 8 then
            (if ev_in (x7 - 1) 8 then
              (if (s1.2.1 153 ((x6 - 1).toNatClampNeg)) = (s1.2.1 154 ((x7 - 1).toNatClampNeg)) then
                ev_at d M_Mo_apartBy 171 [.ref 139, .float 0, .float 0, .float 0, .int x4, .int x5, .int x6, .int x7, .float 0] [.int 0, .int (s1.2.1 159 v2.toNatClampNeg), .int y0] (ev_mk s1.1.2 s1.2.1 s1.2.2.1)
              else
                ev_at d M_Mo_apartBy 171 [.ref 139, .float 0, .float 0, .float 0, .int x4, .int x5, .int x6, .int x7, .float 0] [.int 1, .int (s1.2.1 159 v2.toNatClampNeg), .int y0] (ev_mk s1.1.2 s1.2.1 s1.2.2.1))
            else none)
          else none)
        else none))
    else
      ev_at d M_Mo_apartBy 183 [.ref 139, .float 0, .float 0, .float 0, .int x4, .int x5, .int x6, .int x7, .float 0] [.int y0] (ev_mk h I L))
  else
    ev_at d M_Mo_apartBy 183 [.ref 139, .float 0, .float 0, .float 0, .int x4, .int x5, .int x6, .int x7, .float 0] [.int y0] (ev_mk h I L)) := 
  (ev_eq true (ev_call true d) M_Mo_apartBy 115 [.ref 139, .float 0, .float 0, .float 0, .int x4, .int x5, .int x6, .int x7, .float 0] [.int y0] (ev_mk h I L)).trans rfl
set_option maxRecDepth 100000 in
theorem e_Mo_apartBy_171 (d : Nat) (x4 x5 x6 x7 y0 y1 y2 : Int32) (h : Bool × Nat × Nat) (I : Nat → Nat → Int32) (L : Nat → Nat → Int64) : ev_at d M_Mo_apartBy 171 [.ref 139, .float 0, .float 0, .float 0, .int x4, .int x5, .int x6, .int x7, .float 0] [.int y0, .int y1, .int y2] (ev_mk h I L) =
  ev_cI (ev_do d M_Mo_flag [.int y0] (ev_mk h I L)) (fun v2 s1 =>
    ev_at d M_Mo_apartBy 183 [.ref 139, .float 0, .float 0, .float 0, .int x4, .int x5, .int x6, .int x7, .float 0] [.int (if (y1 + v2) < y2 then (y1 + v2) else y2)] (ev_mk s1.1.2 s1.2.1 s1.2.2.1)) := 
  (ev_eq true (ev_call true d) M_Mo_apartBy 171 [.ref 139, .float 0, .float 0, .float 0, .int x4, .int x5, .int x6, .int x7, .float 0] [.int y0, .int y1, .int y2] (ev_mk h I L)).trans rfl
set_option maxRecDepth 100000 in
theorem e_Mo_apartBy_183 (d : Nat) (x4 x5 x6 x7 y0 : Int32) (h : Bool × Nat × Nat) (I : Nat → Nat → Int32) (L : Nat → Nat → Int64) : ev_at d M_Mo_apartBy 183 [.ref 139, .float 0, .float 0, .float 0, .int x4, .int x5, .int x6, .int x7, .float 0] [.int y0] (ev_mk h I L) =
  ev_cI (ev_do d M_Mo_square [.int x6, .int x7] (ev_mk h I L)) (fun v2 s1 =>
    (if ev_in v2 81 then
      ev_at d M_Mo_apartBy 49 [.ref 139, .float 0, .float 0, .float 0, .int x4, .int x5, .int x6, .int (x7 + 1), .float 0] [] (ev_mk s1.1.2 (ev_up s1.2.1 159 v2.toNatClampNeg y0) s1.2.2.1)
    else none)) := 
  (ev_eq true (ev_call true d) M_Mo_apartBy 183 [.ref 139, .float 0, .float 0, .float 0, .int x4, .int x5, .int x6, .int x7, .float 0] [.int y0] (ev_mk h I L)).trans rfl
set_option maxRecDepth 100000 in
theorem e_Mo_areApart_0 (d : Nat) (x1 x2 : Int32) (h : Bool × Nat × Nat) (I : Nat → Nat → Int32) (L : Nat → Nat → Int64) : ev_do (d + 1) M_Mo_areApart [.ref 139, .int x1, .int x2] (ev_mk h I L) =
  ev_at d M_Mo_areApart 5 [.ref 139, .int x1, .int x2, .int 1, .int 0, .float 0] [] (ev_mk h I L) := 
  (ev_eq true (ev_call true d) M_Mo_areApart 0 [.ref 139, .int x1, .int x2, .float 0, .float 0, .float 0] [] (ev_mk h I L)).trans rfl
set_option maxRecDepth 100000 in
theorem e_Mo_areApart_5 (d : Nat) (x1 x2 x3 x4 : Int32) (h : Bool × Nat × Nat) (I : Nat → Nat → Int32) (L : Nat → Nat → Int64) : ev_at d M_Mo_areApart 5 [.ref 139, .int x1, .int x2, .int x3, .int x4, .float 0] [] (ev_mk h I L) =
  (if x4 < (I 139 3) then
    ev_at d M_Mo_areApart 20 [.ref 139, .int x1, .int x2, .int x3, .int x4, .int (x4 + 1)] [] (ev_mk h I L)
  else
    (if ev_fit .boolean x3 then ev_ri x3 (ev_mk h I L) else none)) := 
  (ev_eq true (ev_call true d) M_Mo_areApart 5 [.ref 139, .int x1, .int x2, .int x3, .int x4, .float 0] [] (ev_mk h I L)).trans rfl
set_option maxRecDepth 100000 in
theorem e_Mo_areApart_20 (d : Nat) (x1 x2 x3 x4 x5 : Int32) (h : Bool × Nat × Nat) (I : Nat → Nat → Int32) (L : Nat → Nat → Int64) : ev_at d M_Mo_areApart 20 [.ref 139, .int x1, .int x2, .int x3, .int x4, .int x5] [] (ev_mk h I L) =
  (if x5 < (I 139 3) then
    ev_cI (ev_do d M_Mo_has [.int x1, .int x4] (ev_mk h I L)) (fun v2 s1 =>
      (if v2 = 0 then
        ev_at d M_Mo_areApart 5 [.ref 139, .int x1, .int x2, .int x3, .int (x4 + 1), .float 0] [] (ev_mk s1.1.2 s1.2.1 s1.2.2.1)
      else
        (if x3 = 0 then
          ev_at d M_Mo_areApart 20 [.ref 139, .int x1, .int x2, .int 0, .int x4, .int (x5 + 1)] [] (ev_mk s1.1.2 s1.2.1 s1.2.2.1)
        else
          ev_cI (ev_do d M_Mo_has [.int x1, .int x5] (ev_mk s1.1.2 s1.2.1 s1.2.2.1)) (fun v4 s3 =>
            (if v4 = 0 then
              ev_at d M_Mo_areApart 20 [.ref 139, .int x1, .int x2, .int 1, .int x4, .int (x5 + 1)] [] (ev_mk s3.1.2 s3.2.1 s3.2.2.1)
            else
              ev_cI (ev_do d M_Mo_isOneBy [.ref 139, .ref 143, .int x4, .int x5, .int x2] (ev_mk s3.1.2 s3.2.1 s3.2.2.1)) (fun v6 s5 =>
                (if v6 = 0 then
                  ev_at d M_Mo_areApart 20 [.ref 139, .int x1, .int x2, .int 1, .int x4, .int (x5 + 1)] [] (ev_mk s5.1.2 s5.2.1 s5.2.2.1)
                else
                  ev_cI (ev_do d M_Mo_isOneBy [.ref 139, .ref 143, .int x4, .int x5, .int 0] (ev_mk s5.1.2 s5.2.1 s5.2.2.1)) (fun v8 s7 =>
                    (if v8 = 0 then
                      ev_at d M_Mo_areApart 20 [.ref 139, .int x1, .int x2, .int 0, .int x4, .int (x5 + 1)] [] (ev_mk s7.1.2 s7.2.1 s7.2.2.1)
                    else
                      ev_at d M_Mo_areApart 20 [.ref 139, .int x1, .int x2, .int 1, .int x4, .int (x5 + 1)] [] (ev_mk s7.1.2 s7.2.1 s7.2.2.1))))))))))
  else
    ev_at d M_Mo_areApart 5 [.ref 139, .int x1, .int x2, .int x3, .int (x4 + 1), .float 0] [] (ev_mk h I L)) := 
  (ev_eq true (ev_call true d) M_Mo_areApart 20 [.ref 139, .int x1, .int x2, .int x3, .int x4, .int x5] [] (ev_mk h I L)).trans rfl
set_option maxRecDepth 100000 in
theorem e_Mo_arePair_0 (d : Nat) (x1 x2 : Int32) (h : Bool × Nat × Nat) (I : Nat → Nat → Int32) (L : Nat → Nat → Int64) : ev_do (d + 1) M_Mo_arePair [.ref 139, .int x1, .int x2] (ev_mk h I L) =
  ev_cI (ev_do d M_Mo_isWord [.ref 139, .int x1] (ev_mk h I L)) (fun v2 s1 =>
    (if v2 = 0 then
      ev_ri 0 (ev_mk s1.1.2 s1.2.1 s1.2.2.1)
    else
      ev_cI (ev_do d M_Mo_isWord [.ref 139, .int x2] (ev_mk s1.1.2 s1.2.1 s1.2.2.1)) (fun v4 s3 =>
        (if v4 = 0 then
          ev_ri 0 (ev_mk s3.1.2 s3.2.1 s3.2.2.1)
        else
          (if x1 = x2 then
            ev_ri 0 (ev_mk s3.1.2 s3.2.1 s3.2.2.1)
          else
            ev_ri 1 (ev_mk s3.1.2 s3.2.1 s3.2.2.1)))))) := 
  (ev_eq true (ev_call true d) M_Mo_arePair 0 [.ref 139, .int x1, .int x2] [] (ev_mk h I L)).trans rfl
set_option maxRecDepth 100000 in
theorem e_Mo_at_0 (d : Nat) (x1 x2 : Int32) (h : Bool × Nat × Nat) (I : Nat → Nat → Int32) (L : Nat → Nat → Int64) : ev_do (d + 1) M_Mo_at [.ref 139, .int x1, .int x2] (ev_mk h I L) =
  ev_cI (ev_do d M_Mo_isWord [.ref 139, .int x1] (ev_mk h (ev_up I 139 0 0) L)) (fun v2 s1 =>
    (if v2 = 0 then
      ev_cI (ev_do d M_Mo_refuse [.ref 139] (ev_mk s1.1.2 s1.2.1 s1.2.2.1)) (fun v4 s3 =>
        ev_ri v4 (ev_mk s3.1.2 s3.2.1 s3.2.2.1))
    else
      (if ev_in x1 8 then
        ev_cI (ev_do d M_Mo_in [.long x2.toInt64, .long 0, .long (((s1.2.1 142 x1.toNatClampNeg) - 1).toInt64)] (ev_mk s1.1.2 s1.2.1 s1.2.2.1)) (fun v6 s5 =>
          (if v6 = 0 then
            ev_cI (ev_do d M_Mo_refuse [.ref 139] (ev_mk s5.1.2 s5.2.1 s5.2.2.1)) (fun v8 s7 =>
              ev_ri v8 (ev_mk s7.1.2 s7.2.1 s7.2.2.1))
          else
            (if ev_in ((8 * x1) + x2) 64 then
              (if ev_in x1 27 then
                ev_cI (ev_do d M_Mo_has [.int (s5.2.1 143 x1.toNatClampNeg), .int x2] (ev_mk s5.1.2 s5.2.1 s5.2.2.1)) (fun v10 s9 =>
                  ev_cI (ev_do d M_Mo_flag [.int v10] (ev_mk s9.1.2 s9.2.1 s9.2.2.1)) (fun v12 s11 =>
                    ev_ri ((s5.2.1 141 (((8 * x1) + x2).toNatClampNeg)) + (8 * v12)) (ev_mk s11.1.2 s11.2.1 s11.2.2.1)))
              else none)
            else none)))
      else none))) := 
  (ev_eq true (ev_call true d) M_Mo_at 0 [.ref 139, .int x1, .int x2] [] (ev_mk h I L)).trans rfl
set_option maxRecDepth 100000 in
theorem e_Mo_begins_0 (d : Nat) (x1 : Int32) (h : Bool × Nat × Nat) (I : Nat → Nat → Int32) (L : Nat → Nat → Int64) : ev_do (d + 1) M_Mo_begins [.ref 139, .int x1] (ev_mk h I L) =
  ev_ri (I 139 10) (ev_mk h (ev_up (ev_up (ev_up (ev_up I 139 10 0) 139 11 0) 139 13 0) 139 12 (if x1 < (I 139 10) then x1 else (I 139 10))) L) := 
  (ev_eq true (ev_call true d) M_Mo_begins 0 [.ref 139, .int x1, .float 0] [] (ev_mk h I L)).trans rfl
set_option maxRecDepth 100000 in
theorem e_Mo_buys_0 (d : Nat) (x1 : Int32) (h : Bool × Nat × Nat) (I : Nat → Nat → Int32) (L : Nat → Nat → Int64) : ev_do (d + 1) M_Mo_buys [.ref 139, .int x1] (ev_mk h I L) =
  ev_cI (ev_do d M_Mo_in [.long x1.toInt64, .long 0, .long 99] (ev_mk h (ev_up I 139 0 0) L)) (fun v2 s1 =>
    (if v2 = 0 then
      ev_ri (-1) (ev_mk s1.1.2 s1.2.1 s1.2.2.1)
    else
      ev_cI (ev_do d M_Mo_strikeNext [.ref 139, .ref 143] (ev_mk s1.1.2 s1.2.1 s1.2.2.1)) (fun v4 s3 =>
        ev_at d M_Mo_buys 30 [.ref 139, .int x1, .int v4, .int 0, .float 0, .float 0, .float 0, .float 0] [] (ev_mk s3.1.2 s3.2.1 s3.2.2.1)))) := 
  (ev_eq true (ev_call true d) M_Mo_buys 0 [.ref 139, .int x1, .float 0, .float 0, .float 0, .float 0, .float 0, .float 0] [] (ev_mk h I L)).trans rfl
set_option maxRecDepth 100000 in
theorem e_Mo_buys_30 (d : Nat) (x1 x2 x3 : Int32) (h : Bool × Nat × Nat) (I : Nat → Nat → Int32) (L : Nat → Nat → Int64) : ev_at d M_Mo_buys 30 [.ref 139, .int x1, .int x2, .int x3, .float 0, .float 0, .float 0, .float 0] [] (ev_mk h I L) =
  (if x3 < 8 then
    ev_cI (ev_do d M_Mo_has [.int x2, .int x3] (ev_mk h I L)) (fun v2 s1 =>
      (if v2 = 0 then
        (if ev_in x3 8 then
          ev_at d M_Mo_buys 30 [.ref 139, .int x1, .int x2, .int (x3 + 1), .float 0, .float 0, .float 0, .float 0] [] (ev_mk s1.1.2 (ev_up s1.2.1 166 x3.toNatClampNeg 0) s1.2.2.1)
        else none)
      else
        ev_cI (ev_do d M_Mo_cost [.ref 139, .int x3] (ev_mk s1.1.2 s1.2.1 s1.2.2.1)) (fun v4 s3 =>
          (if ev_in x3 8 then
            ev_at d M_Mo_buys 30 [.ref 139, .int x1, .int x2, .int (x3 + 1), .float 0, .float 0, .float 0, .float 0] [] (ev_mk s3.1.2 (ev_up s3.2.1 166 x3.toNatClampNeg v4) s3.2.2.1)
          else none))))
  else
    ev_at d M_Mo_buys 73 [.ref 139, .int x1, .int x2, .int 0, .int 0, .int 0, .float 0, .float 0] [] (ev_mk h I L)) := 
  (ev_eq true (ev_call true d) M_Mo_buys 30 [.ref 139, .int x1, .int x2, .int x3, .float 0, .float 0, .float 0, .float 0] [] (ev_mk h I L)).trans rfl
set_option maxRecDepth 100000 in
theorem e_Mo_buys_73 (d : Nat) (x1 x2 x3 x4 x5 : Int32) (h : Bool × Nat × Nat) (I : Nat → Nat → Int32) (L : Nat → Nat → Int64) : ev_at d M_Mo_buys 73 [.ref 139, .int x1, .int x2, .int x3, .int x4, .int x5, .float 0, .float 0] [] (ev_mk h I L) =
  (if x2 < x5 then
    ev_cV (ev_do d M_Mo_enters [.ref 139, .long x3.toInt64] (ev_mk h (ev_up I 139 1 0) L)) (fun s1 =>
      ev_cV (ev_do d M_Mo_enters [.ref 139, .long ((x1 - x4).toInt64)] (ev_mk s1.1.2 s1.2.1 s1.2.2.1)) (fun s2 =>
        ev_cI (ev_do d M_Int_bitCount [.int x3] (ev_mk s2.1.2 s2.2.1 s2.2.2.1)) (fun v4 s3 =>
          ev_ri v4 (ev_mk s3.1.2 s3.2.1 s3.2.2.1))))
  else
    ev_at d M_Mo_buys 85 [.ref 139, .int x1, .int x2, .int x3, .int x4, .int x5, .int 0, .int 0] [] (ev_mk h I L)) := 
  (ev_eq true (ev_call true d) M_Mo_buys 73 [.ref 139, .int x1, .int x2, .int x3, .int x4, .int x5, .float 0, .float 0] [] (ev_mk h I L)).trans rfl
set_option maxRecDepth 100000 in
theorem e_Mo_buys_85 (d : Nat) (x1 x2 x3 x4 x5 x6 x7 : Int32) (h : Bool × Nat × Nat) (I : Nat → Nat → Int32) (L : Nat → Nat → Int64) : ev_at d M_Mo_buys 85 [.ref 139, .int x1, .int x2, .int x3, .int x4, .int x5, .int x6, .int x7] [] (ev_mk h I L) =
  (if x7 < 8 then
    ev_cI (ev_do d M_Mo_has [.int x5, .int x7] (ev_mk h I L)) (fun v2 s1 =>
      (if v2 = 0 then
        ev_at d M_Mo_buys 85 [.ref 139, .int x1, .int x2, .int x3, .int x4, .int x5, .int (x6 + 0), .int (x7 + 1)] [] (ev_mk s1.1.2 s1.2.1 s1.2.2.1)
      else
        (if ev_in x7 8 then
          ev_at d M_Mo_buys 85 [.ref 139, .int x1, .int x2, .int x3, .int x4, .int x5, .int (x6 + (s1.2.1 166 x7.toNatClampNeg)), .int (x7 + 1)] [] (ev_mk s1.1.2 s1.2.1 s1.2.2.1)
        else none)))
  else
    ev_cI (ev_do d M_Int_bitCount [.int x5] (ev_mk h I L)) (fun v4 s3 =>
      ev_cI (ev_do d M_Int_bitCount [.int x3] (ev_mk s3.1.2 s3.2.1 s3.2.2.1)) (fun v6 s5 =>
        (if (x5 &&& (x2 ^^^ (-1))) = 0 then
          (if x1 < x6 then
            ev_at d M_Mo_buys 73 [.ref 139, .int x1, .int x2, .int x3, .int x4, .int (x5 + 1), .float 0, .float 0] [] (ev_mk s5.1.2 s5.2.1 s5.2.2.1)
          else
            (if 0 < (v4 - v6) then
              ev_at d M_Mo_buys 73 [.ref 139, .int x1, .int x2, .int x5, .int x6, .int (x5 + 1), .float 0, .float 0] [] (ev_mk s5.1.2 s5.2.1 s5.2.2.1)
            else
              (if (v4 - v6) = 0 then
                (if x6 < x4 then
                  ev_at d M_Mo_buys 73 [.ref 139, .int x1, .int x2, .int x5, .int x6, .int (x5 + 1), .float 0, .float 0] [] (ev_mk s5.1.2 s5.2.1 s5.2.2.1)
                else
                  ev_at d M_Mo_buys 73 [.ref 139, .int x1, .int x2, .int x3, .int x4, .int (x5 + 1), .float 0, .float 0] [] (ev_mk s5.1.2 s5.2.1 s5.2.2.1))
              else
                ev_at d M_Mo_buys 73 [.ref 139, .int x1, .int x2, .int x3, .int x4, .int (x5 + 1), .float 0, .float 0] [] (ev_mk s5.1.2 s5.2.1 s5.2.2.1))))
        else
          ev_at d M_Mo_buys 73 [.ref 139, .int x1, .int x2, .int x3, .int x4, .int (x5 + 1), .float 0, .float 0] [] (ev_mk s5.1.2 s5.2.1 s5.2.2.1))))) := 
  (ev_eq true (ev_call true d) M_Mo_buys 85 [.ref 139, .int x1, .int x2, .int x3, .int x4, .int x5, .int x6, .int x7] [] (ev_mk h I L)).trans rfl
set_option maxRecDepth 100000 in
theorem e_Mo_calms_0 (d : Nat) (h : Bool × Nat × Nat) (I : Nat → Nat → Int32) (L : Nat → Nat → Int64) : ev_do (d + 1) M_Mo_calms [.ref 139] (ev_mk h I L) =
  ev_cI (ev_do d M_Mo_unsaid [.ref 139, .ref 143] (ev_mk h (ev_up I 139 0 0) L)) (fun v2 s1 =>
    ev_at d M_Mo_calms 18 [.ref 139, .int v2, .int 0, .int 0] [] (ev_mk s1.1.2 s1.2.1 s1.2.2.1)) := 
  (ev_eq true (ev_call true d) M_Mo_calms 0 [.ref 139, .float 0, .float 0, .float 0] [] (ev_mk h I L)).trans rfl
set_option maxRecDepth 100000 in
theorem e_Mo_calms_18 (d : Nat) (x1 x2 x3 : Int32) (h : Bool × Nat × Nat) (I : Nat → Nat → Int32) (L : Nat → Nat → Int64) : ev_at d M_Mo_calms 18 [.ref 139, .int x1, .int x2, .int x3] [] (ev_mk h I L) =
  (if x3 < 8 then
    ev_cI (ev_do d M_Mo_has [.int x1, .int x3] (ev_mk h I L)) (fun v2 s1 =>
      (if v2 = 0 then
        ev_at d M_Mo_calms 46 [.ref 139, .int x1, .int x2, .int x3] [.int 0, .int x3, .ref 166] (ev_mk s1.1.2 s1.2.1 s1.2.2.1)
      else
        ev_cI (ev_do d M_Mo_cost [.ref 139, .int x3] (ev_mk s1.1.2 s1.2.1 s1.2.2.1)) (fun v4 s3 =>
          ev_at d M_Mo_calms 46 [.ref 139, .int x1, .int x2, .int x3] [.int v4, .int x3, .ref 166] (ev_mk s3.1.2 s3.2.1 s3.2.2.1))))
  else
    (if x2 < 1000000 then
      ev_at d M_Mo_calms 79 [.ref 139, .float 0, .int x2, .int 0] [] (ev_mk h (ev_up I 139 1 0) L)
    else
      ev_ri (-2) (ev_mk h I L))) := 
  (ev_eq true (ev_call true d) M_Mo_calms 18 [.ref 139, .int x1, .int x2, .int x3] [] (ev_mk h I L)).trans rfl
set_option maxRecDepth 100000 in
theorem e_Mo_calms_46 (d : Nat) (x1 x2 x3 y0 y1 : Int32) (h : Bool × Nat × Nat) (I : Nat → Nat → Int32) (L : Nat → Nat → Int64) : ev_at d M_Mo_calms 46 [.ref 139, .int x1, .int x2, .int x3] [.int y0, .int y1, .ref 166] (ev_mk h I L) =
  (if ev_in y1 8 then
    (if ev_in x3 8 then
      ev_at d M_Mo_calms 18 [.ref 139, .int x1, .int (x2 + ((ev_up I 166 y1.toNatClampNeg y0) 166 x3.toNatClampNeg)), .int (x3 + 1)] [] (ev_mk h (ev_up I 166 y1.toNatClampNeg y0) L)
    else none)
  else none) := 
  (ev_eq true (ev_call true d) M_Mo_calms 46 [.ref 139, .int x1, .int x2, .int x3] [.int y0, .int y1, .ref 166] (ev_mk h I L)).trans rfl
set_option maxRecDepth 100000 in
theorem e_Mo_calms_79 (d : Nat) (x2 x3 : Int32) (h : Bool × Nat × Nat) (I : Nat → Nat → Int32) (L : Nat → Nat → Int64) : ev_at d M_Mo_calms 79 [.ref 139, .float 0, .int x2, .int x3] [] (ev_mk h I L) =
  (if x3 < 8 then
    (if ev_in x3 8 then
      ev_cV (ev_do d M_Mo_enters [.ref 139, .long ((I 166 x3.toNatClampNeg).toInt64)] (ev_mk h I L)) (fun s1 =>
        ev_at d M_Mo_calms 79 [.ref 139, .float 0, .int x2, .int (x3 + 1)] [] (ev_mk s1.1.2 s1.2.1 s1.2.2.1))
    else none)
  else
    ev_ri x2 (ev_mk h I L)) := 
  (ev_eq true (ev_call true d) M_Mo_calms 79 [.ref 139, .float 0, .int x2, .int x3] [] (ev_mk h I L)).trans rfl
set_option maxRecDepth 100000 in
theorem e_Mo_canBeOne_0 (d : Nat) (x2 x3 : Int32) {k1 : Nat} (hk1 : k1 = 143 ∨ k1 = 144) (h : Bool × Nat × Nat) (I : Nat → Nat → Int32) (L : Nat → Nat → Int64) : ev_do (d + 1) M_Mo_canBeOne [.ref 139, .ref k1, .int x2, .int x3] (ev_mk h I L) =
  ev_at d M_Mo_canBeOne 6 [.ref 139, .ref k1, .int x2, .int x3, .int 0, .int 0] [] (ev_mk h I L) := by
  rcases hk1 with rfl | rfl <;> exact (ev_eq true (ev_call true d) M_Mo_canBeOne 0 _ _ (ev_mk h I L)).trans rfl
set_option maxRecDepth 100000 in
theorem e_Mo_canBeOne_6 (d : Nat) (x2 x3 x4 x5 : Int32) {k1 : Nat} (hk1 : k1 = 143 ∨ k1 = 144) (h : Bool × Nat × Nat) (I : Nat → Nat → Int32) (L : Nat → Nat → Int64) : ev_at d M_Mo_canBeOne 6 [.ref 139, .ref k1, .int x2, .int x3, .int x4, .int x5] [] (ev_mk h I L) =
  (if x5 < 256 then
    (if x4 = 0 then
      ev_cI (ev_do d M_Mo_isOneBy [.ref 139, .ref k1, .int x2, .int x3, .int x5] (ev_mk h I L)) (fun v2 s1 =>
        ev_at d M_Mo_canBeOne 6 [.ref 139, .ref k1, .int x2, .int x3, .int v2, .int (x5 + 1)] [] (ev_mk s1.1.2 s1.2.1 s1.2.2.1))
    else
      (if ev_fit .boolean x4 then ev_ri x4 (ev_mk h I L) else none))
  else
    (if ev_fit .boolean x4 then ev_ri x4 (ev_mk h I L) else none)) := by
  rcases hk1 with rfl | rfl <;> exact (ev_eq true (ev_call true d) M_Mo_canBeOne 6 _ _ (ev_mk h I L)).trans rfl
set_option maxRecDepth 100000 in
theorem e_Mo_chain_0 (d : Nat) (x1 x2 x3 : Int32) (h : Bool × Nat × Nat) (I : Nat → Nat → Int32) (L : Nat → Nat → Int64) : ev_do (d + 1) M_Mo_chain [.ref 139, .int x1, .int x2, .int x3] (ev_mk h I L) =
  ev_cI (ev_do d M_Mo_isWord [.ref 139, .int x1] (ev_mk h (ev_up I 139 0 0) L)) (fun v2 s1 =>
    (if v2 = 0 then
      ev_ri (-1) (ev_mk s1.1.2 s1.2.1 s1.2.2.1)
    else
      ev_cI (ev_do d M_Mo_isWord [.ref 139, .int x2] (ev_mk s1.1.2 s1.2.1 s1.2.2.1)) (fun v4 s3 =>
        (if v4 = 0 then
          ev_ri (-1) (ev_mk s3.1.2 s3.2.1 s3.2.2.1)
        else
          ev_cI (ev_do d M_Mo_in [.long x3.toInt64, .long 0, .long 8] (ev_mk s3.1.2 s3.2.1 s3.2.2.1)) (fun v6 s5 =>
            (if v6 = 0 then
              ev_ri (-1) (ev_mk s5.1.2 s5.2.1 s5.2.2.1)
            else
              ev_at d M_Mo_chain 38 [.ref 139, .int x1, .int x2, .int x3, .int 0, .float 0, .float 0, .float 0] [] (ev_mk s5.1.2 s5.2.1 s5.2.2.1))))))) := 
  (ev_eq true (ev_call true d) M_Mo_chain 0 [.ref 139, .int x1, .int x2, .int x3, .float 0, .float 0, .float 0, .float 0] [] (ev_mk h I L)).trans rfl
set_option maxRecDepth 100000 in
theorem e_Mo_chain_38 (d : Nat) (x1 x2 x3 x4 : Int32) (h : Bool × Nat × Nat) (I : Nat → Nat → Int32) (L : Nat → Nat → Int64) : ev_at d M_Mo_chain 38 [.ref 139, .int x1, .int x2, .int x3, .int x4, .float 0, .float 0, .float 0] [] (ev_mk h I L) =
  (if x4 < (I 139 3) then
    (if x4 = x2 then
      (if ev_in x4 8 then
        ev_at d M_Mo_chain 38 [.ref 139, .int x1, .int x2, .int x3, .int (x4 + 1), .float 0, .float 0, .float 0] [] (ev_mk h (ev_up I 160 x4.toNatClampNeg 1) L)
      else none)
    else
      (if ev_in x4 8 then
        ev_at d M_Mo_chain 38 [.ref 139, .int x1, .int x2, .int x3, .int (x4 + 1), .float 0, .float 0, .float 0] [] (ev_mk h (ev_up I 160 x4.toNatClampNeg 1000000) L)
      else none))
  else
    ev_at d M_Mo_chain 76 [.ref 139, .int x1, .float 0, .int x3, .int 0, .float 0, .float 0, .float 0] [] (ev_mk h I L)) := 
  (ev_eq true (ev_call true d) M_Mo_chain 38 [.ref 139, .int x1, .int x2, .int x3, .int x4, .float 0, .float 0, .float 0] [] (ev_mk h I L)).trans rfl
set_option maxRecDepth 100000 in
theorem e_Mo_chain_76 (d : Nat) (x1 x3 x4 : Int32) (h : Bool × Nat × Nat) (I : Nat → Nat → Int32) (L : Nat → Nat → Int64) : ev_at d M_Mo_chain 76 [.ref 139, .int x1, .float 0, .int x3, .int x4, .float 0, .float 0, .float 0] [] (ev_mk h I L) =
  (if x4 < (I 139 3) then
    ev_at d M_Mo_chain 88 [.ref 139, .int x1, .float 0, .int x3, .int x4, .int 0, .float 0, .float 0] [] (ev_mk h I L)
  else
    (if ev_in x1 8 then
      (if (I 160 x1.toNatClampNeg) < 1000000 then
        ev_cV (ev_do d M_Mo_enters [.ref 139, .long x1.toInt64] (ev_mk h (ev_up I 139 1 0) L)) (fun s1 =>
          (if ev_in x1 8 then
            ev_at d M_Mo_chain 241 [.ref 139, .int x1, .float 0, .int x3, .int x1, .int ((s1.2.1 160 x1.toNatClampNeg) - 1), .float 0, .float 0] [] (ev_mk s1.1.2 s1.2.1 s1.2.2.1)
          else none))
      else
        ev_ri (-2) (ev_mk h I L))
    else none)) := 
  (ev_eq true (ev_call true d) M_Mo_chain 76 [.ref 139, .int x1, .float 0, .int x3, .int x4, .float 0, .float 0, .float 0] [] (ev_mk h I L)).trans rfl
set_option maxRecDepth 100000 in
theorem e_Mo_chain_88 (d : Nat) (x1 x3 x4 x5 : Int32) (h : Bool × Nat × Nat) (I : Nat → Nat → Int32) (L : Nat → Nat → Int64) : ev_at d M_Mo_chain 88 [.ref 139, .int x1, .float 0, .int x3, .int x4, .int x5, .float 0, .float 0] [] (ev_mk h I L) =
  (if x5 < (I 139 3) then
    ev_at d M_Mo_chain 100 [.ref 139, .int x1, .float 0, .int x3, .int x4, .int x5, .int 0, .float 0] [] (ev_mk h I L)
  else
    ev_at d M_Mo_chain 76 [.ref 139, .int x1, .float 0, .int x3, .int (x4 + 1), .float 0, .float 0, .float 0] [] (ev_mk h I L)) := 
  (ev_eq true (ev_call true d) M_Mo_chain 88 [.ref 139, .int x1, .float 0, .int x3, .int x4, .int x5, .float 0, .float 0] [] (ev_mk h I L)).trans rfl
set_option maxRecDepth 100000 in
theorem e_Mo_chain_100 (d : Nat) (x1 x3 x4 x5 x6 : Int32) (h : Bool × Nat × Nat) (I : Nat → Nat → Int32) (L : Nat → Nat → Int64) : ev_at d M_Mo_chain 100 [.ref 139, .int x1, .float 0, .int x3, .int x4, .int x5, .int x6, .float 0] [] (ev_mk h I L) =
  (if x6 < (I 139 3) then
    (if x5 = x6 then
      ev_at d M_Mo_chain 140 [.ref 139, .int x1, .float 0, .int x3, .int x4, .int x5, .int x6, .float 0] [.int 0] (ev_mk h I L)
    else
      ev_cI (ev_do d M_Mo_apartBy [.ref 139, .int x5, .int x6, .int (I 143 24)] (ev_mk h I L)) (fun v2 s1 =>
        (if x3 < v2 then
          ev_at d M_Mo_chain 140 [.ref 139, .int x1, .float 0, .int x3, .int x4, .int x5, .int x6, .float 0] [.int 0] (ev_mk s1.1.2 s1.2.1 s1.2.2.1)
        else
          ev_at d M_Mo_chain 140 [.ref 139, .int x1, .float 0, .int x3, .int x4, .int x5, .int x6, .float 0] [.int 1] (ev_mk s1.1.2 s1.2.1 s1.2.2.1))))
  else
    ev_at d M_Mo_chain 88 [.ref 139, .int x1, .float 0, .int x3, .int x4, .int (x5 + 1), .float 0, .float 0] [] (ev_mk h I L)) := 
  (ev_eq true (ev_call true d) M_Mo_chain 100 [.ref 139, .int x1, .float 0, .int x3, .int x4, .int x5, .int x6, .float 0] [] (ev_mk h I L)).trans rfl
set_option maxRecDepth 100000 in
theorem e_Mo_chain_140 (d : Nat) (x1 x3 x4 x5 x6 y0 : Int32) (h : Bool × Nat × Nat) (I : Nat → Nat → Int32) (L : Nat → Nat → Int64) : ev_at d M_Mo_chain 140 [.ref 139, .int x1, .float 0, .int x3, .int x4, .int x5, .int x6, .float 0] [.int y0] (ev_mk h I L) =
  (if y0 = 0 then
    (if ev_in x5 8 then
      (if ev_in x5 8 then
        ev_at d M_Mo_chain 100 [.ref 139, .int x1, .float 0, .int x3, .int x4, .int x5, .int (x6 + 1), .float 0] [] (ev_mk h (ev_up I 160 x5.toNatClampNeg (I 160 x5.toNatClampNeg)) L)
      else none)
    else none)
  else
    (if ev_in x5 8 then
      (if ev_in x6 8 then
        (if ev_in x5 8 then
          ev_at d M_Mo_chain 100 [.ref 139, .int x1, .float 0, .int x3, .int x4, .int x5, .int (x6 + 1), .float 0] [] (ev_mk h (ev_up I 160 x5.toNatClampNeg (if ((I 160 x6.toNatClampNeg) + 1) < (I 160 x5.toNatClampNeg) then ((I 160 x6.toNatClampNeg) + 1) else (I 160 x5.toNatClampNeg))) L)
        else none)
      else none)
    else none)) := 
  (ev_eq true (ev_call true d) M_Mo_chain 140 [.ref 139, .int x1, .float 0, .int x3, .int x4, .int x5, .int x6, .float 0] [.int y0] (ev_mk h I L)).trans rfl
set_option maxRecDepth 100000 in
theorem e_Mo_chain_241 (d : Nat) (x1 x3 x4 x5 : Int32) (h : Bool × Nat × Nat) (I : Nat → Nat → Int32) (L : Nat → Nat → Int64) : ev_at d M_Mo_chain 241 [.ref 139, .int x1, .float 0, .int x3, .int x4, .int x5, .float 0, .float 0] [] (ev_mk h I L) =
  (if 0 < x5 then
    ev_at d M_Mo_chain 249 [.ref 139, .int x1, .float 0, .int x3, .int x4, .int x5, .int 0, .float 0] [] (ev_mk h I L)
  else
    (if ev_in x1 8 then
      ev_ri (I 160 x1.toNatClampNeg) (ev_mk h I L)
    else none)) := 
  (ev_eq true (ev_call true d) M_Mo_chain 241 [.ref 139, .int x1, .float 0, .int x3, .int x4, .int x5, .float 0, .float 0] [] (ev_mk h I L)).trans rfl
set_option maxRecDepth 100000 in
theorem e_Mo_chain_249 (d : Nat) (x1 x3 x4 x5 x6 : Int32) (h : Bool × Nat × Nat) (I : Nat → Nat → Int32) (L : Nat → Nat → Int64) : ev_at d M_Mo_chain 249 [.ref 139, .int x1, .float 0, .int x3, .int x4, .int x5, .int x6, .float 0] [] (ev_mk h I L) =
  (if x6 = x4 then
    ev_at d M_Mo_chain 249 [.ref 139, .int x1, .float 0, .int x3, .int x4, .int x5, .int (x6 + 1), .float 0] [] (ev_mk h I L)
  else
    (if ev_in x6 8 then
      (if (I 160 x6.toNatClampNeg) = x5 then
        ev_cI (ev_do d M_Mo_apartBy [.ref 139, .int x4, .int x6, .int (I 143 24)] (ev_mk h I L)) (fun v2 s1 =>
          (if x3 < v2 then
            ev_at d M_Mo_chain 249 [.ref 139, .int x1, .float 0, .int x3, .int x4, .int x5, .int (x6 + 1), .float 0] [] (ev_mk s1.1.2 s1.2.1 s1.2.2.1)
          else
            ev_cV (ev_do d M_Mo_enters [.ref 139, .long x6.toInt64] (ev_mk s1.1.2 s1.2.1 s1.2.2.1)) (fun s3 =>
              ev_at d M_Mo_chain 241 [.ref 139, .int x1, .float 0, .int x3, .int x6, .int (x5 + (-1)), .float 0, .float 0] [] (ev_mk s3.1.2 s3.2.1 s3.2.2.1))))
      else
        ev_at d M_Mo_chain 249 [.ref 139, .int x1, .float 0, .int x3, .int x4, .int x5, .int (x6 + 1), .float 0] [] (ev_mk h I L))
    else none)) := 
  (ev_eq true (ev_call true d) M_Mo_chain 249 [.ref 139, .int x1, .float 0, .int x3, .int x4, .int x5, .int x6, .float 0] [] (ev_mk h I L)).trans rfl
set_option maxRecDepth 100000 in
theorem e_Mo_codes_0 (d : Nat) (x1 : Int32) (h : Bool × Nat × Nat) (I : Nat → Nat → Int32) (L : Nat → Nat → Int64) : ev_do (d + 1) M_Mo_codes [.ref 139, .int x1] (ev_mk h I L) =
  (if ev_in (I 139 21) 80 then
    ev_rn (ev_mk h (ev_up (ev_up I 150 ((I 139 21).toNatClampNeg) x1) 139 21 ((I 139 21) + 1)) L)
  else none) := 
  (ev_eq true (ev_call true d) M_Mo_codes 0 [.ref 139, .int x1] [] (ev_mk h I L)).trans rfl
set_option maxRecDepth 100000 in
theorem e_Mo_common_0 (d : Nat) (x0 x1 : Int64) (h : Bool × Nat × Nat) (I : Nat → Nat → Int32) (L : Nat → Nat → Int64) : ev_do (d + 1) M_Mo_common [.long x0, .long x1] (ev_mk h I L) =
  (if (lg_cmp x1 0) = 0 then
    ev_rl x0 (ev_mk h I L)
  else
    (if x1 = 0 then
      none
    else
      ev_cL (ev_do d M_Mo_common [.long x1, .long (x0 - x0 / x1 * x1)] (ev_mk h I L)) (fun v2 s1 =>
        ev_rl v2 (ev_mk s1.1.2 s1.2.1 s1.2.2.1)))) := 
  (ev_eq true (ev_call true d) M_Mo_common 0 [.long x0, .float 0, .long x1, .float 0] [] (ev_mk h I L)).trans rfl
set_option maxRecDepth 100000 in
theorem e_Mo_copies_0 (d : Nat) (h : Bool × Nat × Nat) (I : Nat → Nat → Int32) (L : Nat → Nat → Int64) : ev_do (d + 1) M_Mo_copies [.ref 139] (ev_mk h I L) =
  ev_at d M_Mo_copies 2 [.ref 139, .int 0] [] (ev_mk h I L) := 
  (ev_eq true (ev_call true d) M_Mo_copies 0 [.ref 139, .float 0] [] (ev_mk h I L)).trans rfl
set_option maxRecDepth 100000 in
theorem e_Mo_copies_2 (d : Nat) (x1 : Int32) (h : Bool × Nat × Nat) (I : Nat → Nat → Int32) (L : Nat → Nat → Int64) : ev_at d M_Mo_copies 2 [.ref 139, .int x1] [] (ev_mk h I L) =
  (if x1 < 27 then
    (if ev_in x1 27 then
      (if ev_in x1 27 then
        ev_at d M_Mo_copies 2 [.ref 139, .int (x1 + 1)] [] (ev_mk h (ev_up I 144 x1.toNatClampNeg (I 143 x1.toNatClampNeg)) L)
      else none)
    else none)
  else
    ev_rn (ev_mk h I L)) := 
  (ev_eq true (ev_call true d) M_Mo_copies 2 [.ref 139, .int x1] [] (ev_mk h I L)).trans rfl
set_option maxRecDepth 100000 in
theorem e_Mo_cost_0 (d : Nat) (x1 : Int32) (h : Bool × Nat × Nat) (I : Nat → Nat → Int32) (L : Nat → Nat → Int64) : ev_do (d + 1) M_Mo_cost [.ref 139, .int x1] (ev_mk h I L) =
  ev_at d M_Mo_cost 2 [.ref 139, .int x1, .int 0] [] (ev_mk h I L) := 
  (ev_eq true (ev_call true d) M_Mo_cost 0 [.ref 139, .int x1, .float 0] [] (ev_mk h I L)).trans rfl
set_option maxRecDepth 100000 in
theorem e_Mo_cost_2 (d : Nat) (x1 x2 : Int32) (h : Bool × Nat × Nat) (I : Nat → Nat → Int32) (L : Nat → Nat → Int64) : ev_at d M_Mo_cost 2 [.ref 139, .int x1, .int x2] [] (ev_mk h I L) =
  (if ev_in (16 + x1) 27 then
    (if 9 < (x2 + (I 143 ((16 + x1).toNatClampNeg))) then
      ev_ri 1000000 (ev_mk h I L)
    else
      (if ev_in (16 + x1) 27 then
        ev_cI (ev_do d M_Mo_grudgeAt [.ref 139, .ref 143, .int x1, .int ((I 143 ((16 + x1).toNatClampNeg)) + x2)] (ev_mk h I L)) (fun v2 s1 =>
          (if 0 < v2 then
            ev_at d M_Mo_cost 2 [.ref 139, .int x1, .int (x2 + 1)] [] (ev_mk s1.1.2 s1.2.1 s1.2.2.1)
          else
            ev_ri x2 (ev_mk s1.1.2 s1.2.1 s1.2.2.1)))
      else none))
  else none) := 
  (ev_eq true (ev_call true d) M_Mo_cost 2 [.ref 139, .int x1, .int x2] [] (ev_mk h I L)).trans rfl
set_option maxRecDepth 100000 in
theorem e_Mo_count_0 (d : Nat) (x1 : Int32) (h : Bool × Nat × Nat) (I : Nat → Nat → Int32) (L : Nat → Nat → Int64) : ev_do (d + 1) M_Mo_count [.ref 139, .int x1] (ev_mk h I L) =
  (if x1 = 0 then
    ev_ri (I 139 3) (ev_mk h (ev_up I 139 0 0) L)
  else (if x1 = 1 then
    ev_ri (I 143 25) (ev_mk h (ev_up I 139 0 0) L)
  else (if x1 = 2 then
    ev_ri (I 143 24) (ev_mk h (ev_up I 139 0 0) L)
  else (if x1 = 3 then
    ev_ri (I 143 26) (ev_mk h (ev_up I 139 0 0) L)
  else (if x1 = 4 then
    ev_cI (ev_do d M_Mo_sumOf [.ref 143, .int 8] (ev_mk h (ev_up I 139 0 0) L)) (fun v2 s1 =>
      ev_ri v2 (ev_mk s1.1.2 s1.2.1 s1.2.2.1))
  else (if x1 = 5 then
    ev_cI (ev_do d M_Mo_sumOf [.ref 143, .int 16] (ev_mk h (ev_up I 139 0 0) L)) (fun v4 s3 =>
      ev_ri v4 (ev_mk s3.1.2 s3.2.1 s3.2.2.1))
  else (if x1 = 6 then
    ev_cI (ev_do d M_Mo_allSigns [.ref 139, .int 1] (ev_mk h (ev_up I 139 0 0) L)) (fun v6 s5 =>
      ev_ri v6 (ev_mk s5.1.2 s5.2.1 s5.2.2.1))
  else (if x1 = 7 then
    ev_cI (ev_do d M_Mo_allSigns [.ref 139, .int 0] (ev_mk h (ev_up I 139 0 0) L)) (fun v8 s7 =>
      ev_ri v8 (ev_mk s7.1.2 s7.2.1 s7.2.2.1))
  else (if x1 = 8 then
    ev_ri (I 139 35) (ev_mk h (ev_up I 139 0 0) L)
  else (if x1 = 9 then
    ev_ri (I 139 26) (ev_mk h (ev_up I 139 0 0) L)
  else (if x1 = 10 then
    ev_ri (I 139 1) (ev_mk h (ev_up I 139 0 0) L)
  else (if x1 = 11 then
    ev_ri (I 139 10) (ev_mk h (ev_up I 139 0 0) L)
  else ev_ri (-100) (ev_mk h (ev_up I 139 0 0) L))))))))))))) := 
  (ev_eq true (ev_call true d) M_Mo_count 0 [.ref 139, .int x1] [] (ev_mk h I L)).trans rfl
set_option maxRecDepth 100000 in
theorem e_Mo_counted_0 (d : Nat) (x1 : Int32) (h : Bool × Nat × Nat) (I : Nat → Nat → Int32) (L : Nat → Nat → Int64) : ev_do (d + 1) M_Mo_counted [.ref 139, .int x1] (ev_mk h I L) =
  (if x1 < 0 then
    ev_ri x1 (ev_mk h I L)
  else
    ev_cI (ev_do d M_Mo_adds [.ref 139, .int x1] (ev_mk h I L)) (fun v2 s1 =>
      ev_ri v2 (ev_mk s1.1.2 s1.2.1 s1.2.2.1))) := 
  (ev_eq true (ev_call true d) M_Mo_counted 0 [.ref 139, .int x1] [] (ev_mk h I L)).trans rfl
set_option maxRecDepth 100000 in
theorem e_Mo_crossest_0 (d : Nat) (h : Bool × Nat × Nat) (I : Nat → Nat → Int32) (L : Nat → Nat → Int64) : ev_do (d + 1) M_Mo_crossest [.ref 139] (ev_mk h I L) =
  ev_cI (ev_do d M_Mo_unsaid [.ref 139, .ref 143] (ev_mk h (ev_up I 139 0 0) L)) (fun v2 s1 =>
    ev_at d M_Mo_crossest 22 [.ref 139, .int v2, .int (-2), .int 0, .int 0, .float 0] [] (ev_mk s1.1.2 s1.2.1 s1.2.2.1)) := 
  (ev_eq true (ev_call true d) M_Mo_crossest 0 [.ref 139, .float 0, .float 0, .float 0, .float 0, .float 0] [] (ev_mk h I L)).trans rfl
set_option maxRecDepth 100000 in
theorem e_Mo_crossest_22 (d : Nat) (x1 x2 x3 x4 : Int32) (h : Bool × Nat × Nat) (I : Nat → Nat → Int32) (L : Nat → Nat → Int64) : ev_at d M_Mo_crossest 22 [.ref 139, .int x1, .int x2, .int x3, .int x4, .float 0] [] (ev_mk h I L) =
  (if x4 < 8 then
    ev_cI (ev_do d M_Mo_has [.int x1, .int x4] (ev_mk h I L)) (fun v2 s1 =>
      (if v2 = 0 then
        ev_at d M_Mo_crossest 22 [.ref 139, .int x1, .int x2, .int x3, .int (x4 + 1), .float 0] [] (ev_mk s1.1.2 s1.2.1 s1.2.2.1)
      else
        (if x2 < 0 then
          ev_at d M_Mo_crossest 68 [.ref 139, .int x1, .int x2, .int x3, .int x4, .float 0] [.int 1] (ev_mk s1.1.2 s1.2.1 s1.2.2.1)
        else
          ev_cI (ev_do d M_Mo_grudge [.ref 139, .ref 143, .int x4] (ev_mk s1.1.2 s1.2.1 s1.2.2.1)) (fun v4 s3 =>
            ev_cI (ev_do d M_Mo_grudge [.ref 139, .ref 143, .int x2] (ev_mk s3.1.2 s3.2.1 s3.2.2.1)) (fun v6 s5 =>
              ev_cI (ev_do d M_Int_compare [.int v4, .int v6] (ev_mk s5.1.2 s5.2.1 s5.2.2.1)) (fun v8 s7 =>
                ev_at d M_Mo_crossest 68 [.ref 139, .int x1, .int x2, .int x3, .int x4, .float 0] [.int v8] (ev_mk s7.1.2 s7.2.1 s7.2.2.1)))))))
  else
    (if x2 < 0 then
      ev_ri x2 (ev_mk h I L)
    else
      ev_cI (ev_do d M_Mo_grudge [.ref 139, .ref 143, .int x2] (ev_mk h (ev_up I 139 1 0) L)) (fun v10 s9 =>
        ev_cV (ev_do d M_Mo_enters [.ref 139, .long v10.toInt64] (ev_mk s9.1.2 s9.2.1 s9.2.2.1)) (fun s11 =>
          ev_cV (ev_do d M_Mo_enters [.ref 139, .long x3.toInt64] (ev_mk s11.1.2 s11.2.1 s11.2.2.1)) (fun s12 =>
            ev_ri x2 (ev_mk s12.1.2 s12.2.1 s12.2.2.1)))))) := 
  (ev_eq true (ev_call true d) M_Mo_crossest 22 [.ref 139, .int x1, .int x2, .int x3, .int x4, .float 0] [] (ev_mk h I L)).trans rfl
set_option maxRecDepth 100000 in
theorem e_Mo_crossest_68 (d : Nat) (x1 x2 x3 x4 y0 : Int32) (h : Bool × Nat × Nat) (I : Nat → Nat → Int32) (L : Nat → Nat → Int64) : ev_at d M_Mo_crossest 68 [.ref 139, .int x1, .int x2, .int x3, .int x4, .float 0] [.int y0] (ev_mk h I L) =
  (if 0 < y0 then
    ev_at d M_Mo_crossest 94 [.ref 139, .int x1, .int x2, .float 0, .int x4, .int y0] [.int 1] (ev_mk h I L)
  else
    (if y0 = 0 then
      ev_cI (ev_do d M_Mo_flag [.int 1] (ev_mk h I L)) (fun v2 s1 =>
        ev_at d M_Mo_crossest 94 [.ref 139, .int x1, .int x2, .float 0, .int x4, .int y0] [.int (x3 + v2)] (ev_mk s1.1.2 s1.2.1 s1.2.2.1))
    else
      ev_cI (ev_do d M_Mo_flag [.int 0] (ev_mk h I L)) (fun v4 s3 =>
        ev_at d M_Mo_crossest 94 [.ref 139, .int x1, .int x2, .float 0, .int x4, .int y0] [.int (x3 + v4)] (ev_mk s3.1.2 s3.2.1 s3.2.2.1)))) := 
  (ev_eq true (ev_call true d) M_Mo_crossest 68 [.ref 139, .int x1, .int x2, .int x3, .int x4, .float 0] [.int y0] (ev_mk h I L)).trans rfl
set_option maxRecDepth 100000 in
theorem e_Mo_crossest_94 (d : Nat) (x1 x2 x4 x5 y0 : Int32) (h : Bool × Nat × Nat) (I : Nat → Nat → Int32) (L : Nat → Nat → Int64) : ev_at d M_Mo_crossest 94 [.ref 139, .int x1, .int x2, .float 0, .int x4, .int x5] [.int y0] (ev_mk h I L) =
  (if 0 < x5 then
    ev_at d M_Mo_crossest 22 [.ref 139, .int x1, .int x4, .int y0, .int (x4 + 1), .float 0] [] (ev_mk h I L)
  else
    ev_at d M_Mo_crossest 22 [.ref 139, .int x1, .int x2, .int y0, .int (x4 + 1), .float 0] [] (ev_mk h I L)) := 
  (ev_eq true (ev_call true d) M_Mo_crossest 94 [.ref 139, .int x1, .int x2, .float 0, .int x4, .int x5] [.int y0] (ev_mk h I L)).trans rfl
set_option maxRecDepth 100000 in
theorem e_Mo_dayGoes_0 (d : Nat) {k1 : Nat} (hk1 : k1 = 143 ∨ k1 = 144) (h : Bool × Nat × Nat) (I : Nat → Nat → Int32) (L : Nat → Nat → Int64) : ev_do (d + 1) M_Mo_dayGoes [.ref 139, .ref k1] (ev_mk h I L) =
  ev_cI (ev_do d M_Mo_unsaid [.ref 139, .ref k1] (ev_mk h I L)) (fun v2 s1 =>
    ev_cI (ev_do d M_Mo_strikeNext [.ref 139, .ref k1] (ev_mk s1.1.2 s1.2.1 s1.2.2.1)) (fun v4 s3 =>
      ev_cI (ev_do d M_Mo_fallen [.ref 139, .ref k1, .int v4] (ev_mk s3.1.2 (ev_up s3.2.1 k1 24 v4) s3.2.2.1)) (fun v6 s5 =>
        ev_at d M_Mo_dayGoes 45 [.float 0, .ref k1, .int v2, .int v4, .int v6, .int 0, .float 0] [] (ev_mk s5.1.2 (ev_up s5.2.1 k1 26 (if ((s5.2.1 k1 26) + v6) < 9999 then ((s5.2.1 k1 26) + v6) else 9999)) s5.2.2.1)))) := by
  rcases hk1 with rfl | rfl <;> exact (ev_eq true (ev_call true d) M_Mo_dayGoes 0 _ _ (ev_mk h I L)).trans rfl
set_option maxRecDepth 100000 in
theorem e_Mo_dayGoes_45 (d : Nat) (x2 x3 x4 x5 : Int32) {k1 : Nat} (hk1 : k1 = 143 ∨ k1 = 144) (h : Bool × Nat × Nat) (I : Nat → Nat → Int32) (L : Nat → Nat → Int64) : ev_at d M_Mo_dayGoes 45 [.float 0, .ref k1, .int x2, .int x3, .int x4, .int x5, .float 0] [] (ev_mk h I L) =
  (if x5 < 8 then
    ev_cI (ev_do d M_Mo_has [.int x3, .int x5] (ev_mk h I L)) (fun v2 s1 =>
      (if v2 = 0 then
        ev_cI (ev_do d M_Mo_has [.int x2, .int x5] (ev_mk s1.1.2 s1.2.1 s1.2.2.1)) (fun v4 s3 =>
          ev_cI (ev_do d M_Mo_flag [.int v4] (ev_mk s3.1.2 s3.2.1 s3.2.2.1)) (fun v6 s5 =>
            ev_at d M_Mo_dayGoes 75 [.float 0, .ref k1, .int x2, .int x3, .int x4, .int x5, .float 0] [.int v6] (ev_mk s5.1.2 s5.2.1 s5.2.2.1)))
      else
        ev_at d M_Mo_dayGoes 75 [.float 0, .ref k1, .int x2, .int x3, .int x4, .int x5, .float 0] [.int (-2)] (ev_mk s1.1.2 s1.2.1 s1.2.2.1)))
  else
    ev_ri x4 (ev_mk h (ev_up I k1 25 ((I k1 25) + 1)) L)) := by
  rcases hk1 with rfl | rfl <;> exact (ev_eq true (ev_call true d) M_Mo_dayGoes 45 _ _ (ev_mk h I L)).trans rfl
set_option maxRecDepth 100000 in
theorem e_Mo_dayGoes_75 (d : Nat) (x2 x3 x4 x5 y0 : Int32) {k1 : Nat} (hk1 : k1 = 143 ∨ k1 = 144) (h : Bool × Nat × Nat) (I : Nat → Nat → Int32) (L : Nat → Nat → Int64) : ev_at d M_Mo_dayGoes 75 [.float 0, .ref k1, .int x2, .int x3, .int x4, .int x5, .float 0] [.int y0] (ev_mk h I L) =
  (if ev_in (8 + x5) 27 then
    (if ev_in (8 + x5) 27 then
      ev_at d M_Mo_dayGoes 45 [.float 0, .ref k1, .int x2, .int x3, .int x4, .int (x5 + 1), .float 0] [] (ev_mk h (ev_up I k1 ((8 + x5).toNatClampNeg) (if 0 < (if ((I k1 ((8 + x5).toNatClampNeg)) + y0) < 9 then ((I k1 ((8 + x5).toNatClampNeg)) + y0) else 9) then (if ((I k1 ((8 + x5).toNatClampNeg)) + y0) < 9 then ((I k1 ((8 + x5).toNatClampNeg)) + y0) else 9) else 0)) L)
    else none)
  else none) := by
  rcases hk1 with rfl | rfl <;> exact (ev_eq true (ev_call true d) M_Mo_dayGoes 75 _ _ (ev_mk h I L)).trans rfl
set_option maxRecDepth 100000 in
theorem e_Mo_days_0 (d : Nat) (x1 : Int32) (h : Bool × Nat × Nat) (I : Nat → Nat → Int32) (L : Nat → Nat → Int64) : ev_do (d + 1) M_Mo_days [.ref 139, .int x1] (ev_mk h I L) =
  ev_cI (ev_do d M_Mo_in [.long x1.toInt64, .long 0, .long 60] (ev_mk h (ev_up I 139 0 0) L)) (fun v2 s1 =>
    (if v2 = 0 then
      ev_ri (-1) (ev_mk s1.1.2 s1.2.1 s1.2.2.1)
    else
      ev_cV (ev_do d M_Mo_putsBy [.ref 139] (ev_mk s1.1.2 s1.2.1 s1.2.2.1)) (fun s3 =>
        ev_at d M_Mo_days 30 [.ref 139, .int x1, .int 0, .int 0, .int 0] [] (ev_mk s3.1.2 s3.2.1 s3.2.2.1)))) := 
  (ev_eq true (ev_call true d) M_Mo_days 0 [.ref 139, .int x1, .float 0, .float 0, .float 0] [] (ev_mk h I L)).trans rfl
set_option maxRecDepth 100000 in
theorem e_Mo_days_30 (d : Nat) (x1 x2 x3 x4 : Int32) (h : Bool × Nat × Nat) (I : Nat → Nat → Int32) (L : Nat → Nat → Int64) : ev_at d M_Mo_days 30 [.ref 139, .int x1, .int x2, .int x3, .int x4] [] (ev_mk h I L) =
  (if x4 < x1 then
    ev_cI (ev_do d M_Mo_dayGoes [.ref 139, .ref 143] (ev_mk h I L)) (fun v2 s1 =>
      (if (s1.2.1 143 24) = 0 then
        ev_at d M_Mo_days 63 [.ref 139, .int x1, .int (x2 + v2), .float 0, .int x4] [.int 0, .int x3] (ev_mk s1.1.2 s1.2.1 s1.2.2.1)
      else
        ev_at d M_Mo_days 63 [.ref 139, .int x1, .int (x2 + v2), .float 0, .int x4] [.int 1, .int x3] (ev_mk s1.1.2 s1.2.1 s1.2.2.1)))
  else
    ev_cV (ev_do d M_Mo_enters [.ref 139, .long x2.toInt64] (ev_mk h (ev_up I 139 1 0) L)) (fun s3 =>
      ev_cV (ev_do d M_Mo_enters [.ref 139, .long x3.toInt64] (ev_mk s3.1.2 s3.2.1 s3.2.2.1)) (fun s4 =>
        ev_cI (ev_do d M_Mo_adds [.ref 139, .int (s4.2.1 143 24)] (ev_mk s4.1.2 s4.2.1 s4.2.2.1)) (fun v6 s5 =>
          ev_ri v6 (ev_mk s5.1.2 s5.2.1 s5.2.2.1))))) := 
  (ev_eq true (ev_call true d) M_Mo_days 30 [.ref 139, .int x1, .int x2, .int x3, .int x4] [] (ev_mk h I L)).trans rfl
set_option maxRecDepth 100000 in
theorem e_Mo_days_63 (d : Nat) (x1 x2 x4 y0 y1 : Int32) (h : Bool × Nat × Nat) (I : Nat → Nat → Int32) (L : Nat → Nat → Int64) : ev_at d M_Mo_days 63 [.ref 139, .int x1, .int x2, .float 0, .int x4] [.int y0, .int y1] (ev_mk h I L) =
  ev_cI (ev_do d M_Mo_flag [.int y0] (ev_mk h I L)) (fun v2 s1 =>
    ev_at d M_Mo_days 30 [.ref 139, .int x1, .int x2, .int (y1 + v2), .int (x4 + 1)] [] (ev_mk s1.1.2 s1.2.1 s1.2.2.1)) := 
  (ev_eq true (ev_call true d) M_Mo_days 63 [.ref 139, .int x1, .int x2, .float 0, .int x4] [.int y0, .int y1] (ev_mk h I L)).trans rfl
set_option maxRecDepth 100000 in
theorem e_Mo_digitIn_0 (d : Nat) (x1 x2 : Int32) (h : Bool × Nat × Nat) (I : Nat → Nat → Int32) (L : Nat → Nat → Int64) : ev_do (d + 1) M_Mo_digitIn [.ref 139, .int x1, .int x2] (ev_mk h I L) =
  (if (I 139 11) < (I 139 12) then
    (if ev_in (I 139 11) 80 then
      ev_cI (ev_do d M_Mo_in [.long (((I 145 ((I 139 11).toNatClampNeg)) - 48).toInt64), .long x1.toInt64, .long x2.toInt64] (ev_mk h I L)) (fun v2 s1 =>
        (if v2 = 0 then
          ev_ri (-1) (ev_mk s1.1.2 s1.2.1 s1.2.2.1)
        else
          (if ev_in (((s1.2.1 139 11) + 1) - 1) 80 then
            ev_ri ((s1.2.1 145 ((((s1.2.1 139 11) + 1) - 1).toNatClampNeg)) - 48) (ev_mk s1.1.2 (ev_up s1.2.1 139 11 ((s1.2.1 139 11) + 1)) s1.2.2.1)
          else none)))
    else none)
  else
    ev_ri (-1) (ev_mk h I L)) := 
  (ev_eq true (ev_call true d) M_Mo_digitIn 0 [.ref 139, .int x1, .int x2] [] (ev_mk h I L)).trans rfl
set_option maxRecDepth 100000 in
theorem e_Mo_does_0 (d : Nat) (x1 : Int32) (h : Bool × Nat × Nat) (I : Nat → Nat → Int32) (L : Nat → Nat → Int64) : ev_do (d + 1) M_Mo_does [.ref 139, .int x1] (ev_mk h I L) =
  (if ev_in x1 60 then
    (if ev_in x1 60 then
      (if (I 156 x1.toNatClampNeg) = 0 then
        ev_at d M_Mo_does 46 [.ref 139, .float 0, .int (I 157 x1.toNatClampNeg), .int 0] [] (ev_mk h I L)
      else (if (I 156 x1.toNatClampNeg) = 1 then
        (if ev_in x1 60 then
          ev_cI (ev_do d M_Mo_mutesOne [.ref 139, .ref 143, .int (I 157 x1.toNatClampNeg), .int (I 158 x1.toNatClampNeg)] (ev_mk h I L)) (fun v2 s1 =>
            (if v2 < 0 then
              ev_ri 0 (ev_mk s1.1.2 s1.2.1 s1.2.2.1)
            else
              ev_ri 1 (ev_mk s1.1.2 s1.2.1 s1.2.2.1)))
        else none)
      else (if (I 156 x1.toNatClampNeg) = 2 then
        (if ev_in x1 60 then
          ev_cI (ev_do d M_Mo_offers [.ref 139, .ref 143, .int (I 157 x1.toNatClampNeg), .int (I 158 x1.toNatClampNeg)] (ev_mk h I L)) (fun v4 s3 =>
            (if v4 < 0 then
              ev_ri 0 (ev_mk s3.1.2 s3.2.1 s3.2.2.1)
            else
              ev_ri 1 (ev_mk s3.1.2 s3.2.1 s3.2.2.1)))
        else none)
      else (if (I 156 x1.toNatClampNeg) = 3 then
        (if ev_in x1 60 then
          ev_cI (ev_do d M_Mo_stirsOne [.ref 139, .int (I 157 x1.toNatClampNeg), .int (I 158 x1.toNatClampNeg)] (ev_mk h I L)) (fun v6 s5 =>
            (if v6 < 0 then
              ev_ri 0 (ev_mk s5.1.2 s5.2.1 s5.2.2.1)
            else
              ev_ri 1 (ev_mk s5.1.2 s5.2.1 s5.2.2.1)))
        else none)
      else (if ev_in x1 60 then
          ev_cI (ev_do d M_Mo_stirsOne [.ref 139, .int (I 157 x1.toNatClampNeg), .int (-(I 158 x1.toNatClampNeg))] (ev_mk h I L)) (fun v8 s7 =>
            (if v8 < 0 then
              ev_ri 0 (ev_mk s7.1.2 s7.2.1 s7.2.2.1)
            else
              ev_ri 1 (ev_mk s7.1.2 s7.2.1 s7.2.2.1)))
        else none)))))
    else none)
  else none) := 
  (ev_eq true (ev_call true d) M_Mo_does 0 [.ref 139, .int x1, .float 0, .float 0] [] (ev_mk h I L)).trans rfl
set_option maxRecDepth 100000 in
theorem e_Mo_does_46 (d : Nat) (x2 x3 : Int32) (h : Bool × Nat × Nat) (I : Nat → Nat → Int32) (L : Nat → Nat → Int64) : ev_at d M_Mo_does 46 [.ref 139, .float 0, .int x2, .int x3] [] (ev_mk h I L) =
  (if x3 < x2 then
    ev_cI (ev_do d M_Mo_dayGoes [.ref 139, .ref 143] (ev_mk h I L)) (fun v2 s1 =>
      ev_at d M_Mo_does 46 [.ref 139, .float 0, .int x2, .int (x3 + 1)] [] (ev_mk s1.1.2 s1.2.1 s1.2.2.1))
  else
    ev_ri 1 (ev_mk h I L)) := 
  (ev_eq true (ev_call true d) M_Mo_does 46 [.ref 139, .float 0, .int x2, .int x3] [] (ev_mk h I L)).trans rfl
set_option maxRecDepth 100000 in
theorem e_Mo_draws_0 (d : Nat) (x1 : Int32) (h : Bool × Nat × Nat) (I : Nat → Nat → Int32) (L : Nat → Nat → Int64) : ev_do (d + 1) M_Mo_draws [.ref 139, .int x1] (ev_mk h I L) =
  (if x1 = 0 then
    none
  else
    ev_ri ((((((I 139 45) * 1103515245) + 12345).toUInt32 >>> ((16 : Int32).toUInt32 &&& Int32.toUInt32 31)).toInt32) - (((((I 139 45) * 1103515245) + 12345).toUInt32 >>> ((16 : Int32).toUInt32 &&& Int32.toUInt32 31)).toInt32) / x1 * x1) (ev_mk h (ev_up I 139 45 (((I 139 45) * 1103515245) + 12345)) L)) := 
  (ev_eq true (ev_call true d) M_Mo_draws 0 [.ref 139, .int x1] [] (ev_mk h I L)).trans rfl
set_option maxRecDepth 100000 in
theorem e_Mo_end_0 (d : Nat) (x1 : Int32) (h : Bool × Nat × Nat) (I : Nat → Nat → Int32) (L : Nat → Nat → Int64) : ev_do (d + 1) M_Mo_end [.ref 139, .int x1] (ev_mk h I L) =
  ev_cI (ev_do d M_Mo_in [.long x1.toInt64, .long 0, .long ((I 139 10).toInt64)] (ev_mk h (ev_up I 139 0 0) L)) (fun v2 s1 =>
    (if v2 = 0 then
      ev_ri 0 (ev_mk s1.1.2 s1.2.1 s1.2.2.1)
    else
      ev_ri 1 (ev_mk s1.1.2 (ev_up s1.2.1 139 10 x1) s1.2.2.1))) := 
  (ev_eq true (ev_call true d) M_Mo_end 0 [.ref 139, .int x1] [] (ev_mk h I L)).trans rfl
set_option maxRecDepth 100000 in
theorem e_Mo_enters_0 (d : Nat) (x1 : Int64) (h : Bool × Nat × Nat) (I : Nat → Nat → Int32) (L : Nat → Nat → Int64) : ev_do (d + 1) M_Mo_enters [.ref 139, .long x1] (ev_mk h I L) =
  (if ev_in (I 139 1) 24 then
    ev_rn (ev_mk h (ev_up I 139 1 ((I 139 1) + 1)) (ev_up L 140 (I 139 1).toNatClampNeg x1))
  else none) := 
  (ev_eq true (ev_call true d) M_Mo_enters 0 [.ref 139, .long x1, .float 0] [] (ev_mk h I L)).trans rfl
set_option maxRecDepth 100000 in
theorem e_Mo_fallen_0 (d : Nat) (x2 : Int32) {k1 : Nat} (hk1 : k1 = 143 ∨ k1 = 144) (h : Bool × Nat × Nat) (I : Nat → Nat → Int32) (L : Nat → Nat → Int64) : ev_do (d + 1) M_Mo_fallen [.ref 139, .ref k1, .int x2] (ev_mk h I L) =
  ev_at d M_Mo_fallen 5 [.ref 139, .ref k1, .int x2, .int 0, .int 0, .float 0] [] (ev_mk h I L) := by
  rcases hk1 with rfl | rfl <;> exact (ev_eq true (ev_call true d) M_Mo_fallen 0 _ _ (ev_mk h I L)).trans rfl
set_option maxRecDepth 100000 in
theorem e_Mo_fallen_5 (d : Nat) (x2 x3 x4 : Int32) {k1 : Nat} (hk1 : k1 = 143 ∨ k1 = 144) (h : Bool × Nat × Nat) (I : Nat → Nat → Int32) (L : Nat → Nat → Int64) : ev_at d M_Mo_fallen 5 [.ref 139, .ref k1, .int x2, .int x3, .int x4, .float 0] [] (ev_mk h I L) =
  (if x4 < (I 139 3) then
    ev_at d M_Mo_fallen 20 [.ref 139, .ref k1, .int x2, .int x3, .int x4, .int (x4 + 1)] [] (ev_mk h I L)
  else
    ev_ri x3 (ev_mk h I L)) := by
  rcases hk1 with rfl | rfl <;> exact (ev_eq true (ev_call true d) M_Mo_fallen 5 _ _ (ev_mk h I L)).trans rfl
set_option maxRecDepth 100000 in
theorem e_Mo_fallen_20 (d : Nat) (x2 x3 x4 x5 : Int32) {k1 : Nat} (hk1 : k1 = 143 ∨ k1 = 144) (h : Bool × Nat × Nat) (I : Nat → Nat → Int32) (L : Nat → Nat → Int64) : ev_at d M_Mo_fallen 20 [.ref 139, .ref k1, .int x2, .int x3, .int x4, .int x5] [] (ev_mk h I L) =
  (if x5 < (I 139 3) then
    ev_cI (ev_do d M_Mo_isOneBy [.ref 139, .ref k1, .int x4, .int x5, .int x2] (ev_mk h I L)) (fun v2 s1 =>
      (if v2 = 0 then
        ev_at d M_Mo_fallen 61 [.ref 139, .ref k1, .int x2, .float 0, .int x4, .int x5] [.int 0, .int x3] (ev_mk s1.1.2 s1.2.1 s1.2.2.1)
      else
        ev_cI (ev_do d M_Mo_isOneBy [.ref 139, .ref k1, .int x4, .int x5, .int 0] (ev_mk s1.1.2 s1.2.1 s1.2.2.1)) (fun v4 s3 =>
          (if v4 = 0 then
            ev_at d M_Mo_fallen 61 [.ref 139, .ref k1, .int x2, .float 0, .int x4, .int x5] [.int 1, .int x3] (ev_mk s3.1.2 s3.2.1 s3.2.2.1)
          else
            ev_at d M_Mo_fallen 61 [.ref 139, .ref k1, .int x2, .float 0, .int x4, .int x5] [.int 0, .int x3] (ev_mk s3.1.2 s3.2.1 s3.2.2.1)))))
  else
    ev_at d M_Mo_fallen 5 [.ref 139, .ref k1, .int x2, .int x3, .int (x4 + 1), .float 0] [] (ev_mk h I L)) := by
  rcases hk1 with rfl | rfl <;> exact (ev_eq true (ev_call true d) M_Mo_fallen 20 _ _ (ev_mk h I L)).trans rfl
set_option maxRecDepth 100000 in
theorem e_Mo_fallen_61 (d : Nat) (x2 x4 x5 y0 y1 : Int32) {k1 : Nat} (hk1 : k1 = 143 ∨ k1 = 144) (h : Bool × Nat × Nat) (I : Nat → Nat → Int32) (L : Nat → Nat → Int64) : ev_at d M_Mo_fallen 61 [.ref 139, .ref k1, .int x2, .float 0, .int x4, .int x5] [.int y0, .int y1] (ev_mk h I L) =
  ev_cI (ev_do d M_Mo_flag [.int y0] (ev_mk h I L)) (fun v2 s1 =>
    ev_at d M_Mo_fallen 20 [.ref 139, .ref k1, .int x2, .int (y1 + v2), .int x4, .int (x5 + 1)] [] (ev_mk s1.1.2 s1.2.1 s1.2.2.1)) := by
  rcases hk1 with rfl | rfl <;> exact (ev_eq true (ev_call true d) M_Mo_fallen 61 _ _ (ev_mk h I L)).trans rfl
set_option maxRecDepth 100000 in
theorem e_Mo_falls_0 (d : Nat) (h : Bool × Nat × Nat) (I : Nat → Nat → Int32) (L : Nat → Nat → Int64) : ev_do (d + 1) M_Mo_falls [.ref 139] (ev_mk h I L) =
  ev_cV (ev_do d M_Mo_copies [.ref 139] (ev_mk h (ev_up I 139 0 0) L)) (fun s1 =>
    ev_at d M_Mo_falls 11 [.ref 139, .int 1, .float 0, .float 0] [] (ev_mk s1.1.2 s1.2.1 s1.2.2.1)) := 
  (ev_eq true (ev_call true d) M_Mo_falls 0 [.ref 139, .float 0, .float 0, .float 0] [] (ev_mk h I L)).trans rfl
set_option maxRecDepth 100000 in
theorem e_Mo_falls_11 (d : Nat) (x1 : Int32) (h : Bool × Nat × Nat) (I : Nat → Nat → Int32) (L : Nat → Nat → Int64) : ev_at d M_Mo_falls 11 [.ref 139, .int x1, .float 0, .float 0] [] (ev_mk h I L) =
  (if 99 < x1 then
    ev_ri (-2) (ev_mk h I L)
  else
    ev_cI (ev_do d M_Mo_dayGoes [.ref 139, .ref 144] (ev_mk h I L)) (fun v2 s1 =>
      ev_at d M_Mo_falls 28 [.ref 139, .int x1, .int 0, .float 0] [] (ev_mk s1.1.2 s1.2.1 s1.2.2.1))) := 
  (ev_eq true (ev_call true d) M_Mo_falls 11 [.ref 139, .int x1, .float 0, .float 0] [] (ev_mk h I L)).trans rfl
set_option maxRecDepth 100000 in
theorem e_Mo_falls_28 (d : Nat) (x1 x2 : Int32) (h : Bool × Nat × Nat) (I : Nat → Nat → Int32) (L : Nat → Nat → Int64) : ev_at d M_Mo_falls 28 [.ref 139, .int x1, .int x2, .float 0] [] (ev_mk h I L) =
  (if x2 < (I 139 3) then
    ev_at d M_Mo_falls 40 [.ref 139, .int x1, .int x2, .int (x2 + 1)] [] (ev_mk h I L)
  else
    ev_at d M_Mo_falls 11 [.ref 139, .int (x1 + 1), .float 0, .float 0] [] (ev_mk h I L)) := 
  (ev_eq true (ev_call true d) M_Mo_falls 28 [.ref 139, .int x1, .int x2, .float 0] [] (ev_mk h I L)).trans rfl
set_option maxRecDepth 100000 in
theorem e_Mo_falls_40 (d : Nat) (x1 x2 x3 : Int32) (h : Bool × Nat × Nat) (I : Nat → Nat → Int32) (L : Nat → Nat → Int64) : ev_at d M_Mo_falls 40 [.ref 139, .int x1, .int x2, .int x3] [] (ev_mk h I L) =
  (if x3 < (I 139 3) then
    ev_cI (ev_do d M_Mo_isOneBy [.ref 139, .ref 144, .int x2, .int x3, .int (I 144 24)] (ev_mk h I L)) (fun v2 s1 =>
      (if v2 = 0 then
        ev_at d M_Mo_falls 40 [.ref 139, .int x1, .int x2, .int (x3 + 1)] [] (ev_mk s1.1.2 s1.2.1 s1.2.2.1)
      else
        ev_cI (ev_do d M_Mo_isOneBy [.ref 139, .ref 144, .int x2, .int x3, .int 0] (ev_mk s1.1.2 s1.2.1 s1.2.2.1)) (fun v4 s3 =>
          (if v4 = 0 then
            ev_cV (ev_do d M_Mo_enters [.ref 139, .long x2.toInt64] (ev_mk s3.1.2 (ev_up s3.2.1 139 1 0) s3.2.2.1)) (fun s5 =>
              ev_cV (ev_do d M_Mo_enters [.ref 139, .long x3.toInt64] (ev_mk s5.1.2 s5.2.1 s5.2.2.1)) (fun s6 =>
                ev_ri x1 (ev_mk s6.1.2 s6.2.1 s6.2.2.1)))
          else
            ev_at d M_Mo_falls 40 [.ref 139, .int x1, .int x2, .int (x3 + 1)] [] (ev_mk s3.1.2 s3.2.1 s3.2.2.1)))))
  else
    ev_at d M_Mo_falls 28 [.ref 139, .int x1, .int (x2 + 1), .float 0] [] (ev_mk h I L)) := 
  (ev_eq true (ev_call true d) M_Mo_falls 40 [.ref 139, .int x1, .int x2, .int x3] [] (ev_mk h I L)).trans rfl
set_option maxRecDepth 100000 in
theorem e_Mo_faultOf_0 (d : Nat) (x1 x2 x3 : Int32) (h : Bool × Nat × Nat) (I : Nat → Nat → Int32) (L : Nat → Nat → Int64) : ev_do (d + 1) M_Mo_faultOf [.ref 139, .int x1, .int x2, .int x3] (ev_mk h I L) =
  (if x3 = 0 then
    ev_at d M_Mo_faultOf 20 [.ref 139, .int x1, .int x2, .float 0, .float 0] [.int 0] (ev_mk h I L)
  else
    (if (I 139 11) = (I 139 12) then
      ev_at d M_Mo_faultOf 20 [.ref 139, .int x1, .int x2, .float 0, .float 0] [.int 1] (ev_mk h I L)
    else
      ev_at d M_Mo_faultOf 20 [.ref 139, .int x1, .int x2, .float 0, .float 0] [.int 0] (ev_mk h I L))) := 
  (ev_eq true (ev_call true d) M_Mo_faultOf 0 [.ref 139, .int x1, .int x2, .int x3, .float 0] [] (ev_mk h I L)).trans rfl
set_option maxRecDepth 100000 in
theorem e_Mo_faultOf_20 (d : Nat) (x1 x2 y0 : Int32) (h : Bool × Nat × Nat) (I : Nat → Nat → Int32) (L : Nat → Nat → Int64) : ev_at d M_Mo_faultOf 20 [.ref 139, .int x1, .int x2, .float 0, .float 0] [.int y0] (ev_mk h I L) =
  (if x2 < x1 then
    (if y0 = 0 then
      (if (I 139 11) < x2 then
        ev_at d M_Mo_faultOf 44 [.ref 139, .float 0, .float 0, .float 0, .int y0] [] (ev_mk h I L)
      else
        ev_ri ((-1) - x2) (ev_mk h I L))
    else
      ev_ri ((-1) - x2) (ev_mk h I L))
  else
    ev_at d M_Mo_faultOf 44 [.ref 139, .float 0, .float 0, .float 0, .int y0] [] (ev_mk h I L)) := 
  (ev_eq true (ev_call true d) M_Mo_faultOf 20 [.ref 139, .int x1, .int x2, .float 0, .float 0] [.int y0] (ev_mk h I L)).trans rfl
set_option maxRecDepth 100000 in
theorem e_Mo_faultOf_44 (d : Nat) (x4 : Int32) (h : Bool × Nat × Nat) (I : Nat → Nat → Int32) (L : Nat → Nat → Int64) : ev_at d M_Mo_faultOf 44 [.ref 139, .float 0, .float 0, .float 0, .int x4] [] (ev_mk h I L) =
  (if x4 = 0 then
    ev_ri ((-1) - (I 139 11)) (ev_mk h I L)
  else
    ev_ri 0 (ev_mk h I L)) := 
  (ev_eq true (ev_call true d) M_Mo_faultOf 44 [.ref 139, .float 0, .float 0, .float 0, .int x4] [] (ev_mk h I L)).trans rfl
set_option maxRecDepth 100000 in
theorem e_Mo_fits_0 (d : Nat) (h : Bool × Nat × Nat) (I : Nat → Nat → Int32) (L : Nat → Nat → Int64) : ev_do (d + 1) M_Mo_fits [.ref 139] (ev_mk h I L) =
  ev_at d M_Mo_fits 16 [.ref 139, .int 0, .int (-1), .int 255, .int 0] [] (ev_mk h (ev_up I 139 0 0) L) := 
  (ev_eq true (ev_call true d) M_Mo_fits 0 [.ref 139, .float 0, .float 0, .float 0, .float 0] [] (ev_mk h I L)).trans rfl
set_option maxRecDepth 100000 in
theorem e_Mo_fits_16 (d : Nat) (x1 x2 x3 x4 : Int32) (h : Bool × Nat × Nat) (I : Nat → Nat → Int32) (L : Nat → Nat → Int64) : ev_at d M_Mo_fits 16 [.ref 139, .int x1, .int x2, .int x3, .int x4] [] (ev_mk h I L) =
  (if x4 < 256 then
    ev_cI (ev_do d M_Mo_isAsNoticed [.ref 139, .int x4] (ev_mk h I L)) (fun v2 s1 =>
      (if v2 = 0 then
        ev_at d M_Mo_fits 16 [.ref 139, .int x1, .int x2, .int x3, .int (x4 + 1)] [] (ev_mk s1.1.2 s1.2.1 s1.2.2.1)
      else
        ev_cI (ev_do d M_Mo_isFewer [.int x4, .int x2] (ev_mk s1.1.2 s1.2.1 s1.2.2.1)) (fun v4 s3 =>
          (if v4 = 0 then
            ev_at d M_Mo_fits 51 [.ref 139, .int (x1 + 1), .float 0, .int x3, .int x4] [.int x2] (ev_mk s3.1.2 s3.2.1 s3.2.2.1)
          else
            ev_at d M_Mo_fits 51 [.ref 139, .int (x1 + 1), .float 0, .int x3, .int x4] [.int x4] (ev_mk s3.1.2 s3.2.1 s3.2.2.1)))))
  else
    (if 0 < x1 then
      ev_cV (ev_do d M_Mo_enters [.ref 139, .long x2.toInt64] (ev_mk h (ev_up I 139 1 0) L)) (fun s5 =>
        ev_cV (ev_do d M_Mo_enters [.ref 139, .long x3.toInt64] (ev_mk s5.1.2 s5.2.1 s5.2.2.1)) (fun s6 =>
          ev_ri x1 (ev_mk s6.1.2 s6.2.1 s6.2.2.1)))
    else
      ev_ri x1 (ev_mk h (ev_up I 139 1 0) L))) := 
  (ev_eq true (ev_call true d) M_Mo_fits 16 [.ref 139, .int x1, .int x2, .int x3, .int x4] [] (ev_mk h I L)).trans rfl
set_option maxRecDepth 100000 in
theorem e_Mo_fits_51 (d : Nat) (x1 x3 x4 y0 : Int32) (h : Bool × Nat × Nat) (I : Nat → Nat → Int32) (L : Nat → Nat → Int64) : ev_at d M_Mo_fits 51 [.ref 139, .int x1, .float 0, .int x3, .int x4] [.int y0] (ev_mk h I L) =
  ev_at d M_Mo_fits 16 [.ref 139, .int x1, .int y0, .int (x3 &&& x4), .int (x4 + 1)] [] (ev_mk h I L) := 
  (ev_eq true (ev_call true d) M_Mo_fits 51 [.ref 139, .int x1, .float 0, .int x3, .int x4] [.int y0] (ev_mk h I L)).trans rfl
set_option maxRecDepth 100000 in
theorem e_Mo_flag_0 (d : Nat) (x0 : Int32) (h : Bool × Nat × Nat) (I : Nat → Nat → Int32) (L : Nat → Nat → Int64) : ev_do (d + 1) M_Mo_flag [.int x0] (ev_mk h I L) =
  (if x0 = 0 then
    ev_ri 0 (ev_mk h I L)
  else
    ev_ri 1 (ev_mk h I L)) := 
  (ev_eq true (ev_call true d) M_Mo_flag 0 [.int x0] [] (ev_mk h I L)).trans rfl
set_option maxRecDepth 100000 in
theorem e_Mo_forget_0 (d : Nat) (h : Bool × Nat × Nat) (I : Nat → Nat → Int32) (L : Nat → Nat → Int64) : ev_do (d + 1) M_Mo_forget [.ref 139] (ev_mk h I L) =
  ev_ri (I 139 35) (ev_mk h (ev_up (ev_up I 139 0 0) 139 35 0) L) := 
  (ev_eq true (ev_call true d) M_Mo_forget 0 [.ref 139, .float 0] [] (ev_mk h I L)).trans rfl
set_option maxRecDepth 100000 in
theorem e_Mo_game_0 (d : Nat) (x1 x2 x3 : Int32) (h : Bool × Nat × Nat) (I : Nat → Nat → Int32) (L : Nat → Nat → Int64) : ev_do (d + 1) M_Mo_game [.ref 139, .int x1, .int x2, .int x3] (ev_mk h I L) =
  ev_cI (ev_do d M_Mo_in [.long x1.toInt64, .long 0, .long 60] (ev_mk h (ev_up I 139 0 0) L)) (fun v2 s1 =>
    (if v2 = 0 then
      ev_ri (-1) (ev_mk s1.1.2 s1.2.1 s1.2.2.1)
    else
      ev_cI (ev_do d M_Mo_in [.long x2.toInt64, .long 2, .long 9] (ev_mk s1.1.2 s1.2.1 s1.2.2.1)) (fun v4 s3 =>
        (if v4 = 0 then
          ev_ri (-1) (ev_mk s3.1.2 s3.2.1 s3.2.2.1)
        else
          ev_cI (ev_do d M_Mo_in [.long x3.toInt64, .long 2, .long 9] (ev_mk s3.1.2 s3.2.1 s3.2.2.1)) (fun v6 s5 =>
            (if v6 = 0 then
              ev_ri (-1) (ev_mk s5.1.2 s5.2.1 s5.2.2.1)
            else
              (if x1 = 0 then
                ev_ri (-2) (ev_mk s5.1.2 s5.2.1 s5.2.2.1)
              else
                ev_at d M_Mo_game 71 [.ref 139, .int x1, .int x2, .int x3, .int 1] [] (ev_mk s5.1.2 (ev_up (ev_up s5.2.1 168 0 1) 169 0 1) s5.2.2.1)))))))) := 
  (ev_eq true (ev_call true d) M_Mo_game 0 [.ref 139, .int x1, .int x2, .int x3, .float 0] [] (ev_mk h I L)).trans rfl
set_option maxRecDepth 100000 in
theorem e_Mo_game_71 (d : Nat) (x1 x2 x3 x4 : Int32) (h : Bool × Nat × Nat) (I : Nat → Nat → Int32) (L : Nat → Nat → Int64) : ev_at d M_Mo_game 71 [.ref 139, .int x1, .int x2, .int x3, .int x4] [] (ev_mk h I L) =
  (if x1 < x4 then
    (if ev_in (x1 - 1) 61 then
      (if (I 169 ((x1 - 1).toNatClampNeg)) = 0 then
        ev_ri 1 (ev_mk h I L)
      else
        (if x1 < x2 then
          ev_ri 0 (ev_mk h I L)
        else
          (if ev_in (x1 - x2) 61 then
            (if (I 169 ((x1 - x2).toNatClampNeg)) = 0 then
              ev_ri x2 (ev_mk h I L)
            else
              ev_ri 0 (ev_mk h I L))
          else none)))
    else none)
  else
    (if ev_in (x4 - 1) 61 then
      (if (I 169 ((x4 - 1).toNatClampNeg)) = 0 then
        ev_at d M_Mo_game 118 [.ref 139, .int x1, .int x2, .int x3, .int x4] [.int 1, .int x4, .ref 168] (ev_mk h I L)
      else
        (if x4 < x2 then
          ev_at d M_Mo_game 118 [.ref 139, .int x1, .int x2, .int x3, .int x4] [.int 0, .int x4, .ref 168] (ev_mk h I L)
        else
          (if ev_in (x4 - x2) 61 then
            (if (I 169 ((x4 - x2).toNatClampNeg)) = 0 then
              ev_at d M_Mo_game 118 [.ref 139, .int x1, .int x2, .int x3, .int x4] [.int 1, .int x4, .ref 168] (ev_mk h I L)
            else
              ev_at d M_Mo_game 118 [.ref 139, .int x1, .int x2, .int x3, .int x4] [.int 0, .int x4, .ref 168] (ev_mk h I L))
          else none)))
    else none)) := 
  (ev_eq true (ev_call true d) M_Mo_game 71 [.ref 139, .int x1, .int x2, .int x3, .int x4] [] (ev_mk h I L)).trans rfl
set_option maxRecDepth 100000 in
theorem e_Mo_game_118 (d : Nat) (x1 x2 x3 x4 y0 y1 : Int32) (h : Bool × Nat × Nat) (I : Nat → Nat → Int32) (L : Nat → Nat → Int64) : ev_at d M_Mo_game 118 [.ref 139, .int x1, .int x2, .int x3, .int x4] [.int y0, .int y1, .ref 168] (ev_mk h I L) =
  (if ev_in y1 61 then
    (if ev_in (x4 - 1) 61 then
      (if ((ev_up I 168 y1.toNatClampNeg (vp_nar .boolean y0)) 168 ((x4 - 1).toNatClampNeg)) = 0 then
        (if ev_in x4 61 then
          ev_at d M_Mo_game 71 [.ref 139, .int x1, .int x2, .int x3, .int (x4 + 1)] [] (ev_mk h (ev_up (ev_up I 168 y1.toNatClampNeg (vp_nar .boolean y0)) 169 x4.toNatClampNeg 1) L)
        else none)
      else
        (if x4 < x3 then
          (if ev_in x4 61 then
            ev_at d M_Mo_game 71 [.ref 139, .int x1, .int x2, .int x3, .int (x4 + 1)] [] (ev_mk h (ev_up (ev_up I 168 y1.toNatClampNeg (vp_nar .boolean y0)) 169 x4.toNatClampNeg 0) L)
          else none)
        else
          (if ev_in (x4 - x3) 61 then
            (if ((ev_up I 168 y1.toNatClampNeg (vp_nar .boolean y0)) 168 ((x4 - x3).toNatClampNeg)) = 0 then
              (if ev_in x4 61 then
                ev_at d M_Mo_game 71 [.ref 139, .int x1, .int x2, .int x3, .int (x4 + 1)] [] (ev_mk h (ev_up (ev_up I 168 y1.toNatClampNeg (vp_nar .boolean y0)) 169 x4.toNatClampNeg 1) L)
              else none)
            else
              (if ev_in x4 61 then
                ev_at d M_Mo_game 71 [.ref 139, .int x1, .int x2, .int x3, .int (x4 + 1)] [] (ev_mk h (ev_up (ev_up I 168 y1.toNatClampNeg (vp_nar .boolean y0)) 169 x4.toNatClampNeg 0) L)
              else none))
          else none)))
    else none)
  else none) := 
  (ev_eq true (ev_call true d) M_Mo_game 118 [.ref 139, .int x1, .int x2, .int x3, .int x4] [.int y0, .int y1, .ref 168] (ev_mk h I L)).trans rfl
set_option maxRecDepth 100000 in
theorem e_Mo_gets_0 (d : Nat) (x0 x1 x2 : Int32) (h : Bool × Nat × Nat) (I : Nat → Nat → Int32) (L : Nat → Nat → Int64) : ev_do (d + 1) M_Mo_gets [.int x0, .int x1, .int x2] (ev_mk h I L) =
  (if x1 < x0 then
    ev_at d M_Mo_gets 23 [.int x0, .float 0, .float 0, .float 0] [.int x2] (ev_mk h I L)
  else
    (if x0 = x1 then
      ev_at d M_Mo_gets 23 [.int x0, .float 0, .float 0, .float 0] [.int (x2 / 2)] (ev_mk h I L)
    else
      ev_at d M_Mo_gets 23 [.int x0, .float 0, .float 0, .float 0] [.int (x2 / 3)] (ev_mk h I L))) := 
  (ev_eq true (ev_call true d) M_Mo_gets 0 [.int x0, .int x1, .int x2, .float 0] [] (ev_mk h I L)).trans rfl
set_option maxRecDepth 100000 in
theorem e_Mo_gets_23 (d : Nat) (x0 y0 : Int32) (h : Bool × Nat × Nat) (I : Nat → Nat → Int32) (L : Nat → Nat → Int64) : ev_at d M_Mo_gets 23 [.int x0, .float 0, .float 0, .float 0] [.int y0] (ev_mk h I L) =
  ev_ri ((y0 - x0) - (if 0 < (x0 - 5) then (x0 - 5) else 0)) (ev_mk h I L) := 
  (ev_eq true (ev_call true d) M_Mo_gets 23 [.int x0, .float 0, .float 0, .float 0] [.int y0] (ev_mk h I L)).trans rfl
set_option maxRecDepth 100000 in
theorem e_Mo_grudge_0 (d : Nat) (x2 : Int32) {k1 : Nat} (hk1 : k1 = 143 ∨ k1 = 144) (h : Bool × Nat × Nat) (I : Nat → Nat → Int32) (L : Nat → Nat → Int64) : ev_do (d + 1) M_Mo_grudge [.ref 139, .ref k1, .int x2] (ev_mk h I L) =
  (if ev_in (16 + x2) 27 then
    ev_cI (ev_do d M_Mo_grudgeAt [.ref 139, .ref k1, .int x2, .int (I k1 ((16 + x2).toNatClampNeg))] (ev_mk h I L)) (fun v2 s1 =>
      ev_ri v2 (ev_mk s1.1.2 s1.2.1 s1.2.2.1))
  else none) := by
  rcases hk1 with rfl | rfl <;> exact (ev_eq true (ev_call true d) M_Mo_grudge 0 _ _ (ev_mk h I L)).trans rfl
set_option maxRecDepth 100000 in
theorem e_Mo_grudgeAt_0 (d : Nat) (x2 x3 : Int32) {k1 : Nat} (hk1 : k1 = 143 ∨ k1 = 144) (h : Bool × Nat × Nat) (I : Nat → Nat → Int32) (L : Nat → Nat → Int64) : ev_do (d + 1) M_Mo_grudgeAt [.ref 139, .ref k1, .int x2, .int x3] (ev_mk h I L) =
  (if ev_in (8 + x2) 27 then
    ev_cI (ev_do d M_Mo_signsOf [.ref 139, .ref k1, .int x2, .int 1] (ev_mk h (ev_up (ev_up I 152 0 (I k1 ((8 + x2).toNatClampNeg))) 152 1 x3) L)) (fun v2 s1 =>
      ev_cI (ev_do d M_Mo_signsOf [.ref 139, .ref k1, .int x2, .int 0] (ev_mk s1.1.2 (ev_up s1.2.1 152 2 v2) s1.2.2.1)) (fun v4 s3 =>
        ev_cI (ev_do d M_Int_bitCount [.int (s3.2.1 k1 24)] (ev_mk s3.1.2 (ev_up s3.2.1 152 3 v4) s3.2.2.1)) (fun v6 s5 =>
          ev_cI (ev_do d M_Mo_ruled [.ref 139] (ev_mk s5.1.2 (ev_up (ev_up (ev_up s5.2.1 152 4 v6) 152 5 ((s5.2.1 k1 25) - (s5.2.1 k1 25) / 7 * 7)) 152 6 x2) s5.2.2.1)) (fun v8 s7 =>
            ev_ri v8 (ev_mk s7.1.2 s7.2.1 s7.2.2.1)))))
  else none) := by
  rcases hk1 with rfl | rfl <;> exact (ev_eq true (ev_call true d) M_Mo_grudgeAt 0 _ _ (ev_mk h I L)).trans rfl
set_option maxRecDepth 100000 in
theorem e_Mo_has_0 (d : Nat) (x0 x1 : Int32) (h : Bool × Nat × Nat) (I : Nat → Nat → Int32) (L : Nat → Nat → Int64) : ev_do (d + 1) M_Mo_has [.int x0, .int x1] (ev_mk h I L) =
  (if ((x0 >>> (x1 &&& 31)) &&& 1) = 1 then
    ev_ri 1 (ev_mk h I L)
  else
    ev_ri 0 (ev_mk h I L)) := 
  (ev_eq true (ev_call true d) M_Mo_has 0 [.int x0, .int x1] [] (ev_mk h I L)).trans rfl
set_option maxRecDepth 100000 in
theorem e_Mo_in_0 (d : Nat) (x0 x1 x2 : Int64) (h : Bool × Nat × Nat) (I : Nat → Nat → Int32) (L : Nat → Nat → Int64) : ev_do (d + 1) M_Mo_in [.long x0, .long x1, .long x2] (ev_mk h I L) =
  (if (lg_cmp x0 x1) < 0 then
    ev_ri 0 (ev_mk h I L)
  else
    (if 0 < (lg_cmp x0 x2) then
      ev_ri 0 (ev_mk h I L)
    else
      ev_ri 1 (ev_mk h I L))) := 
  (ev_eq true (ev_call true d) M_Mo_in 0 [.long x0, .float 0, .long x1, .float 0, .long x2, .float 0] [] (ev_mk h I L)).trans rfl
set_option maxRecDepth 100000 in
theorem e_Mo_isAsNoticed_0 (d : Nat) (x1 : Int32) (h : Bool × Nat × Nat) (I : Nat → Nat → Int32) (L : Nat → Nat → Int64) : ev_do (d + 1) M_Mo_isAsNoticed [.ref 139, .int x1] (ev_mk h I L) =
  ev_cI (ev_do d M_Mo_unsaid [.ref 139, .ref 143] (ev_mk h I L)) (fun v2 s1 =>
    (if (x1 &&& (v2 ^^^ (-1))) = 0 then
      ev_at d M_Mo_isAsNoticed 23 [.ref 139, .int x1, .int 1, .int 0] [] (ev_mk s1.1.2 s1.2.1 s1.2.2.1)
    else
      ev_at d M_Mo_isAsNoticed 23 [.ref 139, .int x1, .int 0, .int 0] [] (ev_mk s1.1.2 s1.2.1 s1.2.2.1))) := 
  (ev_eq true (ev_call true d) M_Mo_isAsNoticed 0 [.ref 139, .int x1, .float 0, .float 0] [] (ev_mk h I L)).trans rfl
set_option maxRecDepth 100000 in
theorem e_Mo_isAsNoticed_23 (d : Nat) (x1 x2 x3 : Int32) (h : Bool × Nat × Nat) (I : Nat → Nat → Int32) (L : Nat → Nat → Int64) : ev_at d M_Mo_isAsNoticed 23 [.ref 139, .int x1, .int x2, .int x3] [] (ev_mk h I L) =
  (if x3 < (I 139 35) then
    (if x2 = 0 then
      ev_at d M_Mo_isAsNoticed 23 [.ref 139, .int x1, .int 0, .int (x3 + 1)] [] (ev_mk h I L)
    else
      (if ev_in x3 12 then
        (if ev_in x3 12 then
          ev_cI (ev_do d M_Mo_isOneBy [.ref 139, .ref 143, .int (I 162 x3.toNatClampNeg), .int (I 163 x3.toNatClampNeg), .int x1] (ev_mk h I L)) (fun v2 s1 =>
            ev_cI (ev_do d M_Mo_flag [.int v2] (ev_mk s1.1.2 s1.2.1 s1.2.2.1)) (fun v4 s3 =>
              (if ev_in x3 12 then
                (if v4 = (s3.2.1 164 x3.toNatClampNeg) then
                  ev_at d M_Mo_isAsNoticed 23 [.ref 139, .int x1, .int 1, .int (x3 + 1)] [] (ev_mk s3.1.2 s3.2.1 s3.2.2.1)
                else
                  ev_at d M_Mo_isAsNoticed 23 [.ref 139, .int x1, .int 0, .int (x3 + 1)] [] (ev_mk s3.1.2 s3.2.1 s3.2.2.1))
              else none)))
        else none)
      else none))
  else
    (if ev_fit .boolean x2 then ev_ri x2 (ev_mk h I L) else none)) := 
  (ev_eq true (ev_call true d) M_Mo_isAsNoticed 23 [.ref 139, .int x1, .int x2, .int x3] [] (ev_mk h I L)).trans rfl
set_option maxRecDepth 100000 in
theorem e_Mo_isDigit_0 (d : Nat) (h : Bool × Nat × Nat) (I : Nat → Nat → Int32) (L : Nat → Nat → Int64) : ev_do (d + 1) M_Mo_isDigit [.ref 139] (ev_mk h I L) =
  (if (I 139 11) < (I 139 12) then
    (if ev_in (I 139 11) 80 then
      ev_cI (ev_do d M_Mo_in [.long ((I 145 ((I 139 11).toNatClampNeg)).toInt64), .long 48, .long 57] (ev_mk h I L)) (fun v2 s1 =>
        (if v2 = 0 then
          ev_ri 0 (ev_mk s1.1.2 s1.2.1 s1.2.2.1)
        else
          ev_ri 1 (ev_mk s1.1.2 s1.2.1 s1.2.2.1)))
    else none)
  else
    ev_ri 0 (ev_mk h I L)) := 
  (ev_eq true (ev_call true d) M_Mo_isDigit 0 [.ref 139] [] (ev_mk h I L)).trans rfl
set_option maxRecDepth 100000 in
theorem e_Mo_isFewer_0 (d : Nat) (x0 x1 : Int32) (h : Bool × Nat × Nat) (I : Nat → Nat → Int32) (L : Nat → Nat → Int64) : ev_do (d + 1) M_Mo_isFewer [.int x0, .int x1] (ev_mk h I L) =
  (if x1 < 0 then
    ev_ri 1 (ev_mk h I L)
  else
    ev_cI (ev_do d M_Int_bitCount [.int x0] (ev_mk h I L)) (fun v2 s1 =>
      ev_cI (ev_do d M_Int_bitCount [.int x1] (ev_mk s1.1.2 s1.2.1 s1.2.2.1)) (fun v4 s3 =>
        (if v2 < v4 then
          ev_ri 1 (ev_mk s3.1.2 s3.2.1 s3.2.2.1)
        else
          ev_ri 0 (ev_mk s3.1.2 s3.2.1 s3.2.2.1))))) := 
  (ev_eq true (ev_call true d) M_Mo_isFewer 0 [.int x0, .int x1] [] (ev_mk h I L)).trans rfl
set_option maxRecDepth 100000 in
theorem e_Mo_isLetter_0 (d : Nat) (x0 : Int32) (h : Bool × Nat × Nat) (I : Nat → Nat → Int32) (L : Nat → Nat → Int64) : ev_do (d + 1) M_Mo_isLetter [.int x0] (ev_mk h I L) =
  ev_cI (ev_do d M_Mo_in [.long x0.toInt64, .long 0, .long 7] (ev_mk h I L)) (fun v2 s1 =>
    (if ev_fit .boolean v2 then ev_ri v2 (ev_mk s1.1.2 s1.2.1 s1.2.2.1) else none)) := 
  (ev_eq true (ev_call true d) M_Mo_isLetter 0 [.int x0] [] (ev_mk h I L)).trans rfl
set_option maxRecDepth 100000 in
theorem e_Mo_isOneBy_0 (d : Nat) (x2 x3 x4 : Int32) {k1 : Nat} (hk1 : k1 = 143 ∨ k1 = 144) (h : Bool × Nat × Nat) (I : Nat → Nat → Int32) (L : Nat → Nat → Int64) : ev_do (d + 1) M_Mo_isOneBy [.ref 139, .ref k1, .int x2, .int x3, .int x4] (ev_mk h I L) =
  (if ev_in x2 27 then
    ev_cI (ev_do d M_Mo_lays [.ref 139, .ref 153, .int x2, .int (I k1 x2.toNatClampNeg), .int x4] (ev_mk h I L)) (fun v2 s1 =>
      (if ev_in x3 27 then
        ev_cI (ev_do d M_Mo_lays [.ref 139, .ref 154, .int x3, .int (s1.2.1 k1 x3.toNatClampNeg), .int x4] (ev_mk s1.1.2 s1.2.1 s1.2.2.1)) (fun v4 s3 =>
          (if v2 = v4 then
            ev_at d M_Mo_isOneBy 45 [.ref 139, .float 0, .float 0, .float 0, .float 0, .int v2, .int 1, .int 0] [] (ev_mk s3.1.2 s3.2.1 s3.2.2.1)
          else
            ev_at d M_Mo_isOneBy 45 [.ref 139, .float 0, .float 0, .float 0, .float 0, .int v2, .int 0, .int 0] [] (ev_mk s3.1.2 s3.2.1 s3.2.2.1)))
      else none))
  else none) := by
  rcases hk1 with rfl | rfl <;> exact (ev_eq true (ev_call true d) M_Mo_isOneBy 0 _ _ (ev_mk h I L)).trans rfl
set_option maxRecDepth 100000 in
theorem e_Mo_isOneBy_45 (d : Nat) (x5 x6 x7 : Int32) (h : Bool × Nat × Nat) (I : Nat → Nat → Int32) (L : Nat → Nat → Int64) : ev_at d M_Mo_isOneBy 45 [.ref 139, .float 0, .float 0, .float 0, .float 0, .int x5, .int x6, .int x7] [] (ev_mk h I L) =
  (if x7 < x5 then
    (if x6 = 0 then
      (if ev_fit .boolean x6 then ev_ri x6 (ev_mk h I L) else none)
    else
      (if ev_in x7 8 then
        (if ev_in x7 8 then
          (if (I 153 x7.toNatClampNeg) = (I 154 x7.toNatClampNeg) then
            ev_at d M_Mo_isOneBy 45 [.ref 139, .float 0, .float 0, .float 0, .float 0, .int x5, .int 1, .int (x7 + 1)] [] (ev_mk h I L)
          else
            ev_at d M_Mo_isOneBy 45 [.ref 139, .float 0, .float 0, .float 0, .float 0, .int x5, .int 0, .int (x7 + 1)] [] (ev_mk h I L))
        else none)
      else none))
  else
    (if ev_fit .boolean x6 then ev_ri x6 (ev_mk h I L) else none)) := 
  (ev_eq true (ev_call true d) M_Mo_isOneBy 45 [.ref 139, .float 0, .float 0, .float 0, .float 0, .int x5, .int x6, .int x7] [] (ev_mk h I L)).trans rfl
set_option maxRecDepth 100000 in
theorem e_Mo_isRest_0 (d : Nat) (x0 x1 x2 : Int32) (h : Bool × Nat × Nat) (I : Nat → Nat → Int32) (L : Nat → Nat → Int64) : ev_do (d + 1) M_Mo_isRest [.int x0, .int x1, .int x2] (ev_mk h I L) =
  ev_at d M_Mo_isRest 5 [.int x0, .int x1, .int x2, .int 1, .int 0] [] (ev_mk h I L) := 
  (ev_eq true (ev_call true d) M_Mo_isRest 0 [.int x0, .int x1, .int x2, .float 0, .float 0] [] (ev_mk h I L)).trans rfl
set_option maxRecDepth 100000 in
theorem e_Mo_isRest_5 (d : Nat) (x0 x1 x2 x3 x4 : Int32) (h : Bool × Nat × Nat) (I : Nat → Nat → Int32) (L : Nat → Nat → Int64) : ev_at d M_Mo_isRest 5 [.int x0, .int x1, .int x2, .int x3, .int x4] [] (ev_mk h I L) =
  (if 9 < x4 then
    (if ev_fit .boolean x3 then ev_ri x3 (ev_mk h I L) else none)
  else
    (if x3 = 0 then
      ev_at d M_Mo_isRest 5 [.int x0, .int x1, .int x2, .int 0, .int (x4 + 1)] [] (ev_mk h I L)
    else
      ev_cI (ev_do d M_Mo_gets [.int x4, .int x1, .int x2] (ev_mk h I L)) (fun v2 s1 =>
        ev_cI (ev_do d M_Mo_gets [.int x0, .int x1, .int x2] (ev_mk s1.1.2 s1.2.1 s1.2.2.1)) (fun v4 s3 =>
          (if v4 < v2 then
            ev_at d M_Mo_isRest 5 [.int x0, .int x1, .int x2, .int 0, .int (x4 + 1)] [] (ev_mk s3.1.2 s3.2.1 s3.2.2.1)
          else
            ev_at d M_Mo_isRest 5 [.int x0, .int x1, .int x2, .int 1, .int (x4 + 1)] [] (ev_mk s3.1.2 s3.2.1 s3.2.2.1)))))) := 
  (ev_eq true (ev_call true d) M_Mo_isRest 5 [.int x0, .int x1, .int x2, .int x3, .int x4] [] (ev_mk h I L)).trans rfl
set_option maxRecDepth 100000 in
theorem e_Mo_isWord_0 (d : Nat) (x1 : Int32) (h : Bool × Nat × Nat) (I : Nat → Nat → Int32) (L : Nat → Nat → Int64) : ev_do (d + 1) M_Mo_isWord [.ref 139, .int x1] (ev_mk h I L) =
  ev_cI (ev_do d M_Mo_in [.long x1.toInt64, .long 0, .long (((I 139 3) - 1).toInt64)] (ev_mk h I L)) (fun v2 s1 =>
    (if ev_fit .boolean v2 then ev_ri v2 (ev_mk s1.1.2 s1.2.1 s1.2.2.1) else none)) := 
  (ev_eq true (ev_call true d) M_Mo_isWord 0 [.ref 139, .int x1] [] (ev_mk h I L)).trans rfl
set_option maxRecDepth 100000 in
theorem e_Mo_joins_0 (d : Nat) (x1 x2 : Int32) (h : Bool × Nat × Nat) (I : Nat → Nat → Int32) (L : Nat → Nat → Int64) : ev_do (d + 1) M_Mo_joins [.ref 139, .int x1, .int x2] (ev_mk h I L) =
  ev_cI (ev_do d M_Mo_arePair [.ref 139, .int x1, .int x2] (ev_mk h (ev_up I 139 0 0) L)) (fun v2 s1 =>
    (if v2 = 0 then
      ev_ri (-1) (ev_mk s1.1.2 s1.2.1 s1.2.2.1)
    else
      ev_at d M_Mo_joins 21 [.ref 139, .int x1, .int x2, .int (-1), .int 0] [] (ev_mk s1.1.2 s1.2.1 s1.2.2.1))) := 
  (ev_eq true (ev_call true d) M_Mo_joins 0 [.ref 139, .int x1, .int x2, .float 0, .float 0] [] (ev_mk h I L)).trans rfl
set_option maxRecDepth 100000 in
theorem e_Mo_joins_21 (d : Nat) (x1 x2 x3 x4 : Int32) (h : Bool × Nat × Nat) (I : Nat → Nat → Int32) (L : Nat → Nat → Int64) : ev_at d M_Mo_joins 21 [.ref 139, .int x1, .int x2, .int x3, .int x4] [] (ev_mk h I L) =
  (if x4 < 256 then
    ev_cI (ev_do d M_Mo_isFewer [.int x4, .int x3] (ev_mk h I L)) (fun v2 s1 =>
      (if v2 = 0 then
        ev_at d M_Mo_joins 21 [.ref 139, .int x1, .int x2, .int x3, .int (x4 + 1)] [] (ev_mk s1.1.2 s1.2.1 s1.2.2.1)
      else
        ev_cI (ev_do d M_Mo_isOneBy [.ref 139, .ref 143, .int x1, .int x2, .int x4] (ev_mk s1.1.2 s1.2.1 s1.2.2.1)) (fun v4 s3 =>
          (if v4 = 0 then
            ev_at d M_Mo_joins 21 [.ref 139, .int x1, .int x2, .int x3, .int (x4 + 1)] [] (ev_mk s3.1.2 s3.2.1 s3.2.2.1)
          else
            ev_at d M_Mo_joins 21 [.ref 139, .int x1, .int x2, .int x4, .int (x4 + 1)] [] (ev_mk s3.1.2 s3.2.1 s3.2.2.1)))))
  else
    ev_cI (ev_do d M_Mo_tellsSet [.ref 139, .int x3] (ev_mk h I L)) (fun v6 s5 =>
      ev_ri v6 (ev_mk s5.1.2 s5.2.1 s5.2.2.1))) := 
  (ev_eq true (ev_call true d) M_Mo_joins 21 [.ref 139, .int x1, .int x2, .int x3, .int x4] [] (ev_mk h I L)).trans rfl
set_option maxRecDepth 100000 in
theorem e_Mo_keep_0 (d : Nat) (x1 : Int32) (h : Bool × Nat × Nat) (I : Nat → Nat → Int32) (L : Nat → Nat → Int64) : ev_do (d + 1) M_Mo_keep [.ref 139, .int x1] (ev_mk h I L) =
  ev_cI (ev_do d M_Mo_in [.long x1.toInt64, .long 0, .long 2] (ev_mk h (ev_up I 139 0 0) L)) (fun v2 s1 =>
    (if v2 = 0 then
      ev_ri 0 (ev_mk s1.1.2 s1.2.1 s1.2.2.1)
    else
      (if ev_in x1 3 then
        (if ev_in x1 3 then
          ev_at d M_Mo_keep 38 [.ref 139, .int x1, .int 0] [] (ev_mk s1.1.2 (ev_up (ev_up s1.2.1 171 x1.toNatClampNeg 1) 172 x1.toNatClampNeg (s1.2.1 139 4)) s1.2.2.1)
        else none)
      else none))) := 
  (ev_eq true (ev_call true d) M_Mo_keep 0 [.ref 139, .int x1, .float 0] [] (ev_mk h I L)).trans rfl
set_option maxRecDepth 100000 in
theorem e_Mo_keep_38 (d : Nat) (x1 x2 : Int32) (h : Bool × Nat × Nat) (I : Nat → Nat → Int32) (L : Nat → Nat → Int64) : ev_at d M_Mo_keep 38 [.ref 139, .int x1, .int x2] [] (ev_mk h I L) =
  (if x2 < 27 then
    (if ev_in x2 27 then
      (if ev_in ((27 * x1) + x2) 81 then
        ev_at d M_Mo_keep 38 [.ref 139, .int x1, .int (x2 + 1)] [] (ev_mk h (ev_up I 173 (((27 * x1) + x2).toNatClampNeg) (I 143 x2.toNatClampNeg)) L)
      else none)
    else none)
  else
    ev_ri 1 (ev_mk h I L)) := 
  (ev_eq true (ev_call true d) M_Mo_keep 38 [.ref 139, .int x1, .int x2] [] (ev_mk h I L)).trans rfl
set_option maxRecDepth 100000 in
theorem e_Mo_kinds_0 (d : Nat) (x1 : Int32) (h : Bool × Nat × Nat) (I : Nat → Nat → Int32) (L : Nat → Nat → Int64) : ev_do (d + 1) M_Mo_kinds [.ref 139, .int x1] (ev_mk h I L) =
  ev_cI (ev_do d M_Mo_in [.long x1.toInt64, .long 0, .long 255] (ev_mk h (ev_up I 139 0 0) L)) (fun v2 s1 =>
    (if v2 = 0 then
      ev_ri (-1) (ev_mk s1.1.2 s1.2.1 s1.2.2.1)
    else
      ev_at d M_Mo_kinds 28 [.ref 139, .int x1, .int 0, .int 0, .float 0] [] (ev_mk s1.1.2 (ev_up s1.2.1 139 1 0) s1.2.2.1))) := 
  (ev_eq true (ev_call true d) M_Mo_kinds 0 [.ref 139, .int x1, .float 0, .float 0, .float 0] [] (ev_mk h I L)).trans rfl
set_option maxRecDepth 100000 in
theorem e_Mo_kinds_28 (d : Nat) (x1 x2 x3 : Int32) (h : Bool × Nat × Nat) (I : Nat → Nat → Int32) (L : Nat → Nat → Int64) : ev_at d M_Mo_kinds 28 [.ref 139, .int x1, .int x2, .int x3, .float 0] [] (ev_mk h I L) =
  (if x3 < (I 139 3) then
    ev_at d M_Mo_kinds 39 [.ref 139, .int x1, .int x2, .int x3, .int 0] [] (ev_mk h I L)
  else
    ev_ri x2 (ev_mk h I L)) := 
  (ev_eq true (ev_call true d) M_Mo_kinds 28 [.ref 139, .int x1, .int x2, .int x3, .float 0] [] (ev_mk h I L)).trans rfl
set_option maxRecDepth 100000 in
theorem e_Mo_kinds_39 (d : Nat) (x1 x2 x3 x4 : Int32) (h : Bool × Nat × Nat) (I : Nat → Nat → Int32) (L : Nat → Nat → Int64) : ev_at d M_Mo_kinds 39 [.ref 139, .int x1, .int x2, .int x3, .int x4] [] (ev_mk h I L) =
  ev_cI (ev_do d M_Mo_isOneBy [.ref 139, .ref 143, .int x4, .int x3, .int x1] (ev_mk h I L)) (fun v2 s1 =>
    (if v2 = 0 then
      ev_at d M_Mo_kinds 39 [.ref 139, .int x1, .int x2, .int x3, .int (x4 + 1)] [] (ev_mk s1.1.2 s1.2.1 s1.2.2.1)
    else
      (if x4 = x3 then
        ev_at d M_Mo_kinds 72 [.ref 139, .int x1, .float 0, .int x3, .int x4] [.int 1, .int x2] (ev_mk s1.1.2 s1.2.1 s1.2.2.1)
      else
        ev_at d M_Mo_kinds 72 [.ref 139, .int x1, .float 0, .int x3, .int x4] [.int 0, .int x2] (ev_mk s1.1.2 s1.2.1 s1.2.2.1)))) := 
  (ev_eq true (ev_call true d) M_Mo_kinds 39 [.ref 139, .int x1, .int x2, .int x3, .int x4] [] (ev_mk h I L)).trans rfl
set_option maxRecDepth 100000 in
theorem e_Mo_kinds_72 (d : Nat) (x1 x3 x4 y0 y1 : Int32) (h : Bool × Nat × Nat) (I : Nat → Nat → Int32) (L : Nat → Nat → Int64) : ev_at d M_Mo_kinds 72 [.ref 139, .int x1, .float 0, .int x3, .int x4] [.int y0, .int y1] (ev_mk h I L) =
  ev_cI (ev_do d M_Mo_flag [.int y0] (ev_mk h I L)) (fun v2 s1 =>
    ev_cV (ev_do d M_Mo_enters [.ref 139, .long x4.toInt64] (ev_mk s1.1.2 s1.2.1 s1.2.2.1)) (fun s3 =>
      ev_at d M_Mo_kinds 28 [.ref 139, .int x1, .int (y1 + v2), .int (x3 + 1), .float 0] [] (ev_mk s3.1.2 s3.2.1 s3.2.2.1))) := 
  (ev_eq true (ev_call true d) M_Mo_kinds 72 [.ref 139, .int x1, .float 0, .int x3, .int x4] [.int y0, .int y1] (ev_mk h I L)).trans rfl
set_option maxRecDepth 100000 in
theorem e_Mo_law_0 (d : Nat) (h : Bool × Nat × Nat) (I : Nat → Nat → Int32) (L : Nat → Nat → Int64) : ev_do (d + 1) M_Mo_law [.ref 139] (ev_mk h I L) =
  ev_cI (ev_do d M_Mo_readsRule [.ref 139] (ev_mk h (ev_up I 139 0 0) L)) (fun v2 s1 =>
    (if v2 < 0 then
      ev_ri ((v2 + 1) - 10000) (ev_mk s1.1.2 s1.2.1 s1.2.2.1)
    else
      ev_cI (ev_do d M_Mo_strikeNext [.ref 139, .ref 143] (ev_mk s1.1.2 s1.2.1 s1.2.2.1)) (fun v4 s3 =>
        ev_at d M_Mo_law 39 [.ref 139, .float 0, .int v4, .int (s3.2.1 139 20), .int 0, .float 0] [] (ev_mk s3.1.2 s3.2.1 s3.2.2.1)))) := 
  (ev_eq true (ev_call true d) M_Mo_law 0 [.ref 139, .float 0, .float 0, .float 0, .float 0, .float 0] [] (ev_mk h I L)).trans rfl
set_option maxRecDepth 100000 in
theorem e_Mo_law_39 (d : Nat) (x2 x3 x4 : Int32) (h : Bool × Nat × Nat) (I : Nat → Nat → Int32) (L : Nat → Nat → Int64) : ev_at d M_Mo_law 39 [.ref 139, .float 0, .int x2, .int x3, .int x4, .float 0] [] (ev_mk h I L) =
  (if x4 < (I 139 20) then
    (if ev_in x4 80 then
      (if ev_in x4 80 then
        ev_at d M_Mo_law 39 [.ref 139, .float 0, .int x2, .int x3, .int (x4 + 1), .float 0] [] (ev_mk h (ev_up I 170 x4.toNatClampNeg (I 149 x4.toNatClampNeg)) L)
      else none)
    else none)
  else
    ev_cV (ev_do d M_Mo_laysCode [.ref 139, .ref 150, .int (I 139 21)] (ev_mk h I L)) (fun s1 =>
      ev_cI (ev_do d M_Mo_strikeNext [.ref 139, .ref 143] (ev_mk s1.1.2 s1.2.1 s1.2.2.1)) (fun v3 s2 =>
        ev_cV (ev_do d M_Mo_enters [.ref 139, .long x2.toInt64] (ev_mk s2.1.2 (ev_up s2.2.1 139 1 0) s2.2.2.1)) (fun s4 =>
          ev_at d M_Mo_law 104 [.ref 139, .float 0, .float 0, .int x3, .int v3, .int 0] [] (ev_mk s4.1.2 s4.2.1 s4.2.2.1))))) := 
  (ev_eq true (ev_call true d) M_Mo_law 39 [.ref 139, .float 0, .int x2, .int x3, .int x4, .float 0] [] (ev_mk h I L)).trans rfl
set_option maxRecDepth 100000 in
theorem e_Mo_law_104 (d : Nat) (x3 x4 x5 : Int32) (h : Bool × Nat × Nat) (I : Nat → Nat → Int32) (L : Nat → Nat → Int64) : ev_at d M_Mo_law 104 [.ref 139, .float 0, .float 0, .int x3, .int x4, .int x5] [] (ev_mk h I L) =
  (if x5 < 8 then
    ev_cI (ev_do d M_Mo_grudge [.ref 139, .ref 143, .int x5] (ev_mk h I L)) (fun v2 s1 =>
      ev_cV (ev_do d M_Mo_enters [.ref 139, .long v2.toInt64] (ev_mk s1.1.2 s1.2.1 s1.2.2.1)) (fun s3 =>
        ev_at d M_Mo_law 104 [.ref 139, .float 0, .float 0, .int x3, .int x4, .int (x5 + 1)] [] (ev_mk s3.1.2 s3.2.1 s3.2.2.1)))
  else
    ev_cV (ev_do d M_Mo_laysCode [.ref 139, .ref 170, .int x3] (ev_mk h I L)) (fun s4 =>
      ev_ri x4 (ev_mk s4.1.2 s4.2.1 s4.2.2.1))) := 
  (ev_eq true (ev_call true d) M_Mo_law 104 [.ref 139, .float 0, .float 0, .int x3, .int x4, .int x5] [] (ev_mk h I L)).trans rfl
set_option maxRecDepth 100000 in
theorem e_Mo_lays_0 (d : Nat) (x2 x3 x4 : Int32) {k1 : Nat} (hk1 : k1 = 153 ∨ k1 = 154) (h : Bool × Nat × Nat) (I : Nat → Nat → Int32) (L : Nat → Nat → Int64) : ev_do (d + 1) M_Mo_lays [.ref 139, .ref k1, .int x2, .int x3, .int x4] (ev_mk h I L) =
  ev_at d M_Mo_lays 6 [.ref 139, .ref k1, .int x2, .int x3, .int x4, .int 0, .int 0, .float 0] [] (ev_mk h I L) := by
  rcases hk1 with rfl | rfl <;> exact (ev_eq true (ev_call true d) M_Mo_lays 0 _ _ (ev_mk h I L)).trans rfl
set_option maxRecDepth 100000 in
theorem e_Mo_lays_6 (d : Nat) (x2 x3 x4 x5 x6 : Int32) {k1 : Nat} (hk1 : k1 = 153 ∨ k1 = 154) (h : Bool × Nat × Nat) (I : Nat → Nat → Int32) (L : Nat → Nat → Int64) : ev_at d M_Mo_lays 6 [.ref 139, .ref k1, .int x2, .int x3, .int x4, .int x5, .int x6, .float 0] [] (ev_mk h I L) =
  (if ev_in x2 8 then
    (if x6 < (I 142 x2.toNatClampNeg) then
      (if ev_in ((8 * x2) + x6) 64 then
        ev_cI (ev_do d M_Mo_has [.int x3, .int x6] (ev_mk h I L)) (fun v2 s1 =>
          (if v2 = 0 then
            ev_at d M_Mo_lays 50 [.ref 139, .ref k1, .int x2, .int x3, .int x4, .int x5, .int x6, .int (I 141 (((8 * x2) + x6).toNatClampNeg))] [] (ev_mk s1.1.2 s1.2.1 s1.2.2.1)
          else
            ev_cI (ev_do d M_Mo_has [.int x4, .int (I 141 (((8 * x2) + x6).toNatClampNeg))] (ev_mk s1.1.2 s1.2.1 s1.2.2.1)) (fun v4 s3 =>
              (if v4 = 0 then
                ev_at d M_Mo_lays 50 [.ref 139, .ref k1, .int x2, .int x3, .int x4, .int x5, .int x6, .int (I 141 (((8 * x2) + x6).toNatClampNeg))] [] (ev_mk s3.1.2 s3.2.1 s3.2.2.1)
              else
                ev_at d M_Mo_lays 6 [.ref 139, .ref k1, .int x2, .int x3, .int x4, .int x5, .int (x6 + 1), .float 0] [] (ev_mk s3.1.2 s3.2.1 s3.2.2.1)))))
      else none)
    else
      ev_ri x5 (ev_mk h I L))
  else none) := by
  rcases hk1 with rfl | rfl <;> exact (ev_eq true (ev_call true d) M_Mo_lays 6 _ _ (ev_mk h I L)).trans rfl
set_option maxRecDepth 100000 in
theorem e_Mo_lays_50 (d : Nat) (x2 x3 x4 x5 x6 x7 : Int32) {k1 : Nat} (hk1 : k1 = 153 ∨ k1 = 154) (h : Bool × Nat × Nat) (I : Nat → Nat → Int32) (L : Nat → Nat → Int64) : ev_at d M_Mo_lays 50 [.ref 139, .ref k1, .int x2, .int x3, .int x4, .int x5, .int x6, .int x7] [] (ev_mk h I L) =
  (if ev_in x5 8 then
    ev_at d M_Mo_lays 6 [.ref 139, .ref k1, .int x2, .int x3, .int x4, .int (x5 + 1), .int (x6 + 1), .float 0] [] (ev_mk h (ev_up I k1 x5.toNatClampNeg x7) L)
  else none) := by
  rcases hk1 with rfl | rfl <;> exact (ev_eq true (ev_call true d) M_Mo_lays 50 _ _ (ev_mk h I L)).trans rfl
set_option maxRecDepth 100000 in
theorem e_Mo_laysCode_0 (d : Nat) (x2 : Int32) {k1 : Nat} (hk1 : k1 = 150 ∨ k1 = 170) (h : Bool × Nat × Nat) (I : Nat → Nat → Int32) (L : Nat → Nat → Int64) : ev_do (d + 1) M_Mo_laysCode [.ref 139, .ref k1, .int x2] (ev_mk h I L) =
  ev_at d M_Mo_laysCode 7 [.ref 139, .ref k1, .int x2, .int 0] [] (ev_mk h (ev_up I 139 20 x2) L) := by
  rcases hk1 with rfl | rfl <;> exact (ev_eq true (ev_call true d) M_Mo_laysCode 0 _ _ (ev_mk h I L)).trans rfl
set_option maxRecDepth 100000 in
theorem e_Mo_laysCode_7 (d : Nat) (x2 x3 : Int32) {k1 : Nat} (hk1 : k1 = 150 ∨ k1 = 170) (h : Bool × Nat × Nat) (I : Nat → Nat → Int32) (L : Nat → Nat → Int64) : ev_at d M_Mo_laysCode 7 [.ref 139, .ref k1, .int x2, .int x3] [] (ev_mk h I L) =
  (if x3 < x2 then
    (if ev_in x3 80 then
      (if ev_in x3 80 then
        ev_at d M_Mo_laysCode 7 [.ref 139, .ref k1, .int x2, .int (x3 + 1)] [] (ev_mk h (ev_up I 149 x3.toNatClampNeg (I k1 x3.toNatClampNeg)) L)
      else none)
    else none)
  else
    ev_rn (ev_mk h I L)) := by
  rcases hk1 with rfl | rfl <;> exact (ev_eq true (ev_call true d) M_Mo_laysCode 7 _ _ (ev_mk h I L)).trans rfl
set_option maxRecDepth 100000 in
theorem e_Mo_letter_0 (d : Nat) (x1 x2 : Int32) (h : Bool × Nat × Nat) (I : Nat → Nat → Int32) (L : Nat → Nat → Int64) : ev_do (d + 1) M_Mo_letter [.ref 139, .int x1, .int x2] (ev_mk h I L) =
  ev_cI (ev_do d M_Mo_isLetter [.int x1] (ev_mk h (ev_up I 139 0 0) L)) (fun v2 s1 =>
    (if v2 = 0 then
      ev_cI (ev_do d M_Mo_refuse [.ref 139] (ev_mk s1.1.2 s1.2.1 s1.2.2.1)) (fun v4 s3 =>
        ev_ri v4 (ev_mk s3.1.2 s3.2.1 s3.2.2.1))
    else
      ev_cI (ev_do d M_Mo_in [.long x2.toInt64, .long 0, .long 5] (ev_mk s1.1.2 s1.2.1 s1.2.2.1)) (fun v6 s5 =>
        (if v6 = 0 then
          ev_cI (ev_do d M_Mo_refuse [.ref 139] (ev_mk s5.1.2 s5.2.1 s5.2.2.1)) (fun v8 s7 =>
            ev_ri v8 (ev_mk s7.1.2 s7.2.1 s7.2.2.1))
        else
          (if x2 = 0 then
            (if ev_in (8 + x1) 27 then
              ev_ri (s5.2.1 143 ((8 + x1).toNatClampNeg)) (ev_mk s5.1.2 s5.2.1 s5.2.2.1)
            else none)
          else (if x2 = 1 then
            (if ev_in (16 + x1) 27 then
              ev_ri (s5.2.1 143 ((16 + x1).toNatClampNeg)) (ev_mk s5.1.2 s5.2.1 s5.2.2.1)
            else none)
          else (if x2 = 2 then
            ev_cI (ev_do d M_Mo_signsOf [.ref 139, .ref 143, .int x1, .int 1] (ev_mk s5.1.2 s5.2.1 s5.2.2.1)) (fun v10 s9 =>
              ev_ri v10 (ev_mk s9.1.2 s9.2.1 s9.2.2.1))
          else (if x2 = 3 then
            ev_cI (ev_do d M_Mo_signsOf [.ref 139, .ref 143, .int x1, .int 0] (ev_mk s5.1.2 s5.2.1 s5.2.2.1)) (fun v12 s11 =>
              ev_ri v12 (ev_mk s11.1.2 s11.2.1 s11.2.2.1))
          else (if x2 = 4 then
            ev_cI (ev_do d M_Mo_has [.int (s5.2.1 143 24), .int x1] (ev_mk s5.1.2 s5.2.1 s5.2.2.1)) (fun v14 s13 =>
              ev_cI (ev_do d M_Mo_flag [.int v14] (ev_mk s13.1.2 s13.2.1 s13.2.2.1)) (fun v16 s15 =>
                ev_ri v16 (ev_mk s15.1.2 s15.2.1 s15.2.2.1)))
          else ev_cI (ev_do d M_Mo_grudge [.ref 139, .ref 143, .int x1] (ev_mk s5.1.2 s5.2.1 s5.2.2.1)) (fun v18 s17 =>
              ev_ri v18 (ev_mk s17.1.2 s17.2.1 s17.2.2.1))))))))))) := 
  (ev_eq true (ev_call true d) M_Mo_letter 0 [.ref 139, .int x1, .int x2] [] (ev_mk h I L)).trans rfl
set_option maxRecDepth 100000 in
theorem e_Mo_looks_0 (d : Nat) (x1 x2 : Int32) (h : Bool × Nat × Nat) (I : Nat → Nat → Int32) (L : Nat → Nat → Int64) : ev_do (d + 1) M_Mo_looks [.ref 139, .int x1, .int x2] (ev_mk h I L) =
  ev_cI (ev_do d M_Mo_isWord [.ref 139, .int x1] (ev_mk h (ev_up I 139 0 0) L)) (fun v2 s1 =>
    (if v2 = 0 then
      ev_ri (-1) (ev_mk s1.1.2 s1.2.1 s1.2.2.1)
    else
      ev_cI (ev_do d M_Mo_in [.long x2.toInt64, .long 0, .long 255] (ev_mk s1.1.2 s1.2.1 s1.2.2.1)) (fun v4 s3 =>
        (if v4 = 0 then
          ev_ri (-1) (ev_mk s3.1.2 s3.2.1 s3.2.2.1)
        else
          (if ev_in x1 27 then
            ev_cI (ev_do d M_Mo_lays [.ref 139, .ref 153, .int x1, .int (s3.2.1 143 x1.toNatClampNeg), .int x2] (ev_mk s3.1.2 s3.2.1 s3.2.2.1)) (fun v6 s5 =>
              ev_at d M_Mo_looks 52 [.ref 139, .float 0, .float 0, .int v6, .int 0] [] (ev_mk s5.1.2 (ev_up s5.2.1 139 1 0) s5.2.2.1))
          else none))))) := 
  (ev_eq true (ev_call true d) M_Mo_looks 0 [.ref 139, .int x1, .int x2, .float 0, .float 0] [] (ev_mk h I L)).trans rfl
set_option maxRecDepth 100000 in
theorem e_Mo_looks_52 (d : Nat) (x3 x4 : Int32) (h : Bool × Nat × Nat) (I : Nat → Nat → Int32) (L : Nat → Nat → Int64) : ev_at d M_Mo_looks 52 [.ref 139, .float 0, .float 0, .int x3, .int x4] [] (ev_mk h I L) =
  (if x4 < x3 then
    (if ev_in x4 8 then
      ev_cV (ev_do d M_Mo_enters [.ref 139, .long ((I 153 x4.toNatClampNeg).toInt64)] (ev_mk h I L)) (fun s1 =>
        ev_at d M_Mo_looks 52 [.ref 139, .float 0, .float 0, .int x3, .int (x4 + 1)] [] (ev_mk s1.1.2 s1.2.1 s1.2.2.1))
    else none)
  else
    ev_ri x3 (ev_mk h I L)) := 
  (ev_eq true (ev_call true d) M_Mo_looks 52 [.ref 139, .float 0, .float 0, .int x3, .int x4] [] (ev_mk h I L)).trans rfl
set_option maxRecDepth 100000 in
theorem e_Mo_misread_0 (d : Nat) (x1 x2 x3 : Int32) (h : Bool × Nat × Nat) (I : Nat → Nat → Int32) (L : Nat → Nat → Int64) : ev_do (d + 1) M_Mo_misread [.ref 139, .int x1, .int x2, .int x3] (ev_mk h I L) =
  ev_cI (ev_do d M_Mo_arePair [.ref 139, .int x1, .int x2] (ev_mk h (ev_up I 139 0 0) L)) (fun v2 s1 =>
    (if v2 = 0 then
      ev_ri (-1) (ev_mk s1.1.2 s1.2.1 s1.2.2.1)
    else
      ev_cI (ev_do d M_Mo_in [.long x3.toInt64, .long 0, .long 10] (ev_mk s1.1.2 s1.2.1 s1.2.2.1)) (fun v4 s3 =>
        (if v4 = 0 then
          ev_ri (-1) (ev_mk s3.1.2 s3.2.1 s3.2.2.1)
        else
          ev_at d M_Mo_misread 34 [.ref 139, .int x1, .int x2, .int x3, .long 0, .float 0, .int 0, .float 0, .float 0, .float 0] [] (ev_mk s3.1.2 s3.2.1 s3.2.2.1))))) := 
  (ev_eq true (ev_call true d) M_Mo_misread 0 [.ref 139, .int x1, .int x2, .int x3, .float 0, .float 0, .float 0, .float 0, .float 0, .float 0] [] (ev_mk h I L)).trans rfl
set_option maxRecDepth 100000 in
theorem e_Mo_misread_34 (d : Nat) (x1 x2 x3 x6 : Int32) (x4 : Int64) (h : Bool × Nat × Nat) (I : Nat → Nat → Int32) (L : Nat → Nat → Int64) : ev_at d M_Mo_misread 34 [.ref 139, .int x1, .int x2, .int x3, .long x4, .float 0, .int x6, .float 0, .float 0, .float 0] [] (ev_mk h I L) =
  (if x6 < 256 then
    ev_cI (ev_do d M_Mo_isOneBy [.ref 139, .ref 143, .int x1, .int x2, .int x6] (ev_mk h I L)) (fun v2 s1 =>
      ev_cI (ev_do d M_Mo_flag [.int v2] (ev_mk s1.1.2 s1.2.1 s1.2.2.1)) (fun v4 s3 =>
        ev_at d M_Mo_misread 63 [.ref 139, .int x1, .int x2, .int x3, .long x4, .float 0, .int x6, .long v4.toInt64, .float 0, .int 0] [] (ev_mk s3.1.2 s3.2.1 s3.2.2.1)))
  else
    ev_cV (ev_do d M_Mo_tellsFraction [.ref 139, .long x4, .long 100000000] (ev_mk h I L)) (fun s5 =>
      ev_ri 0 (ev_mk s5.1.2 s5.2.1 s5.2.2.1))) := 
  (ev_eq true (ev_call true d) M_Mo_misread 34 [.ref 139, .int x1, .int x2, .int x3, .long x4, .float 0, .int x6, .float 0, .float 0, .float 0] [] (ev_mk h I L)).trans rfl
set_option maxRecDepth 100000 in
theorem e_Mo_misread_63 (d : Nat) (x1 x2 x3 x6 x9 : Int32) (x4 x7 : Int64) (h : Bool × Nat × Nat) (I : Nat → Nat → Int32) (L : Nat → Nat → Int64) : ev_at d M_Mo_misread 63 [.ref 139, .int x1, .int x2, .int x3, .long x4, .float 0, .int x6, .long x7, .float 0, .int x9] [] (ev_mk h I L) =
  (if x9 < 8 then
    ev_cI (ev_do d M_Mo_has [.int x6, .int x9] (ev_mk h I L)) (fun v2 s1 =>
      (if v2 = 0 then
        ev_at d M_Mo_misread 63 [.ref 139, .int x1, .int x2, .int x3, .long x4, .float 0, .int x6, .long (x7 * ((10 - x3).toInt64)), .float 0, .int (x9 + 1)] [] (ev_mk s1.1.2 s1.2.1 s1.2.2.1)
      else
        ev_at d M_Mo_misread 63 [.ref 139, .int x1, .int x2, .int x3, .long x4, .float 0, .int x6, .long (x7 * x3.toInt64), .float 0, .int (x9 + 1)] [] (ev_mk s1.1.2 s1.2.1 s1.2.2.1)))
  else
    ev_at d M_Mo_misread 34 [.ref 139, .int x1, .int x2, .int x3, .long (x4 + x7), .float 0, .int (x6 + 1), .float 0, .float 0, .float 0] [] (ev_mk h I L)) := 
  (ev_eq true (ev_call true d) M_Mo_misread 63 [.ref 139, .int x1, .int x2, .int x3, .long x4, .float 0, .int x6, .long x7, .float 0, .int x9] [] (ev_mk h I L)).trans rfl
set_option maxRecDepth 100000 in
theorem e_Mo_most_0 (d : Nat) (h : Bool × Nat × Nat) (I : Nat → Nat → Int32) (L : Nat → Nat → Int64) : ev_do (d + 1) M_Mo_most [.ref 139] (ev_mk h I L) =
  ev_cI (ev_do d M_Mo_unsaid [.ref 139, .ref 143] (ev_mk h (ev_up I 139 0 0) L)) (fun v2 s1 =>
    ev_at d M_Mo_most 18 [.ref 139, .int v2, .int 0, .int 0] [] (ev_mk s1.1.2 s1.2.1 s1.2.2.1)) := 
  (ev_eq true (ev_call true d) M_Mo_most 0 [.ref 139, .float 0, .float 0, .float 0] [] (ev_mk h I L)).trans rfl
set_option maxRecDepth 100000 in
theorem e_Mo_most_18 (d : Nat) (x1 x2 x3 : Int32) (h : Bool × Nat × Nat) (I : Nat → Nat → Int32) (L : Nat → Nat → Int64) : ev_at d M_Mo_most 18 [.ref 139, .int x1, .int x2, .int x3] [] (ev_mk h I L) =
  (if x1 < x3 then
    ev_cI (ev_do d M_Mo_tellsSet [.ref 139, .int x2] (ev_mk h I L)) (fun v2 s1 =>
      ev_ri v2 (ev_mk s1.1.2 s1.2.1 s1.2.2.1))
  else
    (if (x3 &&& (x1 ^^^ (-1))) = 0 then
      ev_cI (ev_do d M_Int_bitCount [.int x3] (ev_mk h I L)) (fun v4 s3 =>
        ev_cI (ev_do d M_Int_bitCount [.int x2] (ev_mk s3.1.2 s3.2.1 s3.2.2.1)) (fun v6 s5 =>
          (if v6 < v4 then
            ev_cI (ev_do d M_Mo_areApart [.ref 139, .int ((1 <<< ((s5.2.1 139 3) &&& 31)) - 1), .int x3] (ev_mk s5.1.2 s5.2.1 s5.2.2.1)) (fun v8 s7 =>
              (if v8 = 0 then
                ev_at d M_Mo_most 18 [.ref 139, .int x1, .int x2, .int (x3 + 1)] [] (ev_mk s7.1.2 s7.2.1 s7.2.2.1)
              else
                ev_at d M_Mo_most 18 [.ref 139, .int x1, .int x3, .int (x3 + 1)] [] (ev_mk s7.1.2 s7.2.1 s7.2.2.1)))
          else
            ev_at d M_Mo_most 18 [.ref 139, .int x1, .int x2, .int (x3 + 1)] [] (ev_mk s5.1.2 s5.2.1 s5.2.2.1))))
    else
      ev_at d M_Mo_most 18 [.ref 139, .int x1, .int x2, .int (x3 + 1)] [] (ev_mk h I L))) := 
  (ev_eq true (ev_call true d) M_Mo_most 18 [.ref 139, .int x1, .int x2, .int x3] [] (ev_mk h I L)).trans rfl
set_option maxRecDepth 100000 in
theorem e_Mo_must_0 (d : Nat) (x1 : Int32) (h : Bool × Nat × Nat) (I : Nat → Nat → Int32) (L : Nat → Nat → Int64) : ev_do (d + 1) M_Mo_must [.ref 139, .int x1] (ev_mk h I L) =
  ev_cI (ev_do d M_Mo_in [.long x1.toInt64, .long 0, .long (((1 <<< ((I 139 3) &&& 31)) - 1).toInt64)] (ev_mk h (ev_up I 139 0 0) L)) (fun v2 s1 =>
    (if v2 = 0 then
      ev_ri (-1) (ev_mk s1.1.2 s1.2.1 s1.2.2.1)
    else
      ev_at d M_Mo_must 29 [.ref 139, .int x1, .int (-1), .int 0] [] (ev_mk s1.1.2 s1.2.1 s1.2.2.1))) := 
  (ev_eq true (ev_call true d) M_Mo_must 0 [.ref 139, .int x1, .float 0, .float 0] [] (ev_mk h I L)).trans rfl
set_option maxRecDepth 100000 in
theorem e_Mo_must_29 (d : Nat) (x1 x2 x3 : Int32) (h : Bool × Nat × Nat) (I : Nat → Nat → Int32) (L : Nat → Nat → Int64) : ev_at d M_Mo_must 29 [.ref 139, .int x1, .int x2, .int x3] [] (ev_mk h I L) =
  (if x3 < 256 then
    ev_cI (ev_do d M_Mo_isFewer [.int x3, .int x2] (ev_mk h I L)) (fun v2 s1 =>
      (if v2 = 0 then
        ev_at d M_Mo_must 29 [.ref 139, .int x1, .int x2, .int (x3 + 1)] [] (ev_mk s1.1.2 s1.2.1 s1.2.2.1)
      else
        ev_cI (ev_do d M_Mo_areApart [.ref 139, .int x1, .int (255 &&& (x3 ^^^ (-1)))] (ev_mk s1.1.2 s1.2.1 s1.2.2.1)) (fun v4 s3 =>
          (if v4 = 0 then
            ev_at d M_Mo_must 29 [.ref 139, .int x1, .int x2, .int (x3 + 1)] [] (ev_mk s3.1.2 s3.2.1 s3.2.2.1)
          else
            ev_at d M_Mo_must 29 [.ref 139, .int x1, .int x3, .int (x3 + 1)] [] (ev_mk s3.1.2 s3.2.1 s3.2.2.1)))))
  else
    ev_cI (ev_do d M_Mo_tellsSet [.ref 139, .int x2] (ev_mk h I L)) (fun v6 s5 =>
      ev_ri v6 (ev_mk s5.1.2 s5.2.1 s5.2.2.1))) := 
  (ev_eq true (ev_call true d) M_Mo_must 29 [.ref 139, .int x1, .int x2, .int x3] [] (ev_mk h I L)).trans rfl
set_option maxRecDepth 100000 in
theorem e_Mo_mutes_0 (d : Nat) (x1 x2 : Int32) (h : Bool × Nat × Nat) (I : Nat → Nat → Int32) (L : Nat → Nat → Int64) : ev_do (d + 1) M_Mo_mutes [.ref 139, .int x1, .int x2] (ev_mk h I L) =
  ev_cV (ev_do d M_Mo_putsBy [.ref 139] (ev_mk h (ev_up I 139 0 0) L)) (fun s1 =>
    ev_cI (ev_do d M_Mo_mutesOne [.ref 139, .ref 143, .int x1, .int x2] (ev_mk s1.1.2 s1.2.1 s1.2.2.1)) (fun v3 s2 =>
      ev_cI (ev_do d M_Mo_counted [.ref 139, .int v3] (ev_mk s2.1.2 s2.2.1 s2.2.2.1)) (fun v5 s4 =>
        ev_ri v5 (ev_mk s4.1.2 s4.2.1 s4.2.2.1)))) := 
  (ev_eq true (ev_call true d) M_Mo_mutes 0 [.ref 139, .int x1, .int x2] [] (ev_mk h I L)).trans rfl
set_option maxRecDepth 100000 in
theorem e_Mo_mutesOne_0 (d : Nat) (x2 x3 : Int32) {k1 : Nat} (hk1 : k1 = 143 ∨ k1 = 144) (h : Bool × Nat × Nat) (I : Nat → Nat → Int32) (L : Nat → Nat → Int64) : ev_do (d + 1) M_Mo_mutesOne [.ref 139, .ref k1, .int x2, .int x3] (ev_mk h I L) =
  ev_cI (ev_do d M_Mo_isWord [.ref 139, .int x2] (ev_mk h I L)) (fun v2 s1 =>
    (if v2 = 0 then
      ev_ri (-1) (ev_mk s1.1.2 s1.2.1 s1.2.2.1)
    else
      (if ev_in x2 8 then
        ev_cI (ev_do d M_Mo_in [.long x3.toInt64, .long 0, .long (((s1.2.1 142 x2.toNatClampNeg) - 1).toInt64)] (ev_mk s1.1.2 s1.2.1 s1.2.2.1)) (fun v4 s3 =>
          (if v4 = 0 then
            ev_ri (-1) (ev_mk s3.1.2 s3.2.1 s3.2.2.1)
          else
            (if ev_in x2 27 then
              ev_cI (ev_do d M_Int_bitCount [.int ((s3.2.1 k1 x2.toNatClampNeg) ^^^ (1 <<< (x3 &&& 31)))] (ev_mk s3.1.2 s3.2.1 s3.2.2.1)) (fun v6 s5 =>
                (if ev_in x2 8 then
                  (if v6 = (s5.2.1 142 x2.toNatClampNeg) then
                    ev_ri (-2) (ev_mk s5.1.2 s5.2.1 s5.2.2.1)
                  else
                    (if ev_in x2 27 then
                      (if ev_in x2 8 then
                        ev_cI (ev_do d M_Int_bitCount [.int ((s3.2.1 k1 x2.toNatClampNeg) ^^^ (1 <<< (x3 &&& 31)))] (ev_mk s5.1.2 (ev_up s5.2.1 k1 x2.toNatClampNeg ((s3.2.1 k1 x2.toNatClampNeg) ^^^ (1 <<< (x3 &&& 31)))) s5.2.2.1)) (fun v8 s7 =>
                          ev_ri (((ev_up s5.2.1 k1 x2.toNatClampNeg ((s3.2.1 k1 x2.toNatClampNeg) ^^^ (1 <<< (x3 &&& 31)))) 142 x2.toNatClampNeg) - v8) (ev_mk s7.1.2 s7.2.1 s7.2.2.1))
                      else none)
                    else none))
                else none))
            else none)))
      else none))) := by
  rcases hk1 with rfl | rfl <;> exact (ev_eq true (ev_call true d) M_Mo_mutesOne 0 _ _ (ev_mk h I L)).trans rfl
set_option maxRecDepth 100000 in
theorem e_Mo_next_0 (d : Nat) (h : Bool × Nat × Nat) (I : Nat → Nat → Int32) (L : Nat → Nat → Int64) : ev_do (d + 1) M_Mo_next [.ref 139] (ev_mk h I L) =
  ev_at d M_Mo_next 9 [.ref 139, .int 0, .int 0, .float 0, .float 0, .float 0, .float 0] [] (ev_mk h (ev_up I 139 0 0) L) := 
  (ev_eq true (ev_call true d) M_Mo_next 0 [.ref 139, .float 0, .float 0, .float 0, .float 0, .float 0, .float 0] [] (ev_mk h I L)).trans rfl
set_option maxRecDepth 100000 in
theorem e_Mo_next_9 (d : Nat) (x1 x2 : Int32) (h : Bool × Nat × Nat) (I : Nat → Nat → Int32) (L : Nat → Nat → Int64) : ev_at d M_Mo_next 9 [.ref 139, .int x1, .int x2, .float 0, .float 0, .float 0, .float 0] [] (ev_mk h I L) =
  (if x2 < 256 then
    ev_cI (ev_do d M_Mo_isAsNoticed [.ref 139, .int x2] (ev_mk h I L)) (fun v2 s1 =>
      (if ev_in x2 256 then
        (if ev_in x2 256 then
          ev_cI (ev_do d M_Mo_flag [.int ((ev_up s1.2.1 165 x2.toNatClampNeg (vp_nar .boolean v2)) 165 x2.toNatClampNeg)] (ev_mk s1.1.2 (ev_up s1.2.1 165 x2.toNatClampNeg (vp_nar .boolean v2)) s1.2.2.1)) (fun v4 s3 =>
            ev_at d M_Mo_next 9 [.ref 139, .int (x1 + v4), .int (x2 + 1), .float 0, .float 0, .float 0, .float 0] [] (ev_mk s3.1.2 s3.2.1 s3.2.2.1))
        else none)
      else none))
  else
    ev_at d M_Mo_next 51 [.ref 139, .int x1, .int 1000000, .int 0, .float 0, .float 0, .float 0] [] (ev_mk h I L)) := 
  (ev_eq true (ev_call true d) M_Mo_next 9 [.ref 139, .int x1, .int x2, .float 0, .float 0, .float 0, .float 0] [] (ev_mk h I L)).trans rfl
set_option maxRecDepth 100000 in
theorem e_Mo_next_51 (d : Nat) (x1 x2 x3 : Int32) (h : Bool × Nat × Nat) (I : Nat → Nat → Int32) (L : Nat → Nat → Int64) : ev_at d M_Mo_next 51 [.ref 139, .int x1, .int x2, .int x3, .float 0, .float 0, .float 0] [] (ev_mk h I L) =
  (if x3 < (I 139 3) then
    (if 0 < x1 then
      ev_at d M_Mo_next 68 [.ref 139, .int x1, .int x2, .int x3, .int (x3 + 1), .float 0, .float 0] [] (ev_mk h I L)
    else
      ev_at d M_Mo_next 186 [.float 0, .float 0, .int x2, .float 0, .float 0, .float 0, .float 0] [] (ev_mk h I L))
  else
    ev_at d M_Mo_next 186 [.float 0, .float 0, .int x2, .float 0, .float 0, .float 0, .float 0] [] (ev_mk h I L)) := 
  (ev_eq true (ev_call true d) M_Mo_next 51 [.ref 139, .int x1, .int x2, .int x3, .float 0, .float 0, .float 0] [] (ev_mk h I L)).trans rfl
set_option maxRecDepth 100000 in
theorem e_Mo_next_68 (d : Nat) (x1 x2 x3 x4 : Int32) (h : Bool × Nat × Nat) (I : Nat → Nat → Int32) (L : Nat → Nat → Int64) : ev_at d M_Mo_next 68 [.ref 139, .int x1, .int x2, .int x3, .int x4, .float 0, .float 0] [] (ev_mk h I L) =
  (if x4 < (I 139 3) then
    ev_at d M_Mo_next 83 [.ref 139, .int x1, .int x2, .int x3, .int x4, .int 0, .int 0] [] (ev_mk h I L)
  else
    ev_at d M_Mo_next 51 [.ref 139, .int x1, .int x2, .int (x3 + 1), .float 0, .float 0, .float 0] [] (ev_mk h I L)) := 
  (ev_eq true (ev_call true d) M_Mo_next 68 [.ref 139, .int x1, .int x2, .int x3, .int x4, .float 0, .float 0] [] (ev_mk h I L)).trans rfl
set_option maxRecDepth 100000 in
theorem e_Mo_next_83 (d : Nat) (x1 x2 x3 x4 x5 x6 : Int32) (h : Bool × Nat × Nat) (I : Nat → Nat → Int32) (L : Nat → Nat → Int64) : ev_at d M_Mo_next 83 [.ref 139, .int x1, .int x2, .int x3, .int x4, .int x5, .int x6] [] (ev_mk h I L) =
  (if x6 < 256 then
    (if ev_in x6 256 then
      (if (I 165 x6.toNatClampNeg) = 0 then
        ev_at d M_Mo_next 124 [.ref 139, .int x1, .int x2, .int x3, .int x4, .float 0, .int x6] [.int 0, .int x5] (ev_mk h I L)
      else
        ev_cI (ev_do d M_Mo_isOneBy [.ref 139, .ref 143, .int x3, .int x4, .int x6] (ev_mk h I L)) (fun v2 s1 =>
          (if v2 = 0 then
            ev_at d M_Mo_next 124 [.ref 139, .int x1, .int x2, .int x3, .int x4, .float 0, .int x6] [.int 0, .int x5] (ev_mk s1.1.2 s1.2.1 s1.2.2.1)
          else
            ev_at d M_Mo_next 124 [.ref 139, .int x1, .int x2, .int x3, .int x4, .float 0, .int x6] [.int 1, .int x5] (ev_mk s1.1.2 s1.2.1 s1.2.2.1))))
    else none)
  else
    (if (if x5 < (x1 - x5) then (x1 - x5) else x5) < x2 then
      ev_cV (ev_do d M_Mo_enters [.ref 139, .long x3.toInt64] (ev_mk h (ev_up I 139 1 0) L)) (fun s3 =>
        ev_cV (ev_do d M_Mo_enters [.ref 139, .long x4.toInt64] (ev_mk s3.1.2 s3.2.1 s3.2.2.1)) (fun s4 =>
          ev_at d M_Mo_next 68 [.ref 139, .int x1, .int (if x5 < (x1 - x5) then (x1 - x5) else x5), .int x3, .int (x4 + 1), .float 0, .float 0] [] (ev_mk s4.1.2 s4.2.1 s4.2.2.1)))
    else
      ev_at d M_Mo_next 68 [.ref 139, .int x1, .int x2, .int x3, .int (x4 + 1), .float 0, .float 0] [] (ev_mk h I L))) := 
  (ev_eq true (ev_call true d) M_Mo_next 83 [.ref 139, .int x1, .int x2, .int x3, .int x4, .int x5, .int x6] [] (ev_mk h I L)).trans rfl
set_option maxRecDepth 100000 in
theorem e_Mo_next_124 (d : Nat) (x1 x2 x3 x4 x6 y0 y1 : Int32) (h : Bool × Nat × Nat) (I : Nat → Nat → Int32) (L : Nat → Nat → Int64) : ev_at d M_Mo_next 124 [.ref 139, .int x1, .int x2, .int x3, .int x4, .float 0, .int x6] [.int y0, .int y1] (ev_mk h I L) =
  ev_cI (ev_do d M_Mo_flag [.int y0] (ev_mk h I L)) (fun v2 s1 =>
    ev_at d M_Mo_next 83 [.ref 139, .int x1, .int x2, .int x3, .int x4, .int (y1 + v2), .int (x6 + 1)] [] (ev_mk s1.1.2 s1.2.1 s1.2.2.1)) := 
  (ev_eq true (ev_call true d) M_Mo_next 124 [.ref 139, .int x1, .int x2, .int x3, .int x4, .float 0, .int x6] [.int y0, .int y1] (ev_mk h I L)).trans rfl
set_option maxRecDepth 100000 in
theorem e_Mo_next_186 (d : Nat) (x2 : Int32) (h : Bool × Nat × Nat) (I : Nat → Nat → Int32) (L : Nat → Nat → Int64) : ev_at d M_Mo_next 186 [.float 0, .float 0, .int x2, .float 0, .float 0, .float 0, .float 0] [] (ev_mk h I L) =
  (if x2 = 1000000 then
    ev_ri (-2) (ev_mk h I L)
  else
    ev_ri x2 (ev_mk h I L)) := 
  (ev_eq true (ev_call true d) M_Mo_next 186 [.float 0, .float 0, .int x2, .float 0, .float 0, .float 0, .float 0] [] (ev_mk h I L)).trans rfl
set_option maxRecDepth 100000 in
theorem e_Mo_noticed_0 (d : Nat) (x1 x2 x3 : Int32) (h : Bool × Nat × Nat) (I : Nat → Nat → Int32) (L : Nat → Nat → Int64) : ev_do (d + 1) M_Mo_noticed [.ref 139, .int x1, .int x2, .int x3] (ev_mk h I L) =
  ev_cI (ev_do d M_Mo_arePair [.ref 139, .int x1, .int x2] (ev_mk h (ev_up I 139 0 0) L)) (fun v2 s1 =>
    (if v2 = 0 then
      ev_ri (-1) (ev_mk s1.1.2 s1.2.1 s1.2.2.1)
    else
      ev_cI (ev_do d M_Mo_in [.long x3.toInt64, .long 0, .long 1] (ev_mk s1.1.2 s1.2.1 s1.2.2.1)) (fun v4 s3 =>
        (if v4 = 0 then
          ev_ri (-1) (ev_mk s3.1.2 s3.2.1 s3.2.2.1)
        else
          (if (s3.2.1 139 35) = 12 then
            ev_ri (-1) (ev_mk s3.1.2 s3.2.1 s3.2.2.1)
          else
            (if ev_in (s3.2.1 139 35) 12 then
              (if ev_in (s3.2.1 139 35) 12 then
                (if ev_in (s3.2.1 139 35) 12 then
                  ev_ri ((s3.2.1 139 35) + 1) (ev_mk s3.1.2 (ev_up (ev_up (ev_up (ev_up s3.2.1 162 ((s3.2.1 139 35).toNatClampNeg) x1) 163 ((s3.2.1 139 35).toNatClampNeg) x2) 164 ((s3.2.1 139 35).toNatClampNeg) x3) 139 35 ((s3.2.1 139 35) + 1)) s3.2.2.1)
                else none)
              else none)
            else none)))))) := 
  (ev_eq true (ev_call true d) M_Mo_noticed 0 [.ref 139, .int x1, .int x2, .int x3] [] (ev_mk h I L)).trans rfl
set_option maxRecDepth 100000 in
theorem e_Mo_number_0 (d : Nat) (x1 : Int32) (h : Bool × Nat × Nat) (I : Nat → Nat → Int32) (L : Nat → Nat → Int64) : ev_do (d + 1) M_Mo_number [.ref 139, .int x1] (ev_mk h I L) =
  ev_cI (ev_do d M_Mo_isDigit [.ref 139] (ev_mk h I L)) (fun v2 s1 =>
    (if v2 = 0 then
      ev_ri (-1) (ev_mk s1.1.2 s1.2.1 s1.2.2.1)
    else
      ev_at d M_Mo_number 13 [.ref 139, .int x1, .int 0, .int 0] [] (ev_mk s1.1.2 s1.2.1 s1.2.2.1))) := 
  (ev_eq true (ev_call true d) M_Mo_number 0 [.ref 139, .int x1, .float 0, .float 0] [] (ev_mk h I L)).trans rfl
set_option maxRecDepth 100000 in
theorem e_Mo_number_13 (d : Nat) (x1 x2 x3 : Int32) (h : Bool × Nat × Nat) (I : Nat → Nat → Int32) (L : Nat → Nat → Int64) : ev_at d M_Mo_number 13 [.ref 139, .int x1, .int x2, .int x3] [] (ev_mk h I L) =
  (if x3 < x1 then
    ev_cI (ev_do d M_Mo_isDigit [.ref 139] (ev_mk h I L)) (fun v2 s1 =>
      (if v2 = 0 then
        ev_ri x2 (ev_mk s1.1.2 s1.2.1 s1.2.2.1)
      else
        (if ev_in (s1.2.1 139 11) 80 then
          ev_at d M_Mo_number 13 [.ref 139, .int x1, .int (((10 * x2) + (s1.2.1 145 ((s1.2.1 139 11).toNatClampNeg))) - 48), .int (x3 + 1)] [] (ev_mk s1.1.2 (ev_up s1.2.1 139 11 ((s1.2.1 139 11) + 1)) s1.2.2.1)
        else none)))
  else
    ev_ri x2 (ev_mk h I L)) := 
  (ev_eq true (ev_call true d) M_Mo_number 13 [.ref 139, .int x1, .int x2, .int x3] [] (ev_mk h I L)).trans rfl
set_option maxRecDepth 100000 in
theorem e_Mo_offer_0 (d : Nat) (x1 x2 : Int32) (h : Bool × Nat × Nat) (I : Nat → Nat → Int32) (L : Nat → Nat → Int64) : ev_do (d + 1) M_Mo_offer [.ref 139, .int x1, .int x2] (ev_mk h I L) =
  ev_cV (ev_do d M_Mo_putsBy [.ref 139] (ev_mk h (ev_up I 139 0 0) L)) (fun s1 =>
    ev_cI (ev_do d M_Mo_offers [.ref 139, .ref 143, .int x1, .int x2] (ev_mk s1.1.2 s1.2.1 s1.2.2.1)) (fun v3 s2 =>
      ev_cI (ev_do d M_Mo_counted [.ref 139, .int v3] (ev_mk s2.1.2 s2.2.1 s2.2.2.1)) (fun v5 s4 =>
        ev_ri v5 (ev_mk s4.1.2 s4.2.1 s4.2.2.1)))) := 
  (ev_eq true (ev_call true d) M_Mo_offer 0 [.ref 139, .int x1, .int x2] [] (ev_mk h I L)).trans rfl
set_option maxRecDepth 100000 in
theorem e_Mo_offers_0 (d : Nat) (x2 x3 : Int32) {k1 : Nat} (hk1 : k1 = 143 ∨ k1 = 144) (h : Bool × Nat × Nat) (I : Nat → Nat → Int32) (L : Nat → Nat → Int64) : ev_do (d + 1) M_Mo_offers [.ref 139, .ref k1, .int x2, .int x3] (ev_mk h I L) =
  ev_cI (ev_do d M_Mo_isLetter [.int x2] (ev_mk h I L)) (fun v2 s1 =>
    (if v2 = 0 then
      ev_ri (-1) (ev_mk s1.1.2 s1.2.1 s1.2.2.1)
    else
      ev_cI (ev_do d M_Mo_in [.long x3.toInt64, .long 0, .long 9] (ev_mk s1.1.2 s1.2.1 s1.2.2.1)) (fun v4 s3 =>
        (if v4 = 0 then
          ev_ri (-1) (ev_mk s3.1.2 s3.2.1 s3.2.2.1)
        else
          (if ev_in (16 + x2) 27 then
            (if ev_in (16 + x2) 27 then
              ev_ri (s3.2.1 k1 ((16 + x2).toNatClampNeg)) (ev_mk s3.1.2 (ev_up s3.2.1 k1 ((16 + x2).toNatClampNeg) x3) s3.2.2.1)
            else none)
          else none))))) := by
  rcases hk1 with rfl | rfl <;> exact (ev_eq true (ev_call true d) M_Mo_offers 0 _ _ (ev_mk h I L)).trans rfl
set_option maxRecDepth 100000 in
theorem e_Mo_parts_0 (d : Nat) (x1 x2 : Int32) (h : Bool × Nat × Nat) (I : Nat → Nat → Int32) (L : Nat → Nat → Int64) : ev_do (d + 1) M_Mo_parts [.ref 139, .int x1, .int x2] (ev_mk h I L) =
  ev_cI (ev_do d M_Mo_arePair [.ref 139, .int x1, .int x2] (ev_mk h (ev_up I 139 0 0) L)) (fun v2 s1 =>
    (if v2 = 0 then
      ev_ri (-1) (ev_mk s1.1.2 s1.2.1 s1.2.2.1)
    else
      ev_cV (ev_do d M_Mo_copies [.ref 139] (ev_mk s1.1.2 s1.2.1 s1.2.2.1)) (fun s3 =>
        ev_at d M_Mo_parts 25 [.ref 139, .int x1, .int x2, .int (-1), .int 0, .float 0] [] (ev_mk s3.1.2 s3.2.1 s3.2.2.1)))) := 
  (ev_eq true (ev_call true d) M_Mo_parts 0 [.ref 139, .int x1, .int x2, .float 0, .float 0, .float 0] [] (ev_mk h I L)).trans rfl
set_option maxRecDepth 100000 in
theorem e_Mo_parts_25 (d : Nat) (x1 x2 x3 x4 : Int32) (h : Bool × Nat × Nat) (I : Nat → Nat → Int32) (L : Nat → Nat → Int64) : ev_at d M_Mo_parts 25 [.ref 139, .int x1, .int x2, .int x3, .int x4, .float 0] [] (ev_mk h I L) =
  (if ev_in x1 8 then
    (if x4 < (1 <<< ((I 142 x1.toNatClampNeg) &&& 31)) then
      (if ev_in x1 27 then
        (if ev_in x1 27 then
          (if ev_in x1 27 then
            ev_cI (ev_do d M_Int_bitCount [.int ((ev_up I 144 x1.toNatClampNeg ((I 143 x1.toNatClampNeg) ^^^ x4)) 144 x1.toNatClampNeg)] (ev_mk h (ev_up I 144 x1.toNatClampNeg ((I 143 x1.toNatClampNeg) ^^^ x4)) L)) (fun v2 s1 =>
              (if ev_in x1 8 then
                (if v2 < (s1.2.1 142 x1.toNatClampNeg) then
                  ev_at d M_Mo_parts 76 [.ref 139, .int x1, .int x2, .int x3, .int x4, .float 0] [.int 1] (ev_mk s1.1.2 s1.2.1 s1.2.2.1)
                else
                  ev_at d M_Mo_parts 76 [.ref 139, .int x1, .int x2, .int x3, .int x4, .float 0] [.int 0] (ev_mk s1.1.2 s1.2.1 s1.2.2.1))
              else none))
          else none)
        else none)
      else none)
    else
      ev_cI (ev_do d M_Mo_tellsSet [.ref 139, .int x3] (ev_mk h I L)) (fun v4 s3 =>
        ev_ri v4 (ev_mk s3.1.2 s3.2.1 s3.2.2.1)))
  else none) := 
  (ev_eq true (ev_call true d) M_Mo_parts 25 [.ref 139, .int x1, .int x2, .int x3, .int x4, .float 0] [] (ev_mk h I L)).trans rfl
set_option maxRecDepth 100000 in
theorem e_Mo_parts_76 (d : Nat) (x1 x2 x3 x4 y0 : Int32) (h : Bool × Nat × Nat) (I : Nat → Nat → Int32) (L : Nat → Nat → Int64) : ev_at d M_Mo_parts 76 [.ref 139, .int x1, .int x2, .int x3, .int x4, .float 0] [.int y0] (ev_mk h I L) =
  (if y0 = 0 then
    ev_at d M_Mo_parts 25 [.ref 139, .int x1, .int x2, .int x3, .int (x4 + 1), .float 0] [] (ev_mk h I L)
  else
    ev_cI (ev_do d M_Mo_isFewer [.int x4, .int x3] (ev_mk h I L)) (fun v2 s1 =>
      (if v2 = 0 then
        ev_at d M_Mo_parts 25 [.ref 139, .int x1, .int x2, .int x3, .int (x4 + 1), .float 0] [] (ev_mk s1.1.2 s1.2.1 s1.2.2.1)
      else
        ev_cI (ev_do d M_Mo_canBeOne [.ref 139, .ref 144, .int x1, .int x2] (ev_mk s1.1.2 s1.2.1 s1.2.2.1)) (fun v4 s3 =>
          (if v4 = 0 then
            ev_at d M_Mo_parts 25 [.ref 139, .int x1, .int x2, .int x4, .int (x4 + 1), .float 0] [] (ev_mk s3.1.2 s3.2.1 s3.2.2.1)
          else
            ev_at d M_Mo_parts 25 [.ref 139, .int x1, .int x2, .int x3, .int (x4 + 1), .float 0] [] (ev_mk s3.1.2 s3.2.1 s3.2.2.1)))))) := 
  (ev_eq true (ev_call true d) M_Mo_parts 76 [.ref 139, .int x1, .int x2, .int x3, .int x4, .float 0] [.int y0] (ev_mk h I L)).trans rfl
set_option maxRecDepth 100000 in
theorem e_Mo_power_0 (d : Nat) (x1 : Int32) (h : Bool × Nat × Nat) (I : Nat → Nat → Int32) (L : Nat → Nat → Int64) : ev_do (d + 1) M_Mo_power [.ref 139, .int x1] (ev_mk h I L) =
  ev_cI (ev_do d M_Mo_isLetter [.int x1] (ev_mk h (ev_up I 139 0 0) L)) (fun v2 s1 =>
    (if v2 = 0 then
      ev_ri (-1) (ev_mk s1.1.2 s1.2.1 s1.2.2.1)
    else
      ev_at d M_Mo_power 16 [.ref 139, .int x1, .int 0, .float 0] [] (ev_mk s1.1.2 s1.2.1 s1.2.2.1))) := 
  (ev_eq true (ev_call true d) M_Mo_power 0 [.ref 139, .int x1, .float 0, .float 0] [] (ev_mk h I L)).trans rfl
set_option maxRecDepth 100000 in
theorem e_Mo_power_16 (d : Nat) (x1 x2 : Int32) (h : Bool × Nat × Nat) (I : Nat → Nat → Int32) (L : Nat → Nat → Int64) : ev_at d M_Mo_power 16 [.ref 139, .int x1, .int x2, .float 0] [] (ev_mk h I L) =
  (if x2 < 8 then
    ev_cI (ev_do d M_Mo_signsOf [.ref 139, .ref 143, .int x2, .int 1] (ev_mk h I L)) (fun v2 s1 =>
      (if ev_in x2 8 then
        ev_at d M_Mo_power 16 [.ref 139, .int x1, .int (x2 + 1), .float 0] [] (ev_mk s1.1.2 (ev_up s1.2.1 167 x2.toNatClampNeg v2) s1.2.2.1)
      else none))
  else
    ev_at d M_Mo_power 48 [.ref 139, .int x1, .int 0, .int 0] [] (ev_mk h I L)) := 
  (ev_eq true (ev_call true d) M_Mo_power 16 [.ref 139, .int x1, .int x2, .float 0] [] (ev_mk h I L)).trans rfl
set_option maxRecDepth 100000 in
theorem e_Mo_power_48 (d : Nat) (x1 x2 x3 : Int32) (h : Bool × Nat × Nat) (I : Nat → Nat → Int32) (L : Nat → Nat → Int64) : ev_at d M_Mo_power 48 [.ref 139, .int x1, .int x2, .int x3] [] (ev_mk h I L) =
  (if x3 < 8 then
    ev_cI (ev_do d M_Mo_tips [.ref 139, .int x3] (ev_mk h I L)) (fun v2 s1 =>
      ev_at d M_Mo_power 48 [.ref 139, .int x1, .int (x2 + v2), .int (x3 + 1)] [] (ev_mk s1.1.2 s1.2.1 s1.2.2.1))
  else
    ev_cI (ev_do d M_Mo_tips [.ref 139, .int x1] (ev_mk h I L)) (fun v4 s3 =>
      ev_cV (ev_do d M_Mo_tellsFraction [.ref 139, .long v4.toInt64, .long ((if 1 < x2 then x2 else 1).toInt64)] (ev_mk s3.1.2 s3.2.1 s3.2.2.1)) (fun s5 =>
        ev_cI (ev_do d M_Mo_tips [.ref 139, .int x1] (ev_mk s5.1.2 s5.2.1 s5.2.2.1)) (fun v7 s6 =>
          ev_ri v7 (ev_mk s6.1.2 s6.2.1 s6.2.2.1))))) := 
  (ev_eq true (ev_call true d) M_Mo_power 48 [.ref 139, .int x1, .int x2, .int x3] [] (ev_mk h I L)).trans rfl
set_option maxRecDepth 100000 in
theorem e_Mo_putsBy_0 (d : Nat) (h : Bool × Nat × Nat) (I : Nat → Nat → Int32) (L : Nat → Nat → Int64) : ev_do (d + 1) M_Mo_putsBy [.ref 139] (ev_mk h I L) =
  ev_at d M_Mo_putsBy 2 [.ref 139, .int 0] [] (ev_mk h I L) := 
  (ev_eq true (ev_call true d) M_Mo_putsBy 0 [.ref 139, .float 0] [] (ev_mk h I L)).trans rfl
set_option maxRecDepth 100000 in
theorem e_Mo_putsBy_2 (d : Nat) (x1 : Int32) (h : Bool × Nat × Nat) (I : Nat → Nat → Int32) (L : Nat → Nat → Int64) : ev_at d M_Mo_putsBy 2 [.ref 139, .int x1] [] (ev_mk h I L) =
  (if x1 < 27 then
    (if ev_in x1 27 then
      (if ev_in ((27 * (I 139 26)) + x1) 432 then
        ev_at d M_Mo_putsBy 2 [.ref 139, .int (x1 + 1)] [] (ev_mk h (ev_up I 155 (((27 * (I 139 26)) + x1).toNatClampNeg) (I 143 x1.toNatClampNeg)) L)
      else none)
    else none)
  else
    ev_rn (ev_mk h I L)) := 
  (ev_eq true (ev_call true d) M_Mo_putsBy 2 [.ref 139, .int x1] [] (ev_mk h I L)).trans rfl
set_option maxRecDepth 100000 in
theorem e_Mo_readsAct_0 (d : Nat) (h : Bool × Nat × Nat) (I : Nat → Nat → Int32) (L : Nat → Nat → Int64) : ev_do (d + 1) M_Mo_readsAct [.ref 139] (ev_mk h I L) =
  ev_cI (ev_do d M_Mo_takesOf [.ref 139, .ref 900020] (ev_mk h I L)) (fun v2 s1 =>
    (if ev_in (I 139 31) 60 then
      (if ev_in (I 139 31) 60 then
        (if ((ev_up s1.2.1 156 ((I 139 31).toNatClampNeg) v2) 156 ((I 139 31).toNatClampNeg)) < 0 then
          ev_ri 0 (ev_mk s1.1.2 (ev_up (ev_up s1.2.1 156 ((I 139 31).toNatClampNeg) v2) 139 31 ((s1.2.1 139 31) + 1)) s1.2.2.1)
        else
          (if ev_in (I 139 31) 60 then
            (if ((ev_up s1.2.1 156 ((I 139 31).toNatClampNeg) v2) 156 ((I 139 31).toNatClampNeg)) < 2 then
              ev_cI (ev_do d M_Mo_number [.ref 139, .int 1] (ev_mk s1.1.2 (ev_up (ev_up s1.2.1 156 ((I 139 31).toNatClampNeg) v2) 139 31 ((s1.2.1 139 31) + 1)) s1.2.2.1)) (fun v4 s3 =>
                ev_at d M_Mo_readsAct 69 [.ref 139, .int (I 139 31)] [.int v4, .int (I 139 31), .ref 157] (ev_mk s3.1.2 s3.2.1 s3.2.2.1))
            else
              ev_cI (ev_do d M_Mo_takesOf [.ref 139, .ref 900022] (ev_mk s1.1.2 (ev_up (ev_up s1.2.1 156 ((I 139 31).toNatClampNeg) v2) 139 31 ((s1.2.1 139 31) + 1)) s1.2.2.1)) (fun v6 s5 =>
                ev_at d M_Mo_readsAct 69 [.ref 139, .int (I 139 31)] [.int v6, .int (I 139 31), .ref 157] (ev_mk s5.1.2 s5.2.1 s5.2.2.1)))
          else none))
      else none)
    else none)) := 
  (ev_eq true (ev_call true d) M_Mo_readsAct 0 [.ref 139, .float 0] [] (ev_mk h I L)).trans rfl
set_option maxRecDepth 100000 in
theorem e_Mo_readsAct_69 (d : Nat) (x1 y0 y1 : Int32) (h : Bool × Nat × Nat) (I : Nat → Nat → Int32) (L : Nat → Nat → Int64) : ev_at d M_Mo_readsAct 69 [.ref 139, .int x1] [.int y0, .int y1, .ref 157] (ev_mk h I L) =
  (if ev_in y1 60 then
    (if ev_in x1 60 then
      (if ((ev_up I 157 y1.toNatClampNeg y0) 157 x1.toNatClampNeg) < 0 then
        ev_at d M_Mo_readsAct 88 [.ref 139, .int x1] [] (ev_mk h (ev_up I 157 y1.toNatClampNeg y0) L)
      else
        (if ev_in x1 60 then
          (if (I 156 x1.toNatClampNeg) = 0 then
            ev_at d M_Mo_readsAct 88 [.ref 139, .int x1] [] (ev_mk h (ev_up I 157 y1.toNatClampNeg y0) L)
          else
            (if ev_in x1 60 then
              (if (I 156 x1.toNatClampNeg) < 3 then
                ev_at d M_Mo_readsAct 124 [.ref 139, .int x1] [.int 0, .ref 139, .int x1, .ref 158] (ev_mk h (ev_up I 157 y1.toNatClampNeg y0) L)
              else
                ev_at d M_Mo_readsAct 124 [.ref 139, .int x1] [.int 1, .ref 139, .int x1, .ref 158] (ev_mk h (ev_up I 157 y1.toNatClampNeg y0) L))
            else none))
        else none))
    else none)
  else none) := 
  (ev_eq true (ev_call true d) M_Mo_readsAct 69 [.ref 139, .int x1] [.int y0, .int y1, .ref 157] (ev_mk h I L)).trans rfl
set_option maxRecDepth 100000 in
theorem e_Mo_readsAct_88 (d : Nat) (x1 : Int32) (h : Bool × Nat × Nat) (I : Nat → Nat → Int32) (L : Nat → Nat → Int64) : ev_at d M_Mo_readsAct 88 [.ref 139, .int x1] [] (ev_mk h I L) =
  (if ev_in x1 60 then
    (if (I 157 x1.toNatClampNeg) < 0 then
      ev_ri 0 (ev_mk h I L)
    else
      ev_ri 1 (ev_mk h I L))
  else none) := 
  (ev_eq true (ev_call true d) M_Mo_readsAct 88 [.ref 139, .int x1] [] (ev_mk h I L)).trans rfl
set_option maxRecDepth 100000 in
theorem e_Mo_readsAct_124 (d : Nat) (x1 y0 y2 : Int32) (h : Bool × Nat × Nat) (I : Nat → Nat → Int32) (L : Nat → Nat → Int64) : ev_at d M_Mo_readsAct 124 [.ref 139, .int x1] [.int y0, .ref 139, .int y2, .ref 158] (ev_mk h I L) =
  ev_cI (ev_do d M_Mo_digitIn [.ref 139, .int y0, .int 9] (ev_mk h I L)) (fun v2 s1 =>
    (if ev_in y2 60 then
      (if ev_in x1 60 then
        (if ((ev_up s1.2.1 158 y2.toNatClampNeg v2) 158 x1.toNatClampNeg) < 0 then
          ev_ri 0 (ev_mk s1.1.2 (ev_up s1.2.1 158 y2.toNatClampNeg v2) s1.2.2.1)
        else
          ev_ri 1 (ev_mk s1.1.2 (ev_up s1.2.1 158 y2.toNatClampNeg v2) s1.2.2.1))
      else none)
    else none)) := 
  (ev_eq true (ev_call true d) M_Mo_readsAct 124 [.ref 139, .int x1] [.int y0, .ref 139, .int y2, .ref 158] (ev_mk h I L)).trans rfl
set_option maxRecDepth 100000 in
theorem e_Mo_readsRank_0 (d : Nat) (x1 : Int32) (h : Bool × Nat × Nat) (I : Nat → Nat → Int32) (L : Nat → Nat → Int64) : ev_do (d + 1) M_Mo_readsRank [.ref 139, .int x1] (ev_mk h I L) =
  (if x1 = 3 then
    ev_cI (ev_do d M_Mo_readsThing [.ref 139] (ev_mk h I L)) (fun v2 s1 =>
      (if ev_fit .boolean v2 then ev_ri v2 (ev_mk s1.1.2 s1.2.1 s1.2.2.1) else none))
  else
    ev_cI (ev_do d M_Mo_readsRank [.ref 139, .int (x1 + 1)] (ev_mk h I L)) (fun v4 s3 =>
      (if v4 = 0 then
        ev_ri 0 (ev_mk s3.1.2 s3.2.1 s3.2.2.1)
      else
        ev_at d M_Mo_readsRank 24 [.ref 139, .int x1, .int 1, .float 0] [] (ev_mk s3.1.2 s3.2.1 s3.2.2.1)))) := 
  (ev_eq true (ev_call true d) M_Mo_readsRank 0 [.ref 139, .int x1, .float 0, .float 0] [] (ev_mk h I L)).trans rfl
set_option maxRecDepth 100000 in
theorem e_Mo_readsRank_24 (d : Nat) (x1 x2 : Int32) (h : Bool × Nat × Nat) (I : Nat → Nat → Int32) (L : Nat → Nat → Int64) : ev_at d M_Mo_readsRank 24 [.ref 139, .int x1, .int x2, .float 0] [] (ev_mk h I L) =
  (if x2 = 0 then
    ev_ri 1 (ev_mk h I L)
  else
    (if x1 = 0 then
      ev_at d M_Mo_readsRank 50 [.ref 139, .int x1, .float 0, .float 0] [.ref 900014, .ref 139] (ev_mk h I L)
    else
      (if x1 = 1 then
        ev_at d M_Mo_readsRank 50 [.ref 139, .int x1, .float 0, .float 0] [.ref 900016, .ref 139] (ev_mk h I L)
      else
        ev_at d M_Mo_readsRank 50 [.ref 139, .int x1, .float 0, .float 0] [.ref 900018, .ref 139] (ev_mk h I L)))) := 
  (ev_eq true (ev_call true d) M_Mo_readsRank 24 [.ref 139, .int x1, .int x2, .float 0] [] (ev_mk h I L)).trans rfl
set_option maxRecDepth 100000 in
theorem e_Mo_readsRank_50 (d : Nat) (x1 : Int32) (y0 : Value) (h : Bool × Nat × Nat) (I : Nat → Nat → Int32) (L : Nat → Nat → Int64) : ev_at d M_Mo_readsRank 50 [.ref 139, .int x1, .float 0, .float 0] [y0, .ref 139] (ev_mk h I L) =
  ev_cI (ev_do d M_Mo_takesOf [.ref 139, y0] (ev_mk h I L)) (fun v2 s1 =>
    (if v2 < 0 then
      ev_ri 1 (ev_mk s1.1.2 s1.2.1 s1.2.2.1)
    else
      ev_cI (ev_do d M_Mo_readsRank [.ref 139, .int (x1 + 1)] (ev_mk s1.1.2 s1.2.1 s1.2.2.1)) (fun v4 s3 =>
        (if v4 = 0 then
          ev_ri 0 (ev_mk s3.1.2 s3.2.1 s3.2.2.1)
        else
          (if x1 = 0 then
            ev_at d M_Mo_readsRank 96 [.ref 139, .int x1, .float 0, .float 0] [.int 0, .int (2000 + v2), .ref 139] (ev_mk s3.1.2 s3.2.1 s3.2.2.1)
          else
            (if x1 = 1 then
              ev_at d M_Mo_readsRank 96 [.ref 139, .int x1, .float 0, .float 0] [.int 3, .int (2000 + v2), .ref 139] (ev_mk s3.1.2 s3.2.1 s3.2.2.1)
            else
              ev_at d M_Mo_readsRank 96 [.ref 139, .int x1, .float 0, .float 0] [.int 5, .int (2000 + v2), .ref 139] (ev_mk s3.1.2 s3.2.1 s3.2.2.1))))))) := 
  (ev_eq true (ev_call true d) M_Mo_readsRank 50 [.ref 139, .int x1, .float 0, .float 0] [y0, .ref 139] (ev_mk h I L)).trans rfl
set_option maxRecDepth 100000 in
theorem e_Mo_readsRank_96 (d : Nat) (x1 y0 y1 : Int32) (h : Bool × Nat × Nat) (I : Nat → Nat → Int32) (L : Nat → Nat → Int64) : ev_at d M_Mo_readsRank 96 [.ref 139, .int x1, .float 0, .float 0] [.int y0, .int y1, .ref 139] (ev_mk h I L) =
  ev_cV (ev_do d M_Mo_codes [.ref 139, .int (y1 + y0)] (ev_mk h I L)) (fun s1 =>
    (if 0 < x1 then
      ev_at d M_Mo_readsRank 24 [.ref 139, .int x1, .int 1, .float 0] [] (ev_mk s1.1.2 s1.2.1 s1.2.2.1)
    else
      ev_at d M_Mo_readsRank 24 [.ref 139, .int x1, .int 0, .float 0] [] (ev_mk s1.1.2 s1.2.1 s1.2.2.1))) := 
  (ev_eq true (ev_call true d) M_Mo_readsRank 96 [.ref 139, .int x1, .float 0, .float 0] [.int y0, .int y1, .ref 139] (ev_mk h I L)).trans rfl
set_option maxRecDepth 100000 in
theorem e_Mo_readsRule_0 (d : Nat) (h : Bool × Nat × Nat) (I : Nat → Nat → Int32) (L : Nat → Nat → Int64) : ev_do (d + 1) M_Mo_readsRule [.ref 139] (ev_mk h I L) =
  ev_cI (ev_do d M_Mo_begins [.ref 139, .int 40] (ev_mk h I L)) (fun v2 s1 =>
    (if v2 = 0 then
      ev_at d M_Mo_readsRule 29 [.ref 139, .int v2, .float 0] [.int 1] (ev_mk s1.1.2 (ev_up s1.2.1 139 21 0) s1.2.2.1)
    else
      ev_cI (ev_do d M_Mo_readsRank [.ref 139, .int 0] (ev_mk s1.1.2 (ev_up s1.2.1 139 21 0) s1.2.2.1)) (fun v4 s3 =>
        (if v4 = 0 then
          ev_at d M_Mo_readsRule 29 [.ref 139, .int v2, .float 0] [.int 0] (ev_mk s3.1.2 s3.2.1 s3.2.2.1)
        else
          ev_at d M_Mo_readsRule 29 [.ref 139, .int v2, .float 0] [.int 1] (ev_mk s3.1.2 s3.2.1 s3.2.2.1))))) := 
  (ev_eq true (ev_call true d) M_Mo_readsRule 0 [.ref 139, .float 0, .float 0] [] (ev_mk h I L)).trans rfl
set_option maxRecDepth 100000 in
theorem e_Mo_readsRule_29 (d : Nat) (x1 y0 : Int32) (h : Bool × Nat × Nat) (I : Nat → Nat → Int32) (L : Nat → Nat → Int64) : ev_at d M_Mo_readsRule 29 [.ref 139, .int x1, .float 0] [.int y0] (ev_mk h I L) =
  ev_cI (ev_do d M_Mo_faultOf [.ref 139, .int x1, .int 40, .int y0] (ev_mk h I L)) (fun v2 s1 =>
    ev_ri v2 (ev_mk s1.1.2 s1.2.1 s1.2.2.1)) := 
  (ev_eq true (ev_call true d) M_Mo_readsRule 29 [.ref 139, .int x1, .float 0] [.int y0] (ev_mk h I L)).trans rfl
set_option maxRecDepth 100000 in
theorem e_Mo_readsThing_0 (d : Nat) (h : Bool × Nat × Nat) (I : Nat → Nat → Int32) (L : Nat → Nat → Int64) : ev_do (d + 1) M_Mo_readsThing [.ref 139] (ev_mk h I L) =
  ev_cI (ev_do d M_Mo_takes [.ref 139, .int 45] (ev_mk h I L)) (fun v2 s1 =>
    (if v2 = 0 then
      ev_cI (ev_do d M_Mo_isDigit [.ref 139] (ev_mk s1.1.2 s1.2.1 s1.2.2.1)) (fun v4 s3 =>
        (if v4 = 0 then
          ev_cI (ev_do d M_Mo_takesOf [.ref 139, .ref 900002] (ev_mk s3.1.2 s3.2.1 s3.2.2.1)) (fun v6 s5 =>
            (if v6 < 0 then
              (if (s5.2.1 139 13) = 4 then
                ev_ri 0 (ev_mk s5.1.2 s5.2.1 s5.2.2.1)
              else
                ev_cI (ev_do d M_Mo_takes [.ref 139, .int 40] (ev_mk s5.1.2 s5.2.1 s5.2.2.1)) (fun v8 s7 =>
                  (if v8 = 0 then
                    ev_ri 0 (ev_mk s7.1.2 s7.2.1 s7.2.2.1)
                  else
                    ev_cI (ev_do d M_Mo_readsRank [.ref 139, .int 0] (ev_mk s7.1.2 (ev_up s7.2.1 139 13 ((s7.2.1 139 13) + 1)) s7.2.2.1)) (fun v10 s9 =>
                      (if v10 = 0 then
                        ev_ri 0 (ev_mk s9.1.2 s9.2.1 s9.2.2.1)
                      else
                        ev_cI (ev_do d M_Mo_takes [.ref 139, .int 41] (ev_mk s9.1.2 s9.2.1 s9.2.2.1)) (fun v12 s11 =>
                          (if v12 = 0 then
                            ev_ri 0 (ev_mk s11.1.2 s11.2.1 s11.2.2.1)
                          else
                            ev_ri 1 (ev_mk s11.1.2 (ev_up s11.2.1 139 13 ((s11.2.1 139 13) - 1)) s11.2.2.1))))))))
            else
              ev_cV (ev_do d M_Mo_codes [.ref 139, .int (1000 + v6)] (ev_mk s5.1.2 s5.2.1 s5.2.2.1)) (fun s13 =>
                ev_ri 1 (ev_mk s13.1.2 s13.2.1 s13.2.2.1))))
        else
          ev_cI (ev_do d M_Mo_number [.ref 139, .int 3] (ev_mk s3.1.2 s3.2.1 s3.2.2.1)) (fun v15 s14 =>
            ev_cV (ev_do d M_Mo_codes [.ref 139, .int v15] (ev_mk s14.1.2 s14.2.1 s14.2.2.1)) (fun s16 =>
              ev_ri 1 (ev_mk s16.1.2 s16.2.1 s16.2.2.1)))))
    else
      ev_cI (ev_do d M_Mo_readsThing [.ref 139] (ev_mk s1.1.2 s1.2.1 s1.2.2.1)) (fun v18 s17 =>
        ev_cV (ev_do d M_Mo_codes [.ref 139, .int 3000] (ev_mk s17.1.2 s17.2.1 s17.2.2.1)) (fun s19 =>
          (if ev_fit .boolean v18 then ev_ri v18 (ev_mk s19.1.2 s19.2.1 s19.2.2.1) else none))))) := 
  (ev_eq true (ev_call true d) M_Mo_readsThing 0 [.ref 139, .float 0] [] (ev_mk h I L)).trans rfl
set_option maxRecDepth 100000 in
theorem e_Mo_readsWord_0 (d : Nat) (h : Bool × Nat × Nat) (I : Nat → Nat → Int32) (L : Nat → Nat → Int64) : ev_do (d + 1) M_Mo_readsWord [.ref 139] (ev_mk h I L) =
  (if ((I 139 3) + (I 139 17)) = 8 then
    ev_ri 0 (ev_mk h I L)
  else
    ev_at d M_Mo_readsWord 22 [.ref 139, .int 0, .int 0, .int 1, .float 0] [] (ev_mk h I L)) := 
  (ev_eq true (ev_call true d) M_Mo_readsWord 0 [.ref 139, .float 0, .float 0, .float 0, .float 0] [] (ev_mk h I L)).trans rfl
set_option maxRecDepth 100000 in
theorem e_Mo_readsWord_22 (d : Nat) (x1 x2 x3 : Int32) (h : Bool × Nat × Nat) (I : Nat → Nat → Int32) (L : Nat → Nat → Int64) : ev_at d M_Mo_readsWord 22 [.ref 139, .int x1, .int x2, .int x3, .float 0] [] (ev_mk h I L) =
  (if x3 = 0 then
    (if ev_in (I 139 17) 8 then
      (if ev_in (I 139 17) 8 then
        ev_cI (ev_do d M_Int_bitCount [.int x2] (ev_mk h (ev_up (ev_up (ev_up I 147 ((I 139 17).toNatClampNeg) x1) 148 ((I 139 17).toNatClampNeg) x2) 139 17 ((I 139 17) + 1)) L)) (fun v2 s1 =>
          (if v2 < x1 then
            ev_ri 1 (ev_mk s1.1.2 s1.2.1 s1.2.2.1)
          else
            ev_ri 0 (ev_mk s1.1.2 s1.2.1 s1.2.2.1)))
      else none)
    else none)
  else
    (if x1 < 8 then
      ev_cI (ev_do d M_Mo_takesOf [.ref 139, .ref 900012] (ev_mk h I L)) (fun v4 s3 =>
        ev_at d M_Mo_readsWord 42 [.ref 139, .int x1, .int x2, .float 0, .float 0] [.int v4] (ev_mk s3.1.2 s3.2.1 s3.2.2.1))
    else
      ev_at d M_Mo_readsWord 42 [.ref 139, .int x1, .int x2, .float 0, .float 0] [.int (-1)] (ev_mk h I L))) := 
  (ev_eq true (ev_call true d) M_Mo_readsWord 22 [.ref 139, .int x1, .int x2, .int x3, .float 0] [] (ev_mk h I L)).trans rfl
set_option maxRecDepth 100000 in
theorem e_Mo_readsWord_42 (d : Nat) (x1 x2 y0 : Int32) (h : Bool × Nat × Nat) (I : Nat → Nat → Int32) (L : Nat → Nat → Int64) : ev_at d M_Mo_readsWord 42 [.ref 139, .int x1, .int x2, .float 0, .float 0] [.int y0] (ev_mk h I L) =
  (if y0 < 0 then
    ev_at d M_Mo_readsWord 54 [.ref 139, .int x1, .int x2, .float 0, .int y0] [.int 0] (ev_mk h I L)
  else
    ev_at d M_Mo_readsWord 54 [.ref 139, .int x1, .int x2, .float 0, .int y0] [.int 1] (ev_mk h I L)) := 
  (ev_eq true (ev_call true d) M_Mo_readsWord 42 [.ref 139, .int x1, .int x2, .float 0, .float 0] [.int y0] (ev_mk h I L)).trans rfl
set_option maxRecDepth 100000 in
theorem e_Mo_readsWord_54 (d : Nat) (x1 x2 x4 y0 : Int32) (h : Bool × Nat × Nat) (I : Nat → Nat → Int32) (L : Nat → Nat → Int64) : ev_at d M_Mo_readsWord 54 [.ref 139, .int x1, .int x2, .float 0, .int x4] [.int y0] (ev_mk h I L) =
  (if y0 = 0 then
    ev_at d M_Mo_readsWord 22 [.ref 139, .int x1, .int x2, .int y0, .float 0] [] (ev_mk h I L)
  else
    (if ev_in ((8 * (I 139 17)) + x1) 64 then
      (if x4 < 8 then
        ev_at d M_Mo_readsWord 22 [.ref 139, .int (x1 + 1), .int (x2 ||| 0), .int y0, .float 0] [] (ev_mk h (ev_up I 146 (((8 * (I 139 17)) + x1).toNatClampNeg) (x4 - x4 / 8 * 8)) L)
      else
        ev_at d M_Mo_readsWord 22 [.ref 139, .int (x1 + 1), .int (x2 ||| (1 <<< (x1 &&& 31))), .int y0, .float 0] [] (ev_mk h (ev_up I 146 (((8 * (I 139 17)) + x1).toNatClampNeg) (x4 - x4 / 8 * 8)) L))
    else none)) := 
  (ev_eq true (ev_call true d) M_Mo_readsWord 54 [.ref 139, .int x1, .int x2, .float 0, .int x4] [.int y0] (ev_mk h I L)).trans rfl
set_option maxRecDepth 100000 in
theorem e_Mo_refuse_0 (d : Nat) (h : Bool × Nat × Nat) (I : Nat → Nat → Int32) (L : Nat → Nat → Int64) : ev_do (d + 1) M_Mo_refuse [.ref 139] (ev_mk h I L) =
  ev_ri 0 (ev_mk h (ev_up I 139 0 1) L) := 
  (ev_eq true (ev_call true d) M_Mo_refuse 0 [.ref 139] [] (ev_mk h I L)).trans rfl
set_option maxRecDepth 100000 in
theorem e_Mo_rests_0 (d : Nat) (x1 : Int32) (h : Bool × Nat × Nat) (I : Nat → Nat → Int32) (L : Nat → Nat → Int64) : ev_do (d + 1) M_Mo_rests [.ref 139, .int x1] (ev_mk h I L) =
  ev_cI (ev_do d M_Mo_in [.long x1.toInt64, .long 0, .long 20] (ev_mk h (ev_up I 139 0 0) L)) (fun v2 s1 =>
    (if v2 = 0 then
      ev_ri (-1) (ev_mk s1.1.2 s1.2.1 s1.2.2.1)
    else
      ev_at d M_Mo_rests 28 [.ref 139, .int x1, .int 0, .int 0, .float 0] [] (ev_mk s1.1.2 (ev_up s1.2.1 139 1 0) s1.2.2.1))) := 
  (ev_eq true (ev_call true d) M_Mo_rests 0 [.ref 139, .int x1, .float 0, .float 0, .float 0] [] (ev_mk h I L)).trans rfl
set_option maxRecDepth 100000 in
theorem e_Mo_rests_28 (d : Nat) (x1 x2 x3 : Int32) (h : Bool × Nat × Nat) (I : Nat → Nat → Int32) (L : Nat → Nat → Int64) : ev_at d M_Mo_rests 28 [.ref 139, .int x1, .int x2, .int x3, .float 0] [] (ev_mk h I L) =
  (if 9 < x3 then
    ev_ri x2 (ev_mk h I L)
  else
    ev_at d M_Mo_rests 37 [.ref 139, .int x1, .int x2, .int x3, .int 0] [] (ev_mk h I L)) := 
  (ev_eq true (ev_call true d) M_Mo_rests 28 [.ref 139, .int x1, .int x2, .int x3, .float 0] [] (ev_mk h I L)).trans rfl
set_option maxRecDepth 100000 in
theorem e_Mo_rests_37 (d : Nat) (x1 x2 x3 x4 : Int32) (h : Bool × Nat × Nat) (I : Nat → Nat → Int32) (L : Nat → Nat → Int64) : ev_at d M_Mo_rests 37 [.ref 139, .int x1, .int x2, .int x3, .int x4] [] (ev_mk h I L) =
  (if 9 < x4 then
    ev_at d M_Mo_rests 28 [.ref 139, .int x1, .int x2, .int (x3 + 1), .float 0] [] (ev_mk h I L)
  else
    ev_cI (ev_do d M_Mo_isRest [.int x3, .int x4, .int x1] (ev_mk h I L)) (fun v2 s1 =>
      (if v2 = 0 then
        ev_at d M_Mo_rests 37 [.ref 139, .int x1, .int x2, .int x3, .int (x4 + 1)] [] (ev_mk s1.1.2 s1.2.1 s1.2.2.1)
      else
        ev_cI (ev_do d M_Mo_isRest [.int x4, .int x3, .int x1] (ev_mk s1.1.2 s1.2.1 s1.2.2.1)) (fun v4 s3 =>
          (if v4 = 0 then
            ev_at d M_Mo_rests 37 [.ref 139, .int x1, .int x2, .int x3, .int (x4 + 1)] [] (ev_mk s3.1.2 s3.2.1 s3.2.2.1)
          else
            (if x2 = 0 then
              ev_cV (ev_do d M_Mo_enters [.ref 139, .long x3.toInt64] (ev_mk s3.1.2 s3.2.1 s3.2.2.1)) (fun s5 =>
                ev_cV (ev_do d M_Mo_enters [.ref 139, .long x4.toInt64] (ev_mk s5.1.2 s5.2.1 s5.2.2.1)) (fun s6 =>
                  ev_at d M_Mo_rests 37 [.ref 139, .int x1, .int (x2 + 1), .int x3, .int (x4 + 1)] [] (ev_mk s6.1.2 s6.2.1 s6.2.2.1)))
            else
              ev_at d M_Mo_rests 37 [.ref 139, .int x1, .int (x2 + 1), .int x3, .int (x4 + 1)] [] (ev_mk s3.1.2 s3.2.1 s3.2.2.1))))))) := 
  (ev_eq true (ev_call true d) M_Mo_rests 37 [.ref 139, .int x1, .int x2, .int x3, .int x4] [] (ev_mk h I L)).trans rfl
set_option maxRecDepth 100000 in
theorem e_Mo_row_0 (d : Nat) (x1 : Int32) (h : Bool × Nat × Nat) (I : Nat → Nat → Int32) (L : Nat → Nat → Int64) : ev_do (d + 1) M_Mo_row [.ref 139, .int x1] (ev_mk h I L) =
  ev_cI (ev_do d M_Mo_in [.long x1.toInt64, .long 0, .long (((I 139 1) - 1).toInt64)] (ev_mk h (ev_up I 139 0 0) L)) (fun v2 s1 =>
    (if v2 = 0 then
      ev_rl 0 (ev_mk s1.1.2 (ev_up s1.2.1 139 0 1) s1.2.2.1)
    else
      (if ev_in x1 24 then
        ev_rl (s1.2.2.1 140 x1.toNatClampNeg) (ev_mk s1.1.2 s1.2.1 s1.2.2.1)
      else none))) := 
  (ev_eq true (ev_call true d) M_Mo_row 0 [.ref 139, .int x1] [] (ev_mk h I L)).trans rfl
set_option maxRecDepth 100000 in
theorem e_Mo_rule_0 (d : Nat) (h : Bool × Nat × Nat) (I : Nat → Nat → Int32) (L : Nat → Nat → Int64) : ev_do (d + 1) M_Mo_rule [.ref 139] (ev_mk h I L) =
  ev_cI (ev_do d M_Mo_readsRule [.ref 139] (ev_mk h (ev_up I 139 0 0) L)) (fun v2 s1 =>
    (if v2 = 0 then
      ev_cV (ev_do d M_Mo_laysCode [.ref 139, .ref 150, .int (s1.2.1 139 21)] (ev_mk s1.1.2 s1.2.1 s1.2.2.1)) (fun s3 =>
        ev_ri v2 (ev_mk s3.1.2 s3.2.1 s3.2.2.1))
    else
      ev_ri v2 (ev_mk s1.1.2 s1.2.1 s1.2.2.1))) := 
  (ev_eq true (ev_call true d) M_Mo_rule 0 [.ref 139, .float 0] [] (ev_mk h I L)).trans rfl
set_option maxRecDepth 100000 in
theorem e_Mo_ruled_0 (d : Nat) (h : Bool × Nat × Nat) (I : Nat → Nat → Int32) (L : Nat → Nat → Int64) : ev_do (d + 1) M_Mo_ruled [.ref 139] (ev_mk h I L) =
  ev_at d M_Mo_ruled 4 [.ref 139, .int 0, .int 0, .float 0] [] (ev_mk h I L) := 
  (ev_eq true (ev_call true d) M_Mo_ruled 0 [.ref 139, .float 0, .float 0, .float 0] [] (ev_mk h I L)).trans rfl
set_option maxRecDepth 100000 in
theorem e_Mo_ruled_4 (d : Nat) (x1 x2 : Int32) (h : Bool × Nat × Nat) (I : Nat → Nat → Int32) (L : Nat → Nat → Int64) : ev_at d M_Mo_ruled 4 [.ref 139, .int x1, .int x2, .float 0] [] (ev_mk h I L) =
  (if x2 < (I 139 20) then
    (if ev_in x2 80 then
      (if (I 149 x2.toNatClampNeg) = 3000 then
        (if ev_in (x1 - 1) 80 then
          (if ev_in (x1 - 1) 80 then
            ev_at d M_Mo_ruled 4 [.ref 139, .int x1, .int (x2 + 1), .float 0] [] (ev_mk h (ev_up I 151 ((x1 - 1).toNatClampNeg) (-(I 151 ((x1 - 1).toNatClampNeg)))) L)
          else none)
        else none)
      else
        (if (I 149 x2.toNatClampNeg) < 2000 then
          (if (I 149 x2.toNatClampNeg) < 1000 then
            (if ev_in x1 80 then
              ev_at d M_Mo_ruled 4 [.ref 139, .int (x1 + 1), .int (x2 + 1), .float 0] [] (ev_mk h (ev_up I 151 x1.toNatClampNeg (I 149 x2.toNatClampNeg)) L)
            else none)
          else
            (if ev_in ((I 149 x2.toNatClampNeg) - 1000) 7 then
              (if ev_in x1 80 then
                ev_at d M_Mo_ruled 4 [.ref 139, .int (x1 + 1), .int (x2 + 1), .float 0] [] (ev_mk h (ev_up I 151 x1.toNatClampNeg (I 152 (((I 149 x2.toNatClampNeg) - 1000).toNatClampNeg))) L)
              else none)
            else none))
        else
          ev_at d M_Mo_ruled 56 [.ref 139, .int (x1 + (-1)), .int x2, .int (I 149 x2.toNatClampNeg)] [] (ev_mk h I L)))
    else none)
  else
    (if (I 139 20) = 0 then
      ev_ri (((I 152 0) - (2 * (I 152 1))) - 3) (ev_mk h I L)
    else
      ev_ri (I 151 0) (ev_mk h I L))) := 
  (ev_eq true (ev_call true d) M_Mo_ruled 4 [.ref 139, .int x1, .int x2, .float 0] [] (ev_mk h I L)).trans rfl
set_option maxRecDepth 100000 in
theorem e_Mo_ruled_56 (d : Nat) (x1 x2 x3 : Int32) (h : Bool × Nat × Nat) (I : Nat → Nat → Int32) (L : Nat → Nat → Int64) : ev_at d M_Mo_ruled 56 [.ref 139, .int x1, .int x2, .int x3] [] (ev_mk h I L) =
  (if ev_in (x1 - 1) 80 then
    (if ev_in x1 80 then
      ev_cI (ev_do d M_Mo_worked [.int (x3 - 2000), .int (I 151 ((x1 - 1).toNatClampNeg)), .int (I 151 x1.toNatClampNeg)] (ev_mk h I L)) (fun v2 s1 =>
        (if ev_in (x1 - 1) 80 then
          ev_at d M_Mo_ruled 4 [.ref 139, .int x1, .int (x2 + 1), .float 0] [] (ev_mk s1.1.2 (ev_up s1.2.1 151 ((x1 - 1).toNatClampNeg) v2) s1.2.2.1)
        else none))
    else none)
  else none) := 
  (ev_eq true (ev_call true d) M_Mo_ruled 56 [.ref 139, .int x1, .int x2, .int x3] [] (ev_mk h I L)).trans rfl
set_option maxRecDepth 100000 in
theorem e_Mo_safe_0 (d : Nat) (h : Bool × Nat × Nat) (I : Nat → Nat → Int32) (L : Nat → Nat → Int64) : ev_do (d + 1) M_Mo_safe [.ref 139] (ev_mk h I L) =
  ev_at d M_Mo_safe 7 [.ref 139, .int 0, .float 0, .float 0, .float 0] [] (ev_mk h (ev_up I 139 0 0) L) := 
  (ev_eq true (ev_call true d) M_Mo_safe 0 [.ref 139, .float 0, .float 0, .float 0, .float 0] [] (ev_mk h I L)).trans rfl
set_option maxRecDepth 100000 in
theorem e_Mo_safe_7 (d : Nat) (x1 : Int32) (h : Bool × Nat × Nat) (I : Nat → Nat → Int32) (L : Nat → Nat → Int64) : ev_at d M_Mo_safe 7 [.ref 139, .int x1, .float 0, .float 0, .float 0] [] (ev_mk h I L) =
  (if x1 < (I 139 3) then
    (if ev_in x1 8 then
      ev_at d M_Mo_safe 24 [.ref 139, .int x1, .int 0, .float 0, .float 0] [] (ev_mk h (ev_up I 161 x1.toNatClampNeg 0) L)
    else none)
  else
    ev_at d M_Mo_safe 82 [.ref 139, .int 0, .int 0, .float 0, .float 0] [] (ev_mk h I L)) := 
  (ev_eq true (ev_call true d) M_Mo_safe 7 [.ref 139, .int x1, .float 0, .float 0, .float 0] [] (ev_mk h I L)).trans rfl
set_option maxRecDepth 100000 in
theorem e_Mo_safe_24 (d : Nat) (x1 x2 : Int32) (h : Bool × Nat × Nat) (I : Nat → Nat → Int32) (L : Nat → Nat → Int64) : ev_at d M_Mo_safe 24 [.ref 139, .int x1, .int x2, .float 0, .float 0] [] (ev_mk h I L) =
  (if x2 < (I 139 3) then
    (if ev_in x1 8 then
      (if x1 = x2 then
        (if ev_in x1 8 then
          ev_at d M_Mo_safe 24 [.ref 139, .int x1, .int (x2 + 1), .float 0, .float 0] [] (ev_mk h (ev_up I 161 x1.toNatClampNeg ((I 161 x1.toNatClampNeg) ||| 0)) L)
        else none)
      else
        ev_cI (ev_do d M_Mo_canBeOne [.ref 139, .ref 143, .int x1, .int x2] (ev_mk h I L)) (fun v2 s1 =>
          (if v2 = 0 then
            (if ev_in x1 8 then
              ev_at d M_Mo_safe 24 [.ref 139, .int x1, .int (x2 + 1), .float 0, .float 0] [] (ev_mk s1.1.2 (ev_up s1.2.1 161 x1.toNatClampNeg ((I 161 x1.toNatClampNeg) ||| 0)) s1.2.2.1)
            else none)
          else
            (if ev_in x1 8 then
              ev_at d M_Mo_safe 24 [.ref 139, .int x1, .int (x2 + 1), .float 0, .float 0] [] (ev_mk s1.1.2 (ev_up s1.2.1 161 x1.toNatClampNeg ((I 161 x1.toNatClampNeg) ||| (1 <<< (x2 &&& 31)))) s1.2.2.1)
            else none))))
    else none)
  else
    ev_at d M_Mo_safe 7 [.ref 139, .int (x1 + 1), .float 0, .float 0, .float 0] [] (ev_mk h I L)) := 
  (ev_eq true (ev_call true d) M_Mo_safe 24 [.ref 139, .int x1, .int x2, .float 0, .float 0] [] (ev_mk h I L)).trans rfl
set_option maxRecDepth 100000 in
theorem e_Mo_safe_82 (d : Nat) (x1 x2 : Int32) (h : Bool × Nat × Nat) (I : Nat → Nat → Int32) (L : Nat → Nat → Int64) : ev_at d M_Mo_safe 82 [.ref 139, .int x1, .int x2, .float 0, .float 0] [] (ev_mk h I L) =
  (if x2 < (1 <<< ((I 139 3) &&& 31)) then
    ev_at d M_Mo_safe 97 [.ref 139, .int x1, .int x2, .int 1, .int 0] [] (ev_mk h I L)
  else
    ev_cI (ev_do d M_Mo_tellsSet [.ref 139, .int x1] (ev_mk h I L)) (fun v2 s1 =>
      ev_ri v2 (ev_mk s1.1.2 s1.2.1 s1.2.2.1))) := 
  (ev_eq true (ev_call true d) M_Mo_safe 82 [.ref 139, .int x1, .int x2, .float 0, .float 0] [] (ev_mk h I L)).trans rfl
set_option maxRecDepth 100000 in
theorem e_Mo_safe_97 (d : Nat) (x1 x2 x3 x4 : Int32) (h : Bool × Nat × Nat) (I : Nat → Nat → Int32) (L : Nat → Nat → Int64) : ev_at d M_Mo_safe 97 [.ref 139, .int x1, .int x2, .int x3, .int x4] [] (ev_mk h I L) =
  (if x4 < (I 139 3) then
    (if x3 = 0 then
      ev_at d M_Mo_safe 97 [.ref 139, .int x1, .int x2, .int 0, .int (x4 + 1)] [] (ev_mk h I L)
    else
      ev_cI (ev_do d M_Mo_has [.int x2, .int x4] (ev_mk h I L)) (fun v2 s1 =>
        (if v2 = 0 then
          ev_at d M_Mo_safe 97 [.ref 139, .int x1, .int x2, .int 1, .int (x4 + 1)] [] (ev_mk s1.1.2 s1.2.1 s1.2.2.1)
        else
          (if ev_in x4 8 then
            (if (x2 &&& (s1.2.1 161 x4.toNatClampNeg)) = 0 then
              ev_at d M_Mo_safe 97 [.ref 139, .int x1, .int x2, .int 1, .int (x4 + 1)] [] (ev_mk s1.1.2 s1.2.1 s1.2.2.1)
            else
              ev_at d M_Mo_safe 97 [.ref 139, .int x1, .int x2, .int 0, .int (x4 + 1)] [] (ev_mk s1.1.2 s1.2.1 s1.2.2.1))
          else none))))
  else
    (if x3 = 0 then
      ev_at d M_Mo_safe 82 [.ref 139, .int x1, .int (x2 + 1), .float 0, .float 0] [] (ev_mk h I L)
    else
      ev_cI (ev_do d M_Int_bitCount [.int x2] (ev_mk h I L)) (fun v4 s3 =>
        ev_cI (ev_do d M_Int_bitCount [.int x1] (ev_mk s3.1.2 s3.2.1 s3.2.2.1)) (fun v6 s5 =>
          (if v6 < v4 then
            ev_at d M_Mo_safe 82 [.ref 139, .int x2, .int (x2 + 1), .float 0, .float 0] [] (ev_mk s5.1.2 s5.2.1 s5.2.2.1)
          else
            ev_at d M_Mo_safe 82 [.ref 139, .int x1, .int (x2 + 1), .float 0, .float 0] [] (ev_mk s5.1.2 s5.2.1 s5.2.2.1)))))) := 
  (ev_eq true (ev_call true d) M_Mo_safe 97 [.ref 139, .int x1, .int x2, .int x3, .int x4] [] (ev_mk h I L)).trans rfl
set_option maxRecDepth 100000 in
theorem e_Mo_shared_0 (d : Nat) (x1 x2 : Int32) (h : Bool × Nat × Nat) (I : Nat → Nat → Int32) (L : Nat → Nat → Int64) : ev_do (d + 1) M_Mo_shared [.ref 139, .int x1, .int x2] (ev_mk h I L) =
  ev_cI (ev_do d M_Mo_arePair [.ref 139, .int x1, .int x2] (ev_mk h (ev_up I 139 0 0) L)) (fun v2 s1 =>
    (if v2 = 0 then
      ev_ri (-1) (ev_mk s1.1.2 s1.2.1 s1.2.2.1)
    else
      ev_cI (ev_do d M_Mo_sharedBy [.ref 139, .int x1, .int x2, .int 0] (ev_mk s1.1.2 (ev_up s1.2.1 139 1 0) s1.2.2.1)) (fun v4 s3 =>
        ev_cV (ev_do d M_Mo_enters [.ref 139, .long v4.toInt64] (ev_mk s3.1.2 s3.2.1 s3.2.2.1)) (fun s5 =>
          ev_cI (ev_do d M_Mo_sharedBy [.ref 139, .int x1, .int x2, .int (s5.2.1 143 24)] (ev_mk s5.1.2 s5.2.1 s5.2.2.1)) (fun v7 s6 =>
            ev_ri v7 (ev_mk s6.1.2 s6.2.1 s6.2.2.1)))))) := 
  (ev_eq true (ev_call true d) M_Mo_shared 0 [.ref 139, .int x1, .int x2] [] (ev_mk h I L)).trans rfl
set_option maxRecDepth 100000 in
theorem e_Mo_sharedBy_0 (d : Nat) (x1 x2 x3 : Int32) (h : Bool × Nat × Nat) (I : Nat → Nat → Int32) (L : Nat → Nat → Int64) : ev_do (d + 1) M_Mo_sharedBy [.ref 139, .int x1, .int x2, .int x3] (ev_mk h I L) =
  (if ev_in x1 27 then
    ev_cI (ev_do d M_Mo_lays [.ref 139, .ref 153, .int x1, .int (I 143 x1.toNatClampNeg), .int x3] (ev_mk h I L)) (fun v2 s1 =>
      (if ev_in x2 27 then
        ev_cI (ev_do d M_Mo_lays [.ref 139, .ref 154, .int x2, .int (s1.2.1 143 x2.toNatClampNeg), .int x3] (ev_mk s1.1.2 s1.2.1 s1.2.2.1)) (fun v4 s3 =>
          ev_at d M_Mo_sharedBy 39 [.ref 139, .float 0, .float 0, .float 0, .int v2, .int v4, .int 0, .float 0, .float 0] [] (ev_mk s3.1.2 s3.2.1 s3.2.2.1))
      else none))
  else none) := 
  (ev_eq true (ev_call true d) M_Mo_sharedBy 0 [.ref 139, .int x1, .int x2, .int x3, .float 0, .float 0, .float 0, .float 0, .float 0] [] (ev_mk h I L)).trans rfl
set_option maxRecDepth 100000 in
theorem e_Mo_sharedBy_39 (d : Nat) (x4 x5 x6 : Int32) (h : Bool × Nat × Nat) (I : Nat → Nat → Int32) (L : Nat → Nat → Int64) : ev_at d M_Mo_sharedBy 39 [.ref 139, .float 0, .float 0, .float 0, .int x4, .int x5, .int x6, .float 0, .float 0] [] (ev_mk h I L) =
  (if x4 < x6 then
    ev_cI (ev_do d M_Mo_square [.int x4, .int x5] (ev_mk h I L)) (fun v2 s1 =>
      (if ev_in v2 81 then
        ev_ri (s1.2.1 159 v2.toNatClampNeg) (ev_mk s1.1.2 s1.2.1 s1.2.2.1)
      else none))
  else
    ev_at d M_Mo_sharedBy 49 [.ref 139, .float 0, .float 0, .float 0, .int x4, .int x5, .int x6, .int 0, .float 0] [] (ev_mk h I L)) := 
  (ev_eq true (ev_call true d) M_Mo_sharedBy 39 [.ref 139, .float 0, .float 0, .float 0, .int x4, .int x5, .int x6, .float 0, .float 0] [] (ev_mk h I L)).trans rfl
set_option maxRecDepth 100000 in
theorem e_Mo_sharedBy_49 (d : Nat) (x4 x5 x6 x7 : Int32) (h : Bool × Nat × Nat) (I : Nat → Nat → Int32) (L : Nat → Nat → Int64) : ev_at d M_Mo_sharedBy 49 [.ref 139, .float 0, .float 0, .float 0, .int x4, .int x5, .int x6, .int x7, .float 0] [] (ev_mk h I L) =
  (if x5 < x7 then
    ev_at d M_Mo_sharedBy 39 [.ref 139, .float 0, .float 0, .float 0, .int x4, .int x5, .int (x6 + 1), .float 0, .float 0] [] (ev_mk h I L)
  else
    (if x6 = 0 then
      ev_at d M_Mo_sharedBy 101 [.ref 139, .float 0, .float 0, .float 0, .int x4, .int x5, .int x6, .int x7, .float 0] [.int 0] (ev_mk h I L)
    else
      (if x7 = 0 then
        ev_at d M_Mo_sharedBy 101 [.ref 139, .float 0, .float 0, .float 0, .int x4, .int x5, .int x6, .int x7, .float 0] [.int 0] (ev_mk h I L)
      else
        ev_cI (ev_do d M_Mo_square [.int (x6 - 1), .int x7] (ev_mk h I L)) (fun v2 s1 =>
          (if ev_in v2 81 then
            ev_cI (ev_do d M_Mo_square [.int x6, .int (x7 - 1)] (ev_mk s1.1.2 s1.2.1 s1.2.2.1)) (fun v4 s3 =>
              (if ev_in v4 81 then
                ev_at d M_Mo_sharedBy 101 [.ref 139, .float 0, .float 0, .float 0, .int x4, .int x5, .int x6, .int x7, .float 0] [.int (if (s1.2.1 159 v2.toNatClampNeg) < (s3.2.1 159 v4.toNatClampNeg) then (s3.2.1 159 v4.toNatClampNeg) else (s1.2.1 159 v2.toNatClampNeg))] (ev_mk s3.1.2 s3.2.1 s3.2.2.1)
              else none))
          else none))))) := 
  (ev_eq true (ev_call true d) M_Mo_sharedBy 49 [.ref 139, .float 0, .float 0, .float 0, .int x4, .int x5, .int x6, .int x7, .float 0] [] (ev_mk h I L)).trans rfl
set_option maxRecDepth 100000 in
theorem e_Mo_sharedBy_101 (d : Nat) (x4 x5 x6 x7 y0 : Int32) (h : Bool × Nat × Nat) (I : Nat → Nat → Int32) (L : Nat → Nat → Int64) : ev_at d M_Mo_sharedBy 101 [.ref 139, .float 0, .float 0, .float 0, .int x4, .int x5, .int x6, .int x7, .float 0] [.int y0] (ev_mk h I L) =
  (if 0 < x6 then
    (if 0 < x7 then
      (if ev_in (x6 - 1) 8 then
        (if ev_in (x7 - 1) 8 then
          (if (I 153 ((x6 - 1).toNatClampNeg)) = (I 154 ((x7 - 1).toNatClampNeg)) then
            ev_cI (ev_do d M_Mo_square [.int (x6 - 1), .int (x7 - 1)] (ev_mk h I L)) (fun v2 s1 =>
              (if ev_in v2 81 then
                ev_at d M_Mo_sharedBy 162 [.ref 139, .float 0, .float 0, .float 0, .int x4, .int x5, .int x6, .int x7, .float 0] [.int (if y0 < ((s1.2.1 159 v2.toNatClampNeg) + 1) then ((s1.2.1 159 v2.toNatClampNeg) + 1) else y0)] (ev_mk s1.1.2 s1.2.1 s1.2.2.1)
              else none))
          else
            ev_at d M_Mo_sharedBy 162 [.ref 139, .float 0, .float 0, .float 0, .int x4, .int x5, .int x6, .int x7, .float 0] [.int y0] (ev_mk h I L))
        else none)
      else none)
    else
      ev_at d M_Mo_sharedBy 162 [.ref 139, .float 0, .float 0, .float 0, .int x4, .int x5, .int x6, .int x7, .float 0] [.int y0] (ev_mk h I L))
  else
    ev_at d M_Mo_sharedBy 162 [.ref 139, .float 0, .float 0, .float 0, .int x4, .int x5, .int x6, .int x7, .float 0] [.int y0] (ev_mk h I L)) := 
  (ev_eq true (ev_call true d) M_Mo_sharedBy 101 [.ref 139, .float 0, .float 0, .float 0, .int x4, .int x5, .int x6, .int x7, .float 0] [.int y0] (ev_mk h I L)).trans rfl
set_option maxRecDepth 100000 in
theorem e_Mo_sharedBy_162 (d : Nat) (x4 x5 x6 x7 y0 : Int32) (h : Bool × Nat × Nat) (I : Nat → Nat → Int32) (L : Nat → Nat → Int64) : ev_at d M_Mo_sharedBy 162 [.ref 139, .float 0, .float 0, .float 0, .int x4, .int x5, .int x6, .int x7, .float 0] [.int y0] (ev_mk h I L) =
  ev_cI (ev_do d M_Mo_square [.int x6, .int x7] (ev_mk h I L)) (fun v2 s1 =>
    (if ev_in v2 81 then
      ev_at d M_Mo_sharedBy 49 [.ref 139, .float 0, .float 0, .float 0, .int x4, .int x5, .int x6, .int (x7 + 1), .float 0] [] (ev_mk s1.1.2 (ev_up s1.2.1 159 v2.toNatClampNeg y0) s1.2.2.1)
    else none)) := 
  (ev_eq true (ev_call true d) M_Mo_sharedBy 162 [.ref 139, .float 0, .float 0, .float 0, .int x4, .int x5, .int x6, .int x7, .float 0] [.int y0] (ev_mk h I L)).trans rfl
set_option maxRecDepth 100000 in
theorem e_Mo_sheet_0 (d : Nat) (x1 x2 x3 x4 : Int32) (h : Bool × Nat × Nat) (I : Nat → Nat → Int32) (L : Nat → Nat → Int64) : ev_do (d + 1) M_Mo_sheet [.ref 139, .int x1, .int x2, .int x3, .int x4] (ev_mk h I L) =
  ev_cI (ev_do d M_Mo_in [.long x1.toInt64, .long 0, .long 3] (ev_mk h (ev_up I 139 0 0) L)) (fun v2 s1 =>
    (if v2 = 0 then
      ev_ri (-1) (ev_mk s1.1.2 s1.2.1 s1.2.2.1)
    else
      (if 8 < x2 then
        ev_ri (-1) (ev_mk s1.1.2 s1.2.1 s1.2.2.1)
      else
        (if x1 = 3 then
          ev_at d M_Mo_sheet 43 [.ref 139, .int x1, .int x2, .float 0, .int x4, .int x3, .int 0, .float 0] [] (ev_mk s1.1.2 s1.2.1 s1.2.2.1)
        else
          (if x2 < 0 then
            ev_ri (-2) (ev_mk s1.1.2 s1.2.1 s1.2.2.1)
          else
            ev_at d M_Mo_sheet 43 [.ref 139, .int x1, .int x2, .float 0, .int x4, .int x3, .int 0, .float 0] [] (ev_mk s1.1.2 s1.2.1 s1.2.2.1)))))) := 
  (ev_eq true (ev_call true d) M_Mo_sheet 0 [.ref 139, .int x1, .int x2, .int x3, .int x4, .float 0, .float 0, .float 0] [] (ev_mk h I L)).trans rfl
set_option maxRecDepth 100000 in
theorem e_Mo_sheet_43 (d : Nat) (x1 x2 x4 x5 x6 : Int32) (h : Bool × Nat × Nat) (I : Nat → Nat → Int32) (L : Nat → Nat → Int64) : ev_at d M_Mo_sheet 43 [.ref 139, .int x1, .int x2, .float 0, .int x4, .int x5, .int x6, .float 0] [] (ev_mk h I L) =
  (if x6 < 8 then
    (if x1 = 0 then
      ev_at d M_Mo_sheet 73 [.ref 139, .int x1, .int x2, .float 0, .int x4, .int x5, .int x6, .float 0] [.int x5.toInt8.toInt32] (ev_mk h I L)
    else
      (if x1 = 1 then
        ev_at d M_Mo_sheet 73 [.ref 139, .int x1, .int x2, .float 0, .int x4, .int x5, .int x6, .float 0] [.int x5.toInt16.toInt32] (ev_mk h I L)
      else
        ev_at d M_Mo_sheet 73 [.ref 139, .int x1, .int x2, .float 0, .int x4, .int x5, .int x6, .float 0] [.int x5] (ev_mk h I L)))
  else
    (if x1 = 3 then
      ev_ri (-3) (ev_mk h I L)
    else
      ev_cI (ev_do d M_Mo_sumOf [.ref 143, .int 8] (ev_mk h I L)) (fun v2 s1 =>
        ev_ri v2 (ev_mk s1.1.2 s1.2.1 s1.2.2.1)))) := 
  (ev_eq true (ev_call true d) M_Mo_sheet 43 [.ref 139, .int x1, .int x2, .float 0, .int x4, .int x5, .int x6, .float 0] [] (ev_mk h I L)).trans rfl
set_option maxRecDepth 100000 in
theorem e_Mo_sheet_73 (d : Nat) (x1 x2 x4 x5 x6 y0 : Int32) (h : Bool × Nat × Nat) (I : Nat → Nat → Int32) (L : Nat → Nat → Int64) : ev_at d M_Mo_sheet 73 [.ref 139, .int x1, .int x2, .float 0, .int x4, .int x5, .int x6, .float 0] [.int y0] (ev_mk h I L) =
  (if x1 = 3 then
    ev_at d M_Mo_sheet 110 [.ref 139, .int x1, .int x2, .float 0, .int x4, .int x5, .int x6, .float 0] [.int 0, .int (8 + x6), .ref 143] (ev_mk h I L)
  else
    (if x6 < x2 then
      ev_at d M_Mo_sheet 110 [.ref 139, .int x1, .int x2, .float 0, .int x4, .int x5, .int x6, .float 0] [.int (if 0 < (if y0 < 9 then y0 else 9) then (if y0 < 9 then y0 else 9) else 0), .int (8 + x6), .ref 143] (ev_mk h I L)
    else
      ev_at d M_Mo_sheet 110 [.ref 139, .int x1, .int x2, .float 0, .int x4, .int x5, .int x6, .float 0] [.int 0, .int (8 + x6), .ref 143] (ev_mk h I L))) := 
  (ev_eq true (ev_call true d) M_Mo_sheet 73 [.ref 139, .int x1, .int x2, .float 0, .int x4, .int x5, .int x6, .float 0] [.int y0] (ev_mk h I L)).trans rfl
set_option maxRecDepth 100000 in
theorem e_Mo_sheet_110 (d : Nat) (x1 x2 x4 x5 x6 y0 y1 : Int32) (h : Bool × Nat × Nat) (I : Nat → Nat → Int32) (L : Nat → Nat → Int64) : ev_at d M_Mo_sheet 110 [.ref 139, .int x1, .int x2, .float 0, .int x4, .int x5, .int x6, .float 0] [.int y0, .int y1, .ref 143] (ev_mk h I L) =
  (if ev_in y1 27 then
    ev_at d M_Mo_sheet 43 [.ref 139, .int x1, .int x2, .float 0, .int x4, .int (x5 + x4), .int (x6 + 1), .float 0] [] (ev_mk h (ev_up I 143 y1.toNatClampNeg y0) L)
  else none) := 
  (ev_eq true (ev_call true d) M_Mo_sheet 110 [.ref 139, .int x1, .int x2, .float 0, .int x4, .int x5, .int x6, .float 0] [.int y0, .int y1, .ref 143] (ev_mk h I L)).trans rfl
set_option maxRecDepth 100000 in
theorem e_Mo_sign_0 (d : Nat) (x1 : Int32) (h : Bool × Nat × Nat) (I : Nat → Nat → Int32) (L : Nat → Nat → Int64) : ev_do (d + 1) M_Mo_sign [.ref 139, .int x1] (ev_mk h I L) =
  (if 76 < (I 139 10) then
    ev_ri (-1) (ev_mk h (ev_up I 139 0 0) L)
  else
    ev_at d M_Mo_sign 18 [.ref 139, .int x1, .int 0] [] (ev_mk h (ev_up I 139 0 0) L)) := 
  (ev_eq true (ev_call true d) M_Mo_sign 0 [.ref 139, .int x1, .float 0] [] (ev_mk h I L)).trans rfl
set_option maxRecDepth 100000 in
theorem e_Mo_sign_18 (d : Nat) (x1 x2 : Int32) (h : Bool × Nat × Nat) (I : Nat → Nat → Int32) (L : Nat → Nat → Int64) : ev_at d M_Mo_sign 18 [.ref 139, .int x1, .int x2] [] (ev_mk h I L) =
  (if x2 < 4 then
    (if ev_in ((I 139 10) + x2) 80 then
      ev_at d M_Mo_sign 18 [.ref 139, .int x1, .int (x2 + 1)] [] (ev_mk h (ev_up I 145 (((I 139 10) + x2).toNatClampNeg) ((x1 >>> ((24 - (8 * x2)) &&& 31)) &&& 255)) L)
    else none)
  else
    ev_ri ((I 139 10) + 4) (ev_mk h (ev_up I 139 10 ((I 139 10) + 4)) L)) := 
  (ev_eq true (ev_call true d) M_Mo_sign 18 [.ref 139, .int x1, .int x2] [] (ev_mk h I L)).trans rfl
set_option maxRecDepth 100000 in
theorem e_Mo_signsOf_0 (d : Nat) (x2 x3 : Int32) {k1 : Nat} (hk1 : k1 = 143 ∨ k1 = 144) (h : Bool × Nat × Nat) (I : Nat → Nat → Int32) (L : Nat → Nat → Int64) : ev_do (d + 1) M_Mo_signsOf [.ref 139, .ref k1, .int x2, .int x3] (ev_mk h I L) =
  ev_at d M_Mo_signsOf 6 [.ref 139, .ref k1, .int x2, .int x3, .int 0, .int 0, .float 0] [] (ev_mk h I L) := by
  rcases hk1 with rfl | rfl <;> exact (ev_eq true (ev_call true d) M_Mo_signsOf 0 _ _ (ev_mk h I L)).trans rfl
set_option maxRecDepth 100000 in
theorem e_Mo_signsOf_6 (d : Nat) (x2 x3 x4 x5 : Int32) {k1 : Nat} (hk1 : k1 = 143 ∨ k1 = 144) (h : Bool × Nat × Nat) (I : Nat → Nat → Int32) (L : Nat → Nat → Int64) : ev_at d M_Mo_signsOf 6 [.ref 139, .ref k1, .int x2, .int x3, .int x4, .int x5, .float 0] [] (ev_mk h I L) =
  (if x5 < (I 139 3) then
    ev_at d M_Mo_signsOf 18 [.ref 139, .ref k1, .int x2, .int x3, .int x4, .int x5, .int 0] [] (ev_mk h I L)
  else
    ev_ri x4 (ev_mk h I L)) := by
  rcases hk1 with rfl | rfl <;> exact (ev_eq true (ev_call true d) M_Mo_signsOf 6 _ _ (ev_mk h I L)).trans rfl
set_option maxRecDepth 100000 in
theorem e_Mo_signsOf_18 (d : Nat) (x2 x3 x4 x5 x6 : Int32) {k1 : Nat} (hk1 : k1 = 143 ∨ k1 = 144) (h : Bool × Nat × Nat) (I : Nat → Nat → Int32) (L : Nat → Nat → Int64) : ev_at d M_Mo_signsOf 18 [.ref 139, .ref k1, .int x2, .int x3, .int x4, .int x5, .int x6] [] (ev_mk h I L) =
  (if ev_in x5 8 then
    (if x6 < (I 142 x5.toNatClampNeg) then
      (if ev_in ((8 * x5) + x6) 64 then
        (if (I 141 (((8 * x5) + x6).toNatClampNeg)) = x2 then
          (if ev_in x5 27 then
            ev_cI (ev_do d M_Mo_has [.int (I k1 x5.toNatClampNeg), .int x6] (ev_mk h I L)) (fun v2 s1 =>
              (if v2 = x3 then
                ev_at d M_Mo_signsOf 67 [.ref 139, .ref k1, .int x2, .int x3, .float 0, .int x5, .int x6] [.int 1, .int x4] (ev_mk s1.1.2 s1.2.1 s1.2.2.1)
              else
                ev_at d M_Mo_signsOf 67 [.ref 139, .ref k1, .int x2, .int x3, .float 0, .int x5, .int x6] [.int 0, .int x4] (ev_mk s1.1.2 s1.2.1 s1.2.2.1)))
          else none)
        else
          ev_at d M_Mo_signsOf 67 [.ref 139, .ref k1, .int x2, .int x3, .float 0, .int x5, .int x6] [.int 0, .int x4] (ev_mk h I L))
      else none)
    else
      ev_at d M_Mo_signsOf 6 [.ref 139, .ref k1, .int x2, .int x3, .int x4, .int (x5 + 1), .float 0] [] (ev_mk h I L))
  else none) := by
  rcases hk1 with rfl | rfl <;> exact (ev_eq true (ev_call true d) M_Mo_signsOf 18 _ _ (ev_mk h I L)).trans rfl
set_option maxRecDepth 100000 in
theorem e_Mo_signsOf_67 (d : Nat) (x2 x3 x5 x6 y0 y1 : Int32) {k1 : Nat} (hk1 : k1 = 143 ∨ k1 = 144) (h : Bool × Nat × Nat) (I : Nat → Nat → Int32) (L : Nat → Nat → Int64) : ev_at d M_Mo_signsOf 67 [.ref 139, .ref k1, .int x2, .int x3, .float 0, .int x5, .int x6] [.int y0, .int y1] (ev_mk h I L) =
  ev_cI (ev_do d M_Mo_flag [.int y0] (ev_mk h I L)) (fun v2 s1 =>
    ev_at d M_Mo_signsOf 18 [.ref 139, .ref k1, .int x2, .int x3, .int (y1 + v2), .int x5, .int (x6 + 1)] [] (ev_mk s1.1.2 s1.2.1 s1.2.2.1)) := by
  rcases hk1 with rfl | rfl <;> exact (ev_eq true (ev_call true d) M_Mo_signsOf 67 _ _ (ev_mk h I L)).trans rfl
set_option maxRecDepth 100000 in
theorem e_Mo_square_0 (d : Nat) (x0 x1 : Int32) (h : Bool × Nat × Nat) (I : Nat → Nat → Int32) (L : Nat → Nat → Int64) : ev_do (d + 1) M_Mo_square [.int x0, .int x1] (ev_mk h I L) =
  ev_ri ((9 * x0) + x1) (ev_mk h I L) := 
  (ev_eq true (ev_call true d) M_Mo_square 0 [.int x0, .int x1] [] (ev_mk h I L)).trans rfl
set_option maxRecDepth 100000 in
theorem e_Mo_stirs_0 (d : Nat) (x1 x2 : Int32) (h : Bool × Nat × Nat) (I : Nat → Nat → Int32) (L : Nat → Nat → Int64) : ev_do (d + 1) M_Mo_stirs [.ref 139, .int x1, .int x2] (ev_mk h I L) =
  ev_cV (ev_do d M_Mo_putsBy [.ref 139] (ev_mk h (ev_up I 139 0 0) L)) (fun s1 =>
    ev_cI (ev_do d M_Mo_stirsOne [.ref 139, .int x1, .int x2] (ev_mk s1.1.2 s1.2.1 s1.2.2.1)) (fun v3 s2 =>
      ev_cI (ev_do d M_Mo_counted [.ref 139, .int v3] (ev_mk s2.1.2 s2.2.1 s2.2.2.1)) (fun v5 s4 =>
        ev_ri v5 (ev_mk s4.1.2 s4.2.1 s4.2.2.1)))) := 
  (ev_eq true (ev_call true d) M_Mo_stirs 0 [.ref 139, .int x1, .int x2] [] (ev_mk h I L)).trans rfl
set_option maxRecDepth 100000 in
theorem e_Mo_stirsOne_0 (d : Nat) (x1 x2 : Int32) (h : Bool × Nat × Nat) (I : Nat → Nat → Int32) (L : Nat → Nat → Int64) : ev_do (d + 1) M_Mo_stirsOne [.ref 139, .int x1, .int x2] (ev_mk h I L) =
  ev_cI (ev_do d M_Mo_isLetter [.int x1] (ev_mk h I L)) (fun v2 s1 =>
    (if v2 = 0 then
      ev_ri (-1) (ev_mk s1.1.2 s1.2.1 s1.2.2.1)
    else
      ev_cI (ev_do d M_Mo_in [.long x2.toInt64, .long (-9), .long 9] (ev_mk s1.1.2 s1.2.1 s1.2.2.1)) (fun v4 s3 =>
        (if v4 = 0 then
          ev_ri (-1) (ev_mk s3.1.2 s3.2.1 s3.2.2.1)
        else
          (if x2 = 0 then
            ev_ri (-1) (ev_mk s3.1.2 s3.2.1 s3.2.2.1)
          else
            (if ev_in (8 + x1) 27 then
              ev_cI (ev_do d M_Mo_in [.long (((s3.2.1 143 ((8 + x1).toNatClampNeg)) + x2).toInt64), .long 0, .long 9] (ev_mk s3.1.2 s3.2.1 s3.2.2.1)) (fun v6 s5 =>
                (if v6 = 0 then
                  (if ((s3.2.1 143 ((8 + x1).toNatClampNeg)) + x2) < 0 then
                    ev_ri (-2) (ev_mk s5.1.2 s5.2.1 s5.2.2.1)
                  else
                    ev_ri (-3) (ev_mk s5.1.2 s5.2.1 s5.2.2.1))
                else
                  (if ev_in (8 + x1) 27 then
                    ev_ri ((s3.2.1 143 ((8 + x1).toNatClampNeg)) + x2) (ev_mk s5.1.2 (ev_up s5.2.1 143 ((8 + x1).toNatClampNeg) ((s3.2.1 143 ((8 + x1).toNatClampNeg)) + x2)) s5.2.2.1)
                  else none)))
            else none)))))) := 
  (ev_eq true (ev_call true d) M_Mo_stirsOne 0 [.ref 139, .int x1, .int x2, .float 0] [] (ev_mk h I L)).trans rfl
set_option maxRecDepth 100000 in
theorem e_Mo_strikeNext_0 (d : Nat) {k1 : Nat} (hk1 : k1 = 143 ∨ k1 = 144) (h : Bool × Nat × Nat) (I : Nat → Nat → Int32) (L : Nat → Nat → Int64) : ev_do (d + 1) M_Mo_strikeNext [.ref 139, .ref k1] (ev_mk h I L) =
  ev_cI (ev_do d M_Mo_unsaid [.ref 139, .ref k1] (ev_mk h I L)) (fun v2 s1 =>
    ev_at d M_Mo_strikeNext 11 [.ref 139, .ref k1, .int v2, .int 0, .int 0] [] (ev_mk s1.1.2 s1.2.1 s1.2.2.1)) := by
  rcases hk1 with rfl | rfl <;> exact (ev_eq true (ev_call true d) M_Mo_strikeNext 0 _ _ (ev_mk h I L)).trans rfl
set_option maxRecDepth 100000 in
theorem e_Mo_strikeNext_11 (d : Nat) (x2 x3 x4 : Int32) {k1 : Nat} (hk1 : k1 = 143 ∨ k1 = 144) (h : Bool × Nat × Nat) (I : Nat → Nat → Int32) (L : Nat → Nat → Int64) : ev_at d M_Mo_strikeNext 11 [.ref 139, .ref k1, .int x2, .int x3, .int x4] [] (ev_mk h I L) =
  (if x4 < 8 then
    ev_cI (ev_do d M_Mo_has [.int x2, .int x4] (ev_mk h I L)) (fun v2 s1 =>
      (if v2 = 0 then
        ev_at d M_Mo_strikeNext 11 [.ref 139, .ref k1, .int x2, .int (x3 ||| 0), .int (x4 + 1)] [] (ev_mk s1.1.2 s1.2.1 s1.2.2.1)
      else
        ev_cI (ev_do d M_Mo_grudge [.ref 139, .ref k1, .int x4] (ev_mk s1.1.2 s1.2.1 s1.2.2.1)) (fun v4 s3 =>
          (if 0 < v4 then
            ev_at d M_Mo_strikeNext 11 [.ref 139, .ref k1, .int x2, .int (x3 ||| (1 <<< (x4 &&& 31))), .int (x4 + 1)] [] (ev_mk s3.1.2 s3.2.1 s3.2.2.1)
          else
            ev_at d M_Mo_strikeNext 11 [.ref 139, .ref k1, .int x2, .int (x3 ||| 0), .int (x4 + 1)] [] (ev_mk s3.1.2 s3.2.1 s3.2.2.1)))))
  else
    ev_ri x3 (ev_mk h I L)) := by
  rcases hk1 with rfl | rfl <;> exact (ev_eq true (ev_call true d) M_Mo_strikeNext 11 _ _ (ev_mk h I L)).trans rfl
set_option maxRecDepth 100000 in
theorem e_Mo_sumOf_0 (d : Nat) (x1 : Int32) {k0 : Nat} (hk0 : k0 = 143 ∨ k0 = 144) (h : Bool × Nat × Nat) (I : Nat → Nat → Int32) (L : Nat → Nat → Int64) : ev_do (d + 1) M_Mo_sumOf [.ref k0, .int x1] (ev_mk h I L) =
  ev_at d M_Mo_sumOf 4 [.ref k0, .int x1, .int 0, .int 0] [] (ev_mk h I L) := by
  rcases hk0 with rfl | rfl <;> exact (ev_eq true (ev_call true d) M_Mo_sumOf 0 _ _ (ev_mk h I L)).trans rfl
set_option maxRecDepth 100000 in
theorem e_Mo_sumOf_4 (d : Nat) (x1 x2 x3 : Int32) {k0 : Nat} (hk0 : k0 = 143 ∨ k0 = 144) (h : Bool × Nat × Nat) (I : Nat → Nat → Int32) (L : Nat → Nat → Int64) : ev_at d M_Mo_sumOf 4 [.ref k0, .int x1, .int x2, .int x3] [] (ev_mk h I L) =
  (if x3 < 8 then
    (if ev_in (x1 + x3) 27 then
      ev_at d M_Mo_sumOf 4 [.ref k0, .int x1, .int (x2 + (I k0 ((x1 + x3).toNatClampNeg))), .int (x3 + 1)] [] (ev_mk h I L)
    else none)
  else
    ev_ri x2 (ev_mk h I L)) := by
  rcases hk0 with rfl | rfl <;> exact (ev_eq true (ev_call true d) M_Mo_sumOf 4 _ _ (ev_mk h I L)).trans rfl
set_option maxRecDepth 100000 in
theorem e_Mo_takes_0 (d : Nat) (x1 : Int32) (h : Bool × Nat × Nat) (I : Nat → Nat → Int32) (L : Nat → Nat → Int64) : ev_do (d + 1) M_Mo_takes [.ref 139, .int x1] (ev_mk h I L) =
  (if (I 139 11) < (I 139 12) then
    (if ev_in (I 139 11) 80 then
      (if (I 145 ((I 139 11).toNatClampNeg)) = x1 then
        ev_at d M_Mo_takes 29 [.ref 139, .float 0, .float 0] [.int 1] (ev_mk h I L)
      else
        ev_at d M_Mo_takes 29 [.ref 139, .float 0, .float 0] [.int 0] (ev_mk h I L))
    else none)
  else
    ev_at d M_Mo_takes 29 [.ref 139, .float 0, .float 0] [.int 0] (ev_mk h I L)) := 
  (ev_eq true (ev_call true d) M_Mo_takes 0 [.ref 139, .int x1, .float 0] [] (ev_mk h I L)).trans rfl
set_option maxRecDepth 100000 in
theorem e_Mo_takes_29 (d : Nat) (y0 : Int32) (h : Bool × Nat × Nat) (I : Nat → Nat → Int32) (L : Nat → Nat → Int64) : ev_at d M_Mo_takes 29 [.ref 139, .float 0, .float 0] [.int y0] (ev_mk h I L) =
  ev_cI (ev_do d M_Mo_flag [.int y0] (ev_mk h I L)) (fun v2 s1 =>
    (if ev_fit .boolean y0 then ev_ri y0 (ev_mk s1.1.2 (ev_up s1.2.1 139 11 ((I 139 11) + v2)) s1.2.2.1) else none)) := 
  (ev_eq true (ev_call true d) M_Mo_takes 29 [.ref 139, .float 0, .float 0] [.int y0] (ev_mk h I L)).trans rfl
set_option maxRecDepth 100000 in
theorem e_Mo_takesOf_0_v0 (d : Nat) (h : Bool × Nat × Nat) (I : Nat → Nat → Int32) (L : Nat → Nat → Int64) : ev_do (d + 1) M_Mo_takesOf [.ref 139, .ref 900002] (ev_mk h I L) =
  ev_at d M_Mo_takesOf 2 [.ref 139, .ref 900002, .int 0] [] (ev_mk h I L) := 
  (ev_eq true (ev_call true d) M_Mo_takesOf 0 [.ref 139, .ref 900002, .float 0] [] (ev_mk h I L)).trans rfl
set_option maxRecDepth 100000 in
theorem e_Mo_takesOf_2_v0 (d : Nat) (x2 : Int32) (h : Bool × Nat × Nat) (I : Nat → Nat → Int32) (L : Nat → Nat → Int64) : ev_at d M_Mo_takesOf 2 [.ref 139, .ref 900002, .int x2] [] (ev_mk h I L) =
  ev_cI (ev_do d M_Str_length [.ref 900002] (ev_mk h I L)) (fun v2 s1 =>
    (if x2 < v2 then
      (if (s1.2.1 139 11) < (s1.2.1 139 12) then
        ev_cI (ev_do d M_Str_charAt [.ref 900002, .int x2] (ev_mk s1.1.2 s1.2.1 s1.2.2.1)) (fun v4 s3 =>
          (if ev_in (s3.2.1 139 11) 80 then
            (if v4 = (s3.2.1 145 ((s3.2.1 139 11).toNatClampNeg)) then
              ev_ri x2 (ev_mk s3.1.2 (ev_up s3.2.1 139 11 ((s3.2.1 139 11) + 1)) s3.2.2.1)
            else
              ev_at d M_Mo_takesOf 2 [.ref 139, .ref 900002, .int (x2 + 1)] [] (ev_mk s3.1.2 s3.2.1 s3.2.2.1))
          else none))
      else
        ev_ri (-1) (ev_mk s1.1.2 s1.2.1 s1.2.2.1))
    else
      ev_ri (-1) (ev_mk s1.1.2 s1.2.1 s1.2.2.1))) := 
  (ev_eq true (ev_call true d) M_Mo_takesOf 2 [.ref 139, .ref 900002, .int x2] [] (ev_mk h I L)).trans rfl
set_option maxRecDepth 100000 in
theorem e_Mo_takesOf_0_v1 (d : Nat) (h : Bool × Nat × Nat) (I : Nat → Nat → Int32) (L : Nat → Nat → Int64) : ev_do (d + 1) M_Mo_takesOf [.ref 139, .ref 900020] (ev_mk h I L) =
  ev_at d M_Mo_takesOf 2 [.ref 139, .ref 900020, .int 0] [] (ev_mk h I L) := 
  (ev_eq true (ev_call true d) M_Mo_takesOf 0 [.ref 139, .ref 900020, .float 0] [] (ev_mk h I L)).trans rfl
set_option maxRecDepth 100000 in
theorem e_Mo_takesOf_2_v1 (d : Nat) (x2 : Int32) (h : Bool × Nat × Nat) (I : Nat → Nat → Int32) (L : Nat → Nat → Int64) : ev_at d M_Mo_takesOf 2 [.ref 139, .ref 900020, .int x2] [] (ev_mk h I L) =
  ev_cI (ev_do d M_Str_length [.ref 900020] (ev_mk h I L)) (fun v2 s1 =>
    (if x2 < v2 then
      (if (s1.2.1 139 11) < (s1.2.1 139 12) then
        ev_cI (ev_do d M_Str_charAt [.ref 900020, .int x2] (ev_mk s1.1.2 s1.2.1 s1.2.2.1)) (fun v4 s3 =>
          (if ev_in (s3.2.1 139 11) 80 then
            (if v4 = (s3.2.1 145 ((s3.2.1 139 11).toNatClampNeg)) then
              ev_ri x2 (ev_mk s3.1.2 (ev_up s3.2.1 139 11 ((s3.2.1 139 11) + 1)) s3.2.2.1)
            else
              ev_at d M_Mo_takesOf 2 [.ref 139, .ref 900020, .int (x2 + 1)] [] (ev_mk s3.1.2 s3.2.1 s3.2.2.1))
          else none))
      else
        ev_ri (-1) (ev_mk s1.1.2 s1.2.1 s1.2.2.1))
    else
      ev_ri (-1) (ev_mk s1.1.2 s1.2.1 s1.2.2.1))) := 
  (ev_eq true (ev_call true d) M_Mo_takesOf 2 [.ref 139, .ref 900020, .int x2] [] (ev_mk h I L)).trans rfl
set_option maxRecDepth 100000 in
theorem e_Mo_takesOf_0_v2 (d : Nat) (h : Bool × Nat × Nat) (I : Nat → Nat → Int32) (L : Nat → Nat → Int64) : ev_do (d + 1) M_Mo_takesOf [.ref 139, .ref 900022] (ev_mk h I L) =
  ev_at d M_Mo_takesOf 2 [.ref 139, .ref 900022, .int 0] [] (ev_mk h I L) := 
  (ev_eq true (ev_call true d) M_Mo_takesOf 0 [.ref 139, .ref 900022, .float 0] [] (ev_mk h I L)).trans rfl
set_option maxRecDepth 100000 in
theorem e_Mo_takesOf_2_v2 (d : Nat) (x2 : Int32) (h : Bool × Nat × Nat) (I : Nat → Nat → Int32) (L : Nat → Nat → Int64) : ev_at d M_Mo_takesOf 2 [.ref 139, .ref 900022, .int x2] [] (ev_mk h I L) =
  ev_cI (ev_do d M_Str_length [.ref 900022] (ev_mk h I L)) (fun v2 s1 =>
    (if x2 < v2 then
      (if (s1.2.1 139 11) < (s1.2.1 139 12) then
        ev_cI (ev_do d M_Str_charAt [.ref 900022, .int x2] (ev_mk s1.1.2 s1.2.1 s1.2.2.1)) (fun v4 s3 =>
          (if ev_in (s3.2.1 139 11) 80 then
            (if v4 = (s3.2.1 145 ((s3.2.1 139 11).toNatClampNeg)) then
              ev_ri x2 (ev_mk s3.1.2 (ev_up s3.2.1 139 11 ((s3.2.1 139 11) + 1)) s3.2.2.1)
            else
              ev_at d M_Mo_takesOf 2 [.ref 139, .ref 900022, .int (x2 + 1)] [] (ev_mk s3.1.2 s3.2.1 s3.2.2.1))
          else none))
      else
        ev_ri (-1) (ev_mk s1.1.2 s1.2.1 s1.2.2.1))
    else
      ev_ri (-1) (ev_mk s1.1.2 s1.2.1 s1.2.2.1))) := 
  (ev_eq true (ev_call true d) M_Mo_takesOf 2 [.ref 139, .ref 900022, .int x2] [] (ev_mk h I L)).trans rfl
set_option maxRecDepth 100000 in
theorem e_Mo_takesOf_0_v3 (d : Nat) (h : Bool × Nat × Nat) (I : Nat → Nat → Int32) (L : Nat → Nat → Int64) : ev_do (d + 1) M_Mo_takesOf [.ref 139, .ref 900012] (ev_mk h I L) =
  ev_at d M_Mo_takesOf 2 [.ref 139, .ref 900012, .int 0] [] (ev_mk h I L) := 
  (ev_eq true (ev_call true d) M_Mo_takesOf 0 [.ref 139, .ref 900012, .float 0] [] (ev_mk h I L)).trans rfl
set_option maxRecDepth 100000 in
theorem e_Mo_takesOf_2_v3 (d : Nat) (x2 : Int32) (h : Bool × Nat × Nat) (I : Nat → Nat → Int32) (L : Nat → Nat → Int64) : ev_at d M_Mo_takesOf 2 [.ref 139, .ref 900012, .int x2] [] (ev_mk h I L) =
  ev_cI (ev_do d M_Str_length [.ref 900012] (ev_mk h I L)) (fun v2 s1 =>
    (if x2 < v2 then
      (if (s1.2.1 139 11) < (s1.2.1 139 12) then
        ev_cI (ev_do d M_Str_charAt [.ref 900012, .int x2] (ev_mk s1.1.2 s1.2.1 s1.2.2.1)) (fun v4 s3 =>
          (if ev_in (s3.2.1 139 11) 80 then
            (if v4 = (s3.2.1 145 ((s3.2.1 139 11).toNatClampNeg)) then
              ev_ri x2 (ev_mk s3.1.2 (ev_up s3.2.1 139 11 ((s3.2.1 139 11) + 1)) s3.2.2.1)
            else
              ev_at d M_Mo_takesOf 2 [.ref 139, .ref 900012, .int (x2 + 1)] [] (ev_mk s3.1.2 s3.2.1 s3.2.2.1))
          else none))
      else
        ev_ri (-1) (ev_mk s1.1.2 s1.2.1 s1.2.2.1))
    else
      ev_ri (-1) (ev_mk s1.1.2 s1.2.1 s1.2.2.1))) := 
  (ev_eq true (ev_call true d) M_Mo_takesOf 2 [.ref 139, .ref 900012, .int x2] [] (ev_mk h I L)).trans rfl
set_option maxRecDepth 100000 in
theorem e_Mo_takesOf_0_v4 (d : Nat) (h : Bool × Nat × Nat) (I : Nat → Nat → Int32) (L : Nat → Nat → Int64) : ev_do (d + 1) M_Mo_takesOf [.ref 139, .ref 900014] (ev_mk h I L) =
  ev_at d M_Mo_takesOf 2 [.ref 139, .ref 900014, .int 0] [] (ev_mk h I L) := 
  (ev_eq true (ev_call true d) M_Mo_takesOf 0 [.ref 139, .ref 900014, .float 0] [] (ev_mk h I L)).trans rfl
set_option maxRecDepth 100000 in
theorem e_Mo_takesOf_2_v4 (d : Nat) (x2 : Int32) (h : Bool × Nat × Nat) (I : Nat → Nat → Int32) (L : Nat → Nat → Int64) : ev_at d M_Mo_takesOf 2 [.ref 139, .ref 900014, .int x2] [] (ev_mk h I L) =
  ev_cI (ev_do d M_Str_length [.ref 900014] (ev_mk h I L)) (fun v2 s1 =>
    (if x2 < v2 then
      (if (s1.2.1 139 11) < (s1.2.1 139 12) then
        ev_cI (ev_do d M_Str_charAt [.ref 900014, .int x2] (ev_mk s1.1.2 s1.2.1 s1.2.2.1)) (fun v4 s3 =>
          (if ev_in (s3.2.1 139 11) 80 then
            (if v4 = (s3.2.1 145 ((s3.2.1 139 11).toNatClampNeg)) then
              ev_ri x2 (ev_mk s3.1.2 (ev_up s3.2.1 139 11 ((s3.2.1 139 11) + 1)) s3.2.2.1)
            else
              ev_at d M_Mo_takesOf 2 [.ref 139, .ref 900014, .int (x2 + 1)] [] (ev_mk s3.1.2 s3.2.1 s3.2.2.1))
          else none))
      else
        ev_ri (-1) (ev_mk s1.1.2 s1.2.1 s1.2.2.1))
    else
      ev_ri (-1) (ev_mk s1.1.2 s1.2.1 s1.2.2.1))) := 
  (ev_eq true (ev_call true d) M_Mo_takesOf 2 [.ref 139, .ref 900014, .int x2] [] (ev_mk h I L)).trans rfl
set_option maxRecDepth 100000 in
theorem e_Mo_takesOf_0_v5 (d : Nat) (h : Bool × Nat × Nat) (I : Nat → Nat → Int32) (L : Nat → Nat → Int64) : ev_do (d + 1) M_Mo_takesOf [.ref 139, .ref 900016] (ev_mk h I L) =
  ev_at d M_Mo_takesOf 2 [.ref 139, .ref 900016, .int 0] [] (ev_mk h I L) := 
  (ev_eq true (ev_call true d) M_Mo_takesOf 0 [.ref 139, .ref 900016, .float 0] [] (ev_mk h I L)).trans rfl
set_option maxRecDepth 100000 in
theorem e_Mo_takesOf_2_v5 (d : Nat) (x2 : Int32) (h : Bool × Nat × Nat) (I : Nat → Nat → Int32) (L : Nat → Nat → Int64) : ev_at d M_Mo_takesOf 2 [.ref 139, .ref 900016, .int x2] [] (ev_mk h I L) =
  ev_cI (ev_do d M_Str_length [.ref 900016] (ev_mk h I L)) (fun v2 s1 =>
    (if x2 < v2 then
      (if (s1.2.1 139 11) < (s1.2.1 139 12) then
        ev_cI (ev_do d M_Str_charAt [.ref 900016, .int x2] (ev_mk s1.1.2 s1.2.1 s1.2.2.1)) (fun v4 s3 =>
          (if ev_in (s3.2.1 139 11) 80 then
            (if v4 = (s3.2.1 145 ((s3.2.1 139 11).toNatClampNeg)) then
              ev_ri x2 (ev_mk s3.1.2 (ev_up s3.2.1 139 11 ((s3.2.1 139 11) + 1)) s3.2.2.1)
            else
              ev_at d M_Mo_takesOf 2 [.ref 139, .ref 900016, .int (x2 + 1)] [] (ev_mk s3.1.2 s3.2.1 s3.2.2.1))
          else none))
      else
        ev_ri (-1) (ev_mk s1.1.2 s1.2.1 s1.2.2.1))
    else
      ev_ri (-1) (ev_mk s1.1.2 s1.2.1 s1.2.2.1))) := 
  (ev_eq true (ev_call true d) M_Mo_takesOf 2 [.ref 139, .ref 900016, .int x2] [] (ev_mk h I L)).trans rfl
set_option maxRecDepth 100000 in
theorem e_Mo_takesOf_0_v6 (d : Nat) (h : Bool × Nat × Nat) (I : Nat → Nat → Int32) (L : Nat → Nat → Int64) : ev_do (d + 1) M_Mo_takesOf [.ref 139, .ref 900018] (ev_mk h I L) =
  ev_at d M_Mo_takesOf 2 [.ref 139, .ref 900018, .int 0] [] (ev_mk h I L) := 
  (ev_eq true (ev_call true d) M_Mo_takesOf 0 [.ref 139, .ref 900018, .float 0] [] (ev_mk h I L)).trans rfl
set_option maxRecDepth 100000 in
theorem e_Mo_takesOf_2_v6 (d : Nat) (x2 : Int32) (h : Bool × Nat × Nat) (I : Nat → Nat → Int32) (L : Nat → Nat → Int64) : ev_at d M_Mo_takesOf 2 [.ref 139, .ref 900018, .int x2] [] (ev_mk h I L) =
  ev_cI (ev_do d M_Str_length [.ref 900018] (ev_mk h I L)) (fun v2 s1 =>
    (if x2 < v2 then
      (if (s1.2.1 139 11) < (s1.2.1 139 12) then
        ev_cI (ev_do d M_Str_charAt [.ref 900018, .int x2] (ev_mk s1.1.2 s1.2.1 s1.2.2.1)) (fun v4 s3 =>
          (if ev_in (s3.2.1 139 11) 80 then
            (if v4 = (s3.2.1 145 ((s3.2.1 139 11).toNatClampNeg)) then
              ev_ri x2 (ev_mk s3.1.2 (ev_up s3.2.1 139 11 ((s3.2.1 139 11) + 1)) s3.2.2.1)
            else
              ev_at d M_Mo_takesOf 2 [.ref 139, .ref 900018, .int (x2 + 1)] [] (ev_mk s3.1.2 s3.2.1 s3.2.2.1))
          else none))
      else
        ev_ri (-1) (ev_mk s1.1.2 s1.2.1 s1.2.2.1))
    else
      ev_ri (-1) (ev_mk s1.1.2 s1.2.1 s1.2.2.1))) := 
  (ev_eq true (ev_call true d) M_Mo_takesOf 2 [.ref 139, .ref 900018, .int x2] [] (ev_mk h I L)).trans rfl
set_option maxRecDepth 100000 in
theorem e_Mo_tellsFraction_0 (d : Nat) (x1 x2 : Int64) (h : Bool × Nat × Nat) (I : Nat → Nat → Int32) (L : Nat → Nat → Int64) : ev_do (d + 1) M_Mo_tellsFraction [.ref 139, .long x1, .long x2] (ev_mk h I L) =
  ev_cL (ev_do d M_Mo_common [.long x1, .long x2] (ev_mk h I L)) (fun v2 s1 =>
    (if v2 = 0 then
      none
    else
      ev_cV (ev_do d M_Mo_enters [.ref 139, .long (x1 / v2)] (ev_mk s1.1.2 (ev_up s1.2.1 139 1 0) s1.2.2.1)) (fun s3 =>
        (if v2 = 0 then
          none
        else
          ev_cV (ev_do d M_Mo_enters [.ref 139, .long (x2 / v2)] (ev_mk s3.1.2 s3.2.1 s3.2.2.1)) (fun s4 =>
            ev_rn (ev_mk s4.1.2 s4.2.1 s4.2.2.1)))))) := 
  (ev_eq true (ev_call true d) M_Mo_tellsFraction 0 [.ref 139, .long x1, .float 0, .long x2, .float 0, .float 0, .float 0] [] (ev_mk h I L)).trans rfl
set_option maxRecDepth 100000 in
theorem e_Mo_tellsSet_0 (d : Nat) (x1 : Int32) (h : Bool × Nat × Nat) (I : Nat → Nat → Int32) (L : Nat → Nat → Int64) : ev_do (d + 1) M_Mo_tellsSet [.ref 139, .int x1] (ev_mk h I L) =
  (if x1 < 0 then
    ev_ri (-2) (ev_mk h I L)
  else
    ev_cV (ev_do d M_Mo_enters [.ref 139, .long x1.toInt64] (ev_mk h (ev_up I 139 1 0) L)) (fun s1 =>
      ev_cI (ev_do d M_Int_bitCount [.int x1] (ev_mk s1.1.2 s1.2.1 s1.2.2.1)) (fun v3 s2 =>
        ev_ri v3 (ev_mk s2.1.2 s2.2.1 s2.2.2.1)))) := 
  (ev_eq true (ev_call true d) M_Mo_tellsSet 0 [.ref 139, .int x1] [] (ev_mk h I L)).trans rfl
set_option maxRecDepth 100000 in
theorem e_Mo_thrown_0 (d : Nat) (h : Bool × Nat × Nat) (I : Nat → Nat → Int32) (L : Nat → Nat → Int64) : ev_do (d + 1) M_Mo_thrown [.ref 139] (ev_mk h I L) =
  ev_ri (I 139 0) (ev_mk h I L) := 
  (ev_eq true (ev_call true d) M_Mo_thrown 0 [.ref 139] [] (ev_mk h I L)).trans rfl
set_option maxRecDepth 100000 in
theorem e_Mo_tips_0 (d : Nat) (x1 : Int32) (h : Bool × Nat × Nat) (I : Nat → Nat → Int32) (L : Nat → Nat → Int64) : ev_do (d + 1) M_Mo_tips [.ref 139, .int x1] (ev_mk h I L) =
  ev_at d M_Mo_tips 7 [.ref 139, .int x1, .int 0, .int 0, .int 0, .float 0, .float 0] [] (ev_mk h I L) := 
  (ev_eq true (ev_call true d) M_Mo_tips 0 [.ref 139, .int x1, .float 0, .float 0, .float 0, .float 0, .float 0] [] (ev_mk h I L)).trans rfl
set_option maxRecDepth 100000 in
theorem e_Mo_tips_7 (d : Nat) (x1 x2 x3 x4 : Int32) (h : Bool × Nat × Nat) (I : Nat → Nat → Int32) (L : Nat → Nat → Int64) : ev_at d M_Mo_tips 7 [.ref 139, .int x1, .int x2, .int x3, .int x4, .float 0, .float 0] [] (ev_mk h I L) =
  (if x4 < 8 then
    (if ev_in x4 8 then
      ev_at d M_Mo_tips 7 [.ref 139, .int x1, .int (x2 + (I 167 x4.toNatClampNeg)), .int x3, .int (x4 + 1), .float 0, .float 0] [] (ev_mk h I L)
    else none)
  else
    ev_at d M_Mo_tips 33 [.ref 139, .int x1, .int x2, .int x3, .int 0, .float 0, .float 0] [] (ev_mk h I L)) := 
  (ev_eq true (ev_call true d) M_Mo_tips 7 [.ref 139, .int x1, .int x2, .int x3, .int x4, .float 0, .float 0] [] (ev_mk h I L)).trans rfl
set_option maxRecDepth 100000 in
theorem e_Mo_tips_33 (d : Nat) (x1 x2 x3 x4 : Int32) (h : Bool × Nat × Nat) (I : Nat → Nat → Int32) (L : Nat → Nat → Int64) : ev_at d M_Mo_tips 33 [.ref 139, .int x1, .int x2, .int x3, .int x4, .float 0, .float 0] [] (ev_mk h I L) =
  (if x4 < 256 then
    ev_at d M_Mo_tips 47 [.ref 139, .int x1, .int x2, .int x3, .int x4, .int 0, .int 0] [] (ev_mk h I L)
  else
    ev_ri x3 (ev_mk h I L)) := 
  (ev_eq true (ev_call true d) M_Mo_tips 33 [.ref 139, .int x1, .int x2, .int x3, .int x4, .float 0, .float 0] [] (ev_mk h I L)).trans rfl
set_option maxRecDepth 100000 in
theorem e_Mo_tips_47 (d : Nat) (x1 x2 x3 x4 x5 x6 : Int32) (h : Bool × Nat × Nat) (I : Nat → Nat → Int32) (L : Nat → Nat → Int64) : ev_at d M_Mo_tips 47 [.ref 139, .int x1, .int x2, .int x3, .int x4, .int x5, .int x6] [] (ev_mk h I L) =
  (if x6 < 8 then
    ev_cI (ev_do d M_Mo_has [.int x4, .int x6] (ev_mk h I L)) (fun v2 s1 =>
      (if v2 = 0 then
        ev_at d M_Mo_tips 47 [.ref 139, .int x1, .int x2, .int x3, .int x4, .int (x5 + 0), .int (x6 + 1)] [] (ev_mk s1.1.2 s1.2.1 s1.2.2.1)
      else
        (if ev_in x6 8 then
          ev_at d M_Mo_tips 47 [.ref 139, .int x1, .int x2, .int x3, .int x4, .int (x5 + (s1.2.1 167 x6.toNatClampNeg)), .int (x6 + 1)] [] (ev_mk s1.1.2 s1.2.1 s1.2.2.1)
        else none)))
  else
    ev_cI (ev_do d M_Mo_has [.int x4, .int x1] (ev_mk h I L)) (fun v4 s3 =>
      (if v4 = 0 then
        (if x2 < (2 * x5) then
          ev_at d M_Mo_tips 124 [.ref 139, .int x1, .int x2, .float 0, .int x4, .float 0, .float 0] [.int 0, .int x3] (ev_mk s3.1.2 s3.2.1 s3.2.2.1)
        else
          (if ev_in x1 8 then
            (if x2 < (2 * (x5 + (s3.2.1 167 x1.toNatClampNeg))) then
              ev_at d M_Mo_tips 124 [.ref 139, .int x1, .int x2, .float 0, .int x4, .float 0, .float 0] [.int 1, .int x3] (ev_mk s3.1.2 s3.2.1 s3.2.2.1)
            else
              ev_at d M_Mo_tips 124 [.ref 139, .int x1, .int x2, .float 0, .int x4, .float 0, .float 0] [.int 0, .int x3] (ev_mk s3.1.2 s3.2.1 s3.2.2.1))
          else none))
      else
        ev_at d M_Mo_tips 124 [.ref 139, .int x1, .int x2, .float 0, .int x4, .float 0, .float 0] [.int 0, .int x3] (ev_mk s3.1.2 s3.2.1 s3.2.2.1)))) := 
  (ev_eq true (ev_call true d) M_Mo_tips 47 [.ref 139, .int x1, .int x2, .int x3, .int x4, .int x5, .int x6] [] (ev_mk h I L)).trans rfl
set_option maxRecDepth 100000 in
theorem e_Mo_tips_124 (d : Nat) (x1 x2 x4 y0 y1 : Int32) (h : Bool × Nat × Nat) (I : Nat → Nat → Int32) (L : Nat → Nat → Int64) : ev_at d M_Mo_tips 124 [.ref 139, .int x1, .int x2, .float 0, .int x4, .float 0, .float 0] [.int y0, .int y1] (ev_mk h I L) =
  ev_cI (ev_do d M_Mo_flag [.int y0] (ev_mk h I L)) (fun v2 s1 =>
    ev_at d M_Mo_tips 33 [.ref 139, .int x1, .int x2, .int (y1 + v2), .int (x4 + 1), .float 0, .float 0] [] (ev_mk s1.1.2 s1.2.1 s1.2.2.1)) := 
  (ev_eq true (ev_call true d) M_Mo_tips 124 [.ref 139, .int x1, .int x2, .float 0, .int x4, .float 0, .float 0] [.int y0, .int y1] (ev_mk h I L)).trans rfl
set_option maxRecDepth 100000 in
theorem e_Mo_undo_0 (d : Nat) (h : Bool × Nat × Nat) (I : Nat → Nat → Int32) (L : Nat → Nat → Int64) : ev_do (d + 1) M_Mo_undo [.ref 139] (ev_mk h I L) =
  (if (I 139 26) = 0 then
    ev_ri (-1) (ev_mk h (ev_up I 139 0 0) L)
  else
    ev_at d M_Mo_undo 26 [.ref 139, .int 0] [] (ev_mk h (ev_up (ev_up I 139 0 0) 139 26 ((I 139 26) - 1)) L)) := 
  (ev_eq true (ev_call true d) M_Mo_undo 0 [.ref 139, .float 0] [] (ev_mk h I L)).trans rfl
set_option maxRecDepth 100000 in
theorem e_Mo_undo_26 (d : Nat) (x1 : Int32) (h : Bool × Nat × Nat) (I : Nat → Nat → Int32) (L : Nat → Nat → Int64) : ev_at d M_Mo_undo 26 [.ref 139, .int x1] [] (ev_mk h I L) =
  (if x1 < 27 then
    (if ev_in ((27 * (I 139 26)) + x1) 432 then
      (if ev_in x1 27 then
        ev_at d M_Mo_undo 26 [.ref 139, .int (x1 + 1)] [] (ev_mk h (ev_up I 143 x1.toNatClampNeg (I 155 (((27 * (I 139 26)) + x1).toNatClampNeg))) L)
      else none)
    else none)
  else
    ev_ri (I 139 26) (ev_mk h I L)) := 
  (ev_eq true (ev_call true d) M_Mo_undo 26 [.ref 139, .int x1] [] (ev_mk h I L)).trans rfl
set_option maxRecDepth 100000 in
theorem e_Mo_unsaid_0 (d : Nat) {k1 : Nat} (hk1 : k1 = 143 ∨ k1 = 144) (h : Bool × Nat × Nat) (I : Nat → Nat → Int32) (L : Nat → Nat → Int64) : ev_do (d + 1) M_Mo_unsaid [.ref 139, .ref k1] (ev_mk h I L) =
  ev_at d M_Mo_unsaid 4 [.ref 139, .ref k1, .int 0, .int 0] [] (ev_mk h I L) := by
  rcases hk1 with rfl | rfl <;> exact (ev_eq true (ev_call true d) M_Mo_unsaid 0 _ _ (ev_mk h I L)).trans rfl
set_option maxRecDepth 100000 in
theorem e_Mo_unsaid_4 (d : Nat) (x2 x3 : Int32) {k1 : Nat} (hk1 : k1 = 143 ∨ k1 = 144) (h : Bool × Nat × Nat) (I : Nat → Nat → Int32) (L : Nat → Nat → Int64) : ev_at d M_Mo_unsaid 4 [.ref 139, .ref k1, .int x2, .int x3] [] (ev_mk h I L) =
  (if x3 < 8 then
    ev_cI (ev_do d M_Mo_signsOf [.ref 139, .ref k1, .int x3, .int 1] (ev_mk h I L)) (fun v2 s1 =>
      (if 0 < v2 then
        ev_at d M_Mo_unsaid 4 [.ref 139, .ref k1, .int (x2 ||| (1 <<< (x3 &&& 31))), .int (x3 + 1)] [] (ev_mk s1.1.2 s1.2.1 s1.2.2.1)
      else
        ev_at d M_Mo_unsaid 4 [.ref 139, .ref k1, .int (x2 ||| 0), .int (x3 + 1)] [] (ev_mk s1.1.2 s1.2.1 s1.2.2.1)))
  else
    ev_ri x2 (ev_mk h I L)) := by
  rcases hk1 with rfl | rfl <;> exact (ev_eq true (ev_call true d) M_Mo_unsaid 4 _ _ (ev_mk h I L)).trans rfl
set_option maxRecDepth 100000 in
theorem e_Mo_when_0 (d : Nat) (x1 : Int32) (h : Bool × Nat × Nat) (I : Nat → Nat → Int32) (L : Nat → Nat → Int64) : ev_do (d + 1) M_Mo_when [.ref 139, .int x1] (ev_mk h I L) =
  ev_cI (ev_do d M_Mo_isLetter [.int x1] (ev_mk h (ev_up I 139 0 0) L)) (fun v2 s1 =>
    (if v2 = 0 then
      ev_ri (-1) (ev_mk s1.1.2 s1.2.1 s1.2.2.1)
    else
      ev_cV (ev_do d M_Mo_copies [.ref 139] (ev_mk s1.1.2 s1.2.1 s1.2.2.1)) (fun s3 =>
        ev_at d M_Mo_when 26 [.ref 139, .int x1, .int (-2), .int 0, .int 1, .float 0] [] (ev_mk s3.1.2 s3.2.1 s3.2.2.1)))) := 
  (ev_eq true (ev_call true d) M_Mo_when 0 [.ref 139, .int x1, .float 0, .float 0, .float 0, .float 0] [] (ev_mk h I L)).trans rfl
set_option maxRecDepth 100000 in
theorem e_Mo_when_26 (d : Nat) (x1 x2 x3 x4 : Int32) (h : Bool × Nat × Nat) (I : Nat → Nat → Int32) (L : Nat → Nat → Int64) : ev_at d M_Mo_when 26 [.ref 139, .int x1, .int x2, .int x3, .int x4, .float 0] [] (ev_mk h I L) =
  (if 99 < x4 then
    (if 0 < x3 then
      ev_cV (ev_do d M_Mo_enters [.ref 139, .long x3.toInt64] (ev_mk h (ev_up I 139 1 0) L)) (fun s1 =>
        ev_ri x2 (ev_mk s1.1.2 s1.2.1 s1.2.2.1))
    else
      ev_ri x2 (ev_mk h I L))
  else
    ev_cI (ev_do d M_Mo_dayGoes [.ref 139, .ref 144] (ev_mk h I L)) (fun v3 s2 =>
      ev_cI (ev_do d M_Mo_has [.int (s2.2.1 144 24), .int x1] (ev_mk s2.1.2 s2.2.1 s2.2.2.1)) (fun v5 s4 =>
        (if v5 = 0 then
          ev_at d M_Mo_when 70 [.ref 139, .int x1, .float 0, .int x3, .int x4, .int v5] [.int x2] (ev_mk s4.1.2 s4.2.1 s4.2.2.1)
        else
          (if x3 = 0 then
            ev_at d M_Mo_when 70 [.ref 139, .int x1, .float 0, .int x3, .int x4, .int v5] [.int x4] (ev_mk s4.1.2 s4.2.1 s4.2.2.1)
          else
            ev_at d M_Mo_when 70 [.ref 139, .int x1, .float 0, .int x3, .int x4, .int v5] [.int x2] (ev_mk s4.1.2 s4.2.1 s4.2.2.1)))))) := 
  (ev_eq true (ev_call true d) M_Mo_when 26 [.ref 139, .int x1, .int x2, .int x3, .int x4, .float 0] [] (ev_mk h I L)).trans rfl
set_option maxRecDepth 100000 in
theorem e_Mo_when_70 (d : Nat) (x1 x3 x4 x5 y0 : Int32) (h : Bool × Nat × Nat) (I : Nat → Nat → Int32) (L : Nat → Nat → Int64) : ev_at d M_Mo_when 70 [.ref 139, .int x1, .float 0, .int x3, .int x4, .int x5] [.int y0] (ev_mk h I L) =
  ev_cI (ev_do d M_Mo_flag [.int x5] (ev_mk h I L)) (fun v2 s1 =>
    ev_at d M_Mo_when 26 [.ref 139, .int x1, .int y0, .int (x3 + v2), .int (x4 + 1), .float 0] [] (ev_mk s1.1.2 s1.2.1 s1.2.2.1)) := 
  (ev_eq true (ev_call true d) M_Mo_when 70 [.ref 139, .int x1, .float 0, .int x3, .int x4, .int x5] [.int y0] (ev_mk h I L)).trans rfl
set_option maxRecDepth 100000 in
theorem e_Mo_word_0 (d : Nat) (x1 x2 : Int32) (h : Bool × Nat × Nat) (I : Nat → Nat → Int32) (L : Nat → Nat → Int64) : ev_do (d + 1) M_Mo_word [.ref 139, .int x1, .int x2] (ev_mk h I L) =
  ev_cI (ev_do d M_Mo_isWord [.ref 139, .int x1] (ev_mk h (ev_up I 139 0 0) L)) (fun v2 s1 =>
    (if v2 = 0 then
      ev_cI (ev_do d M_Mo_refuse [.ref 139] (ev_mk s1.1.2 s1.2.1 s1.2.2.1)) (fun v4 s3 =>
        ev_ri v4 (ev_mk s3.1.2 s3.2.1 s3.2.2.1))
    else
      ev_cI (ev_do d M_Mo_in [.long x2.toInt64, .long 0, .long 4] (ev_mk s1.1.2 s1.2.1 s1.2.2.1)) (fun v6 s5 =>
        (if v6 = 0 then
          ev_cI (ev_do d M_Mo_refuse [.ref 139] (ev_mk s5.1.2 s5.2.1 s5.2.2.1)) (fun v8 s7 =>
            ev_ri v8 (ev_mk s7.1.2 s7.2.1 s7.2.2.1))
        else
          ev_at d M_Mo_word 41 [.ref 139, .int x1, .int x2, .int 0, .int 0, .int 0, .int 0, .float 0] [] (ev_mk s5.1.2 s5.2.1 s5.2.2.1))))) := 
  (ev_eq true (ev_call true d) M_Mo_word 0 [.ref 139, .int x1, .int x2, .float 0, .float 0, .float 0, .float 0, .float 0] [] (ev_mk h I L)).trans rfl
set_option maxRecDepth 100000 in
theorem e_Mo_word_41 (d : Nat) (x1 x2 x3 x4 x5 x6 : Int32) (h : Bool × Nat × Nat) (I : Nat → Nat → Int32) (L : Nat → Nat → Int64) : ev_at d M_Mo_word 41 [.ref 139, .int x1, .int x2, .int x3, .int x4, .int x5, .int x6, .float 0] [] (ev_mk h I L) =
  (if ev_in x1 8 then
    (if x6 < (I 142 x1.toNatClampNeg) then
      (if ev_in ((8 * x1) + x6) 64 then
        (if ev_in x1 27 then
          ev_cI (ev_do d M_Mo_has [.int (I 143 x1.toNatClampNeg), .int x6] (ev_mk h I L)) (fun v2 s1 =>
            (if v2 = 0 then
              ev_at d M_Mo_word 41 [.ref 139, .int x1, .int x2, .int (x3 ||| (1 <<< ((I 141 (((8 * x1) + x6).toNatClampNeg)) &&& 31))), .int (x4 ||| 0), .int x5, .int (x6 + 1), .float 0] [] (ev_mk s1.1.2 s1.2.1 s1.2.2.1)
            else
              ev_at d M_Mo_word 41 [.ref 139, .int x1, .int x2, .int (x3 ||| (1 <<< ((I 141 (((8 * x1) + x6).toNatClampNeg)) &&& 31))), .int (x4 ||| (1 <<< ((I 141 (((8 * x1) + x6).toNatClampNeg)) &&& 31))), .int x5, .int (x6 + 1), .float 0] [] (ev_mk s1.1.2 s1.2.1 s1.2.2.1)))
        else none)
      else none)
    else
      ev_at d M_Mo_word 109 [.ref 139, .int x1, .int x2, .int x3, .int x4, .int x5, .int 0, .float 0] [] (ev_mk h I L))
  else none) := 
  (ev_eq true (ev_call true d) M_Mo_word 41 [.ref 139, .int x1, .int x2, .int x3, .int x4, .int x5, .int x6, .float 0] [] (ev_mk h I L)).trans rfl
set_option maxRecDepth 100000 in
theorem e_Mo_word_109 (d : Nat) (x1 x2 x3 x4 x5 x6 : Int32) (h : Bool × Nat × Nat) (I : Nat → Nat → Int32) (L : Nat → Nat → Int64) : ev_at d M_Mo_word 109 [.ref 139, .int x1, .int x2, .int x3, .int x4, .int x5, .int x6, .float 0] [] (ev_mk h I L) =
  (if x6 < (I 139 3) then
    (if x6 = x1 then
      ev_at d M_Mo_word 109 [.ref 139, .int x1, .int x2, .int x3, .int x4, .int (x5 ||| 0), .int (x6 + 1), .float 0] [] (ev_mk h I L)
    else
      ev_cI (ev_do d M_Mo_isOneBy [.ref 139, .ref 143, .int x1, .int x6, .int (I 143 24)] (ev_mk h I L)) (fun v2 s1 =>
        (if v2 = 0 then
          ev_at d M_Mo_word 109 [.ref 139, .int x1, .int x2, .int x3, .int x4, .int (x5 ||| 0), .int (x6 + 1), .float 0] [] (ev_mk s1.1.2 s1.2.1 s1.2.2.1)
        else
          ev_at d M_Mo_word 109 [.ref 139, .int x1, .int x2, .int x3, .int x4, .int (x5 ||| (1 <<< (x6 &&& 31))), .int (x6 + 1), .float 0] [] (ev_mk s1.1.2 s1.2.1 s1.2.2.1))))
  else
    (if x2 = 0 then
      (if ev_in x1 8 then
        ev_ri (I 142 x1.toNatClampNeg) (ev_mk h I L)
      else none)
    else (if x2 = 1 then
      (if ev_in x1 27 then
        ev_cI (ev_do d M_Mo_lays [.ref 139, .ref 153, .int x1, .int (I 143 x1.toNatClampNeg), .int (I 143 24)] (ev_mk h I L)) (fun v4 s3 =>
          ev_ri v4 (ev_mk s3.1.2 s3.2.1 s3.2.2.1))
      else none)
    else (if x2 = 2 then
      ev_ri x3 (ev_mk h I L)
    else (if x2 = 3 then
      ev_ri x4 (ev_mk h I L)
    else ev_ri x5 (ev_mk h I L)))))) := 
  (ev_eq true (ev_call true d) M_Mo_word 109 [.ref 139, .int x1, .int x2, .int x3, .int x4, .int x5, .int x6, .float 0] [] (ev_mk h I L)).trans rfl
set_option maxRecDepth 100000 in
theorem e_Mo_words_0 (d : Nat) (h : Bool × Nat × Nat) (I : Nat → Nat → Int32) (L : Nat → Nat → Int64) : ev_do (d + 1) M_Mo_words [.ref 139] (ev_mk h I L) =
  ev_cI (ev_do d M_Mo_begins [.ref 139, .int 79] (ev_mk h (ev_up I 139 0 0) L)) (fun v2 s1 =>
    (if 0 < v2 then
      ev_at d M_Mo_words 29 [.ref 139, .int v2, .int 1, .int 1, .float 0, .float 0, .float 0] [] (ev_mk s1.1.2 (ev_up s1.2.1 139 17 0) s1.2.2.1)
    else
      ev_at d M_Mo_words 29 [.ref 139, .int v2, .int 1, .int 0, .float 0, .float 0, .float 0] [] (ev_mk s1.1.2 (ev_up s1.2.1 139 17 0) s1.2.2.1))) := 
  (ev_eq true (ev_call true d) M_Mo_words 0 [.ref 139, .float 0, .float 0, .float 0, .float 0, .float 0, .float 0] [] (ev_mk h I L)).trans rfl
set_option maxRecDepth 100000 in
theorem e_Mo_words_29 (d : Nat) (x1 x2 x3 : Int32) (h : Bool × Nat × Nat) (I : Nat → Nat → Int32) (L : Nat → Nat → Int64) : ev_at d M_Mo_words 29 [.ref 139, .int x1, .int x2, .int x3, .float 0, .float 0, .float 0] [] (ev_mk h I L) =
  (if x3 = 0 then
    ev_cI (ev_do d M_Mo_faultOf [.ref 139, .int x1, .int 79, .int x2] (ev_mk h I L)) (fun v2 s1 =>
      (if v2 < 0 then
        ev_ri v2 (ev_mk s1.1.2 s1.2.1 s1.2.2.1)
      else
        ev_at d M_Mo_words 81 [.ref 139, .float 0, .float 0, .float 0, .float 0, .int 0, .float 0] [] (ev_mk s1.1.2 s1.2.1 s1.2.2.1)))
  else
    ev_cI (ev_do d M_Mo_readsWord [.ref 139] (ev_mk h I L)) (fun v4 s3 =>
      (if v4 = 0 then
        ev_at d M_Mo_words 29 [.ref 139, .int x1, .int v4, .int 0, .float 0, .float 0, .float 0] [] (ev_mk s3.1.2 s3.2.1 s3.2.2.1)
      else
        ev_cI (ev_do d M_Mo_takes [.ref 139, .int 59] (ev_mk s3.1.2 s3.2.1 s3.2.2.1)) (fun v6 s5 =>
          (if v6 = 0 then
            ev_at d M_Mo_words 29 [.ref 139, .int x1, .int v4, .int 0, .float 0, .float 0, .float 0] [] (ev_mk s5.1.2 s5.2.1 s5.2.2.1)
          else
            ev_at d M_Mo_words 29 [.ref 139, .int x1, .int v4, .int 1, .float 0, .float 0, .float 0] [] (ev_mk s5.1.2 s5.2.1 s5.2.2.1)))))) := 
  (ev_eq true (ev_call true d) M_Mo_words 29 [.ref 139, .int x1, .int x2, .int x3, .float 0, .float 0, .float 0] [] (ev_mk h I L)).trans rfl
set_option maxRecDepth 100000 in
theorem e_Mo_words_81 (d : Nat) (x5 : Int32) (h : Bool × Nat × Nat) (I : Nat → Nat → Int32) (L : Nat → Nat → Int64) : ev_at d M_Mo_words 81 [.ref 139, .float 0, .float 0, .float 0, .float 0, .int x5, .float 0] [] (ev_mk h I L) =
  (if x5 < (I 139 17) then
    ev_at d M_Mo_words 93 [.ref 139, .float 0, .float 0, .float 0, .float 0, .int x5, .int 0] [] (ev_mk h I L)
  else
    (if 0 < (I 139 17) then
      ev_ri (I 139 17) (ev_mk h (ev_up (ev_up I 139 26 0) 139 4 ((I 139 4) + 1)) L)
    else
      ev_ri (I 139 17) (ev_mk h I L))) := 
  (ev_eq true (ev_call true d) M_Mo_words 81 [.ref 139, .float 0, .float 0, .float 0, .float 0, .int x5, .float 0] [] (ev_mk h I L)).trans rfl
set_option maxRecDepth 100000 in
theorem e_Mo_words_93 (d : Nat) (x5 x6 : Int32) (h : Bool × Nat × Nat) (I : Nat → Nat → Int32) (L : Nat → Nat → Int64) : ev_at d M_Mo_words 93 [.ref 139, .float 0, .float 0, .float 0, .float 0, .int x5, .int x6] [] (ev_mk h I L) =
  (if ev_in x5 8 then
    (if x6 < (I 147 x5.toNatClampNeg) then
      (if ev_in ((8 * x5) + x6) 64 then
        (if ev_in ((8 * (I 139 3)) + x6) 64 then
          ev_at d M_Mo_words 93 [.ref 139, .float 0, .float 0, .float 0, .float 0, .int x5, .int (x6 + 1)] [] (ev_mk h (ev_up I 141 (((8 * (I 139 3)) + x6).toNatClampNeg) (I 146 (((8 * x5) + x6).toNatClampNeg))) L)
        else none)
      else none)
    else
      (if ev_in x5 8 then
        (if ev_in (I 139 3) 8 then
          (if ev_in x5 8 then
            (if ev_in (I 139 3) 27 then
              ev_at d M_Mo_words 81 [.ref 139, .float 0, .float 0, .float 0, .float 0, .int (x5 + 1), .float 0] [] (ev_mk h (ev_up (ev_up (ev_up I 142 ((I 139 3).toNatClampNeg) (I 147 x5.toNatClampNeg)) 143 ((I 139 3).toNatClampNeg) (I 148 x5.toNatClampNeg)) 139 3 ((I 139 3) + 1)) L)
            else none)
          else none)
        else none)
      else none))
  else none) := 
  (ev_eq true (ev_call true d) M_Mo_words 93 [.ref 139, .float 0, .float 0, .float 0, .float 0, .int x5, .int x6] [] (ev_mk h I L)).trans rfl
set_option maxRecDepth 100000 in
theorem e_Mo_worked_0 (d : Nat) (x0 x1 x2 : Int32) (h : Bool × Nat × Nat) (I : Nat → Nat → Int32) (L : Nat → Nat → Int64) : ev_do (d + 1) M_Mo_worked [.int x0, .int x1, .int x2] (ev_mk h I L) =
  (if x0 = 0 then
    (if x1 < x2 then
      ev_cI (ev_do d M_Mo_flag [.int 1] (ev_mk h I L)) (fun v2 s1 =>
        ev_ri v2 (ev_mk s1.1.2 s1.2.1 s1.2.2.1))
    else
      ev_cI (ev_do d M_Mo_flag [.int 0] (ev_mk h I L)) (fun v4 s3 =>
        ev_ri v4 (ev_mk s3.1.2 s3.2.1 s3.2.2.1)))
  else (if x0 = 1 then
    (if x2 < x1 then
      ev_cI (ev_do d M_Mo_flag [.int 1] (ev_mk h I L)) (fun v6 s5 =>
        ev_ri v6 (ev_mk s5.1.2 s5.2.1 s5.2.2.1))
    else
      ev_cI (ev_do d M_Mo_flag [.int 0] (ev_mk h I L)) (fun v8 s7 =>
        ev_ri v8 (ev_mk s7.1.2 s7.2.1 s7.2.2.1)))
  else (if x0 = 2 then
    (if x1 = x2 then
      ev_cI (ev_do d M_Mo_flag [.int 1] (ev_mk h I L)) (fun v10 s9 =>
        ev_ri v10 (ev_mk s9.1.2 s9.2.1 s9.2.2.1))
    else
      ev_cI (ev_do d M_Mo_flag [.int 0] (ev_mk h I L)) (fun v12 s11 =>
        ev_ri v12 (ev_mk s11.1.2 s11.2.1 s11.2.2.1)))
  else (if x0 = 3 then
    ev_ri (x1 + x2) (ev_mk h I L)
  else (if x0 = 4 then
    ev_ri (x1 - x2) (ev_mk h I L)
  else (if x0 = 5 then
    ev_ri (x1 * x2) (ev_mk h I L)
  else (if x2 = 0 then
      ev_ri 0 (ev_mk h I L)
    else
      (if x2 = 0 then
        none
      else
        ev_ri (x1 / x2) (ev_mk h I L))))))))) := 
  (ev_eq true (ev_call true d) M_Mo_worked 0 [.int x0, .int x1, .int x2] [] (ev_mk h I L)).trans rfl
set_option maxRecDepth 100000 in
theorem e_Mo_year_0 (d : Nat) (h : Bool × Nat × Nat) (I : Nat → Nat → Int32) (L : Nat → Nat → Int64) : ev_do (d + 1) M_Mo_year [.ref 139] (ev_mk h I L) =
  ev_cI (ev_do d M_Mo_begins [.ref 139, .int 60] (ev_mk h (ev_up I 139 0 0) L)) (fun v2 s1 =>
    ev_at d M_Mo_year 19 [.ref 139, .int v2, .int 1, .float 0, .float 0] [] (ev_mk s1.1.2 (ev_up s1.2.1 139 31 0) s1.2.2.1)) := 
  (ev_eq true (ev_call true d) M_Mo_year 0 [.ref 139, .float 0, .float 0, .float 0, .float 0] [] (ev_mk h I L)).trans rfl
set_option maxRecDepth 100000 in
theorem e_Mo_year_19 (d : Nat) (x1 x2 : Int32) (h : Bool × Nat × Nat) (I : Nat → Nat → Int32) (L : Nat → Nat → Int64) : ev_at d M_Mo_year 19 [.ref 139, .int x1, .int x2, .float 0, .float 0] [] (ev_mk h I L) =
  (if x2 = 0 then
    ev_at d M_Mo_year 42 [.ref 139, .int x1, .int x2, .float 0, .float 0] [] (ev_mk h I L)
  else
    (if (I 139 11) < (I 139 12) then
      ev_cI (ev_do d M_Mo_readsAct [.ref 139] (ev_mk h I L)) (fun v2 s1 =>
        ev_at d M_Mo_year 19 [.ref 139, .int x1, .int v2, .float 0, .float 0] [] (ev_mk s1.1.2 s1.2.1 s1.2.2.1))
    else
      ev_at d M_Mo_year 42 [.ref 139, .int x1, .int x2, .float 0, .float 0] [] (ev_mk h I L))) := 
  (ev_eq true (ev_call true d) M_Mo_year 19 [.ref 139, .int x1, .int x2, .float 0, .float 0] [] (ev_mk h I L)).trans rfl
set_option maxRecDepth 100000 in
theorem e_Mo_year_42 (d : Nat) (x1 x2 : Int32) (h : Bool × Nat × Nat) (I : Nat → Nat → Int32) (L : Nat → Nat → Int64) : ev_at d M_Mo_year 42 [.ref 139, .int x1, .int x2, .float 0, .float 0] [] (ev_mk h I L) =
  ev_cI (ev_do d M_Mo_faultOf [.ref 139, .int x1, .int 60, .int x2] (ev_mk h I L)) (fun v2 s1 =>
    (if v2 < 0 then
      ev_ri v2 (ev_mk s1.1.2 s1.2.1 s1.2.2.1)
    else
      ev_cV (ev_do d M_Mo_putsBy [.ref 139] (ev_mk s1.1.2 s1.2.1 s1.2.2.1)) (fun s3 =>
        ev_at d M_Mo_year 64 [.ref 139, .float 0, .float 0, .float 0, .int 0] [] (ev_mk s3.1.2 s3.2.1 s3.2.2.1)))) := 
  (ev_eq true (ev_call true d) M_Mo_year 42 [.ref 139, .int x1, .int x2, .float 0, .float 0] [] (ev_mk h I L)).trans rfl
set_option maxRecDepth 100000 in
theorem e_Mo_year_64 (d : Nat) (x4 : Int32) (h : Bool × Nat × Nat) (I : Nat → Nat → Int32) (L : Nat → Nat → Int64) : ev_at d M_Mo_year 64 [.ref 139, .float 0, .float 0, .float 0, .int x4] [] (ev_mk h I L) =
  (if x4 < (I 139 31) then
    ev_cI (ev_do d M_Mo_does [.ref 139, .int x4] (ev_mk h I L)) (fun v2 s1 =>
      (if v2 = 0 then
        ev_at d M_Mo_year 88 [.ref 139, .float 0, .float 0, .float 0, .int x4] [] (ev_mk s1.1.2 s1.2.1 s1.2.2.1)
      else
        ev_at d M_Mo_year 64 [.ref 139, .float 0, .float 0, .float 0, .int (x4 + 1)] [] (ev_mk s1.1.2 s1.2.1 s1.2.2.1)))
  else
    ev_at d M_Mo_year 88 [.ref 139, .float 0, .float 0, .float 0, .int x4] [] (ev_mk h I L)) := 
  (ev_eq true (ev_call true d) M_Mo_year 64 [.ref 139, .float 0, .float 0, .float 0, .int x4] [] (ev_mk h I L)).trans rfl
set_option maxRecDepth 100000 in
theorem e_Mo_year_88 (d : Nat) (x4 : Int32) (h : Bool × Nat × Nat) (I : Nat → Nat → Int32) (L : Nat → Nat → Int64) : ev_at d M_Mo_year 88 [.ref 139, .float 0, .float 0, .float 0, .int x4] [] (ev_mk h I L) =
  (if x4 < (I 139 31) then
    ev_at d M_Mo_year 108 [.ref 139, .float 0, .float 0, .float 0, .int x4] [.int 1, .ref 139] (ev_mk h (ev_up I 139 1 0) L)
  else
    ev_at d M_Mo_year 108 [.ref 139, .float 0, .float 0, .float 0, .int x4] [.int 0, .ref 139] (ev_mk h (ev_up I 139 1 0) L)) := 
  (ev_eq true (ev_call true d) M_Mo_year 88 [.ref 139, .float 0, .float 0, .float 0, .int x4] [] (ev_mk h I L)).trans rfl
set_option maxRecDepth 100000 in
theorem e_Mo_year_108 (d : Nat) (x4 y0 : Int32) (h : Bool × Nat × Nat) (I : Nat → Nat → Int32) (L : Nat → Nat → Int64) : ev_at d M_Mo_year 108 [.ref 139, .float 0, .float 0, .float 0, .int x4] [.int y0, .ref 139] (ev_mk h I L) =
  ev_cI (ev_do d M_Mo_flag [.int y0] (ev_mk h I L)) (fun v2 s1 =>
    ev_cV (ev_do d M_Mo_enters [.ref 139, .long v2.toInt64] (ev_mk s1.1.2 s1.2.1 s1.2.2.1)) (fun s3 =>
      ev_cV (ev_do d M_Mo_enters [.ref 139, .long ((s3.2.1 143 24).toInt64)] (ev_mk s3.1.2 s3.2.1 s3.2.2.1)) (fun s4 =>
        (if 0 < x4 then
          ev_cI (ev_do d M_Mo_adds [.ref 139, .int x4] (ev_mk s4.1.2 s4.2.1 s4.2.2.1)) (fun v6 s5 =>
            ev_ri v6 (ev_mk s5.1.2 s5.2.1 s5.2.2.1))
        else
          ev_ri 0 (ev_mk s4.1.2 s4.2.1 s4.2.2.1))))) := 
  (ev_eq true (ev_call true d) M_Mo_year 108 [.ref 139, .float 0, .float 0, .float 0, .int x4] [.int y0, .ref 139] (ev_mk h I L)).trans rfl
set_option maxRecDepth 100000 in
theorem e_Mo_years_0 (d : Nat) (x1 x2 : Int32) (h : Bool × Nat × Nat) (I : Nat → Nat → Int32) (L : Nat → Nat → Int64) : ev_do (d + 1) M_Mo_years [.ref 139, .int x1, .int x2] (ev_mk h I L) =
  ev_cI (ev_do d M_Mo_in [.long x2.toInt64, .long 1, .long 60] (ev_mk h (ev_up I 139 0 0) L)) (fun v2 s1 =>
    (if v2 = 0 then
      ev_ri (-1) (ev_mk s1.1.2 s1.2.1 s1.2.2.1)
    else
      ev_cV (ev_do d M_Mo_copies [.ref 139] (ev_mk s1.1.2 (ev_up s1.2.1 139 45 x1) s1.2.2.1)) (fun s3 =>
        ev_at d M_Mo_years 33 [.ref 139, .float 0, .int x2, .int 0, .int 0, .float 0, .float 0] [] (ev_mk s3.1.2 s3.2.1 s3.2.2.1)))) := 
  (ev_eq true (ev_call true d) M_Mo_years 0 [.ref 139, .int x1, .int x2, .float 0, .float 0, .float 0, .float 0] [] (ev_mk h I L)).trans rfl
set_option maxRecDepth 100000 in
theorem e_Mo_years_33 (d : Nat) (x2 x3 x4 : Int32) (h : Bool × Nat × Nat) (I : Nat → Nat → Int32) (L : Nat → Nat → Int64) : ev_at d M_Mo_years 33 [.ref 139, .float 0, .int x2, .int x3, .int x4, .float 0, .float 0] [] (ev_mk h I L) =
  (if x4 < x2 then
    ev_cI (ev_do d M_Mo_draws [.ref 139, .int 4] (ev_mk h I L)) (fun v2 s1 =>
      (if v2 < 2 then
        ev_cI (ev_do d M_Mo_dayGoes [.ref 139, .ref 144] (ev_mk s1.1.2 s1.2.1 s1.2.2.1)) (fun v4 s3 =>
          ev_at d M_Mo_years 33 [.ref 139, .float 0, .int x2, .int (x3 + v4), .int (x4 + 1), .float 0, .float 0] [] (ev_mk s3.1.2 s3.2.1 s3.2.2.1))
      else
        (if v2 = 2 then
          ev_cI (ev_do d M_Mo_draws [.ref 139, .int 8] (ev_mk s1.1.2 s1.2.1 s1.2.2.1)) (fun v6 s5 =>
            ev_cI (ev_do d M_Mo_draws [.ref 139, .int 10] (ev_mk s5.1.2 s5.2.1 s5.2.2.1)) (fun v8 s7 =>
              ev_cI (ev_do d M_Mo_offers [.ref 139, .ref 144, .int v6, .int v8] (ev_mk s7.1.2 s7.2.1 s7.2.2.1)) (fun v10 s9 =>
                ev_at d M_Mo_years 33 [.ref 139, .float 0, .int x2, .int x3, .int (x4 + 1), .float 0, .float 0] [] (ev_mk s9.1.2 s9.2.1 s9.2.2.1))))
        else
          (if 0 < (s1.2.1 139 3) then
            ev_cI (ev_do d M_Mo_draws [.ref 139, .int (s1.2.1 139 3)] (ev_mk s1.1.2 s1.2.1 s1.2.2.1)) (fun v12 s11 =>
              (if ev_in v12 8 then
                ev_cI (ev_do d M_Mo_draws [.ref 139, .int (s11.2.1 142 v12.toNatClampNeg)] (ev_mk s11.1.2 s11.2.1 s11.2.2.1)) (fun v14 s13 =>
                  ev_cI (ev_do d M_Mo_mutesOne [.ref 139, .ref 144, .int v12, .int v14] (ev_mk s13.1.2 s13.2.1 s13.2.2.1)) (fun v16 s15 =>
                    ev_at d M_Mo_years 33 [.ref 139, .float 0, .int x2, .int x3, .int (x4 + 1), .float 0, .float 0] [] (ev_mk s15.1.2 s15.2.1 s15.2.2.1)))
              else none))
          else
            ev_at d M_Mo_years 33 [.ref 139, .float 0, .int x2, .int x3, .int (x4 + 1), .float 0, .float 0] [] (ev_mk s1.1.2 s1.2.1 s1.2.2.1)))))
  else
    ev_cV (ev_do d M_Mo_enters [.ref 139, .long ((I 144 24).toInt64)] (ev_mk h (ev_up I 139 1 0) L)) (fun s17 =>
      ev_cI (ev_do d M_Mo_sumOf [.ref 144, .int 8] (ev_mk s17.1.2 s17.2.1 s17.2.2.1)) (fun v19 s18 =>
        ev_cV (ev_do d M_Mo_enters [.ref 139, .long v19.toInt64] (ev_mk s18.1.2 s18.2.1 s18.2.2.1)) (fun s20 =>
          ev_ri x3 (ev_mk s20.1.2 s20.2.1 s20.2.2.1))))) := 
  (ev_eq true (ev_call true d) M_Mo_years 33 [.ref 139, .float 0, .int x2, .int x3, .int x4, .float 0, .float 0] [] (ev_mk h I L)).trans rfl
