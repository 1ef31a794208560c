set_option maxRecDepth 100000 in
theorem e_Acts_canStand_0 (d : Nat) (x0 x1 x2 : Int32) (h : Bool × Nat × Nat) (I : Nat → Nat → Int32) (L : Nat → Nat → Int64) : ev_do (d + 1) M_Acts_canStand [.int x0, .int x1, .int x2] (ev_mk h I L) =
  (if x1 = 0 then
    ev_cI (ev_do d M_Acts_lengthOf [.int x2] (ev_mk h I L)) (fun v2 s1 =>
      (if 0 < v2 then
        ev_ri 1 (ev_mk s1.1.2 s1.2.1 s1.2.2.1)
      else
        ev_ri 0 (ev_mk s1.1.2 s1.2.1 s1.2.2.1)))
  else
    (if x1 = 1 then
      (if x0 = 110 then
        ev_at d M_Acts_canStand 52 [.int x0, .float 0, .int x2, .float 0] [] (ev_mk h I L)
      else
        (if x0 = 120 then
          ev_at d M_Acts_canStand 52 [.int x0, .float 0, .int x2, .float 0] [] (ev_mk h I L)
        else
          (if x2 < 97 then
            ev_ri 0 (ev_mk h I L)
          else
            (if 104 < x2 then
              ev_ri 0 (ev_mk h I L)
            else
              ev_ri 1 (ev_mk h I L)))))
    else
      ev_at d M_Acts_canStand 52 [.int x0, .float 0, .int x2, .float 0] [] (ev_mk h I L))) := 
  (ev_eq true (ev_call true d) M_Acts_canStand 0 [.int x0, .int x1, .int x2, .float 0] [] (ev_mk h I L)).trans rfl
set_option maxRecDepth 100000 in
theorem e_Acts_canStand_52 (d : Nat) (x0 x2 : Int32) (h : Bool × Nat × Nat) (I : Nat → Nat → Int32) (L : Nat → Nat → Int64) : ev_at d M_Acts_canStand 52 [.int x0, .float 0, .int x2, .float 0] [] (ev_mk h I L) =
  (if x0 = 114 then
    ev_at d M_Acts_canStand 71 [.float 0, .float 0, .int x2, .float 0] [.int 49] (ev_mk h I L)
  else
    (if x0 = 113 then
      ev_at d M_Acts_canStand 71 [.float 0, .float 0, .int x2, .float 0] [.int 49] (ev_mk h I L)
    else
      ev_at d M_Acts_canStand 71 [.float 0, .float 0, .int x2, .float 0] [.int 48] (ev_mk h I L))) := 
  (ev_eq true (ev_call true d) M_Acts_canStand 52 [.int x0, .float 0, .int x2, .float 0] [] (ev_mk h I L)).trans rfl
set_option maxRecDepth 100000 in
theorem e_Acts_canStand_71 (d : Nat) (x2 y0 : Int32) (h : Bool × Nat × Nat) (I : Nat → Nat → Int32) (L : Nat → Nat → Int64) : ev_at d M_Acts_canStand 71 [.float 0, .float 0, .int x2, .float 0] [.int y0] (ev_mk h I L) =
  (if x2 < y0 then
    ev_ri 0 (ev_mk h I L)
  else
    (if 57 < x2 then
      ev_ri 0 (ev_mk h I L)
    else
      ev_ri 1 (ev_mk h I L))) := 
  (ev_eq true (ev_call true d) M_Acts_canStand 71 [.float 0, .float 0, .int x2, .float 0] [.int y0] (ev_mk h I L)).trans rfl
set_option maxRecDepth 100000 in
theorem e_Acts_faultIn_0 (d : Nat) (h : Bool × Nat × Nat) (I : Nat → Nat → Int32) (L : Nat → Nat → Int64) : ev_do (d + 1) M_Acts_faultIn [.ref 1] (ev_mk h I L) =
  ev_at d M_Acts_faultIn 18 [.ref 1, .int (if 60 < (I 1 1) then 60 else (I 1 1)), .int 110, .int 0, .int 0, .float 0] [] (ev_mk h I L) := 
  (ev_eq true (ev_call true d) M_Acts_faultIn 0 [.ref 1, .float 0, .float 0, .float 0, .float 0, .float 0] [] (ev_mk h I L)).trans rfl
set_option maxRecDepth 100000 in
theorem e_Acts_faultIn_18 (d : Nat) (x1 x2 x3 x4 : Int32) (h : Bool × Nat × Nat) (I : Nat → Nat → Int32) (L : Nat → Nat → Int64) : ev_at d M_Acts_faultIn 18 [.ref 1, .int x1, .int x2, .int x3, .int x4, .float 0] [] (ev_mk h I L) =
  (if x4 < x1 then
    ev_cI (ev_do d M_Text_signAt [.ref 1, .int x4] (ev_mk h I L)) (fun v2 s1 =>
      (if x3 = 0 then
        ev_at d M_Acts_faultIn 42 [.ref 1, .int x1, .float 0, .int x3, .int x4, .int v2] [.int v2] (ev_mk s1.1.2 s1.2.1 s1.2.2.1)
      else
        ev_at d M_Acts_faultIn 42 [.ref 1, .int x1, .float 0, .int x3, .int x4, .int v2] [.int x2] (ev_mk s1.1.2 s1.2.1 s1.2.2.1)))
  else
    (if 60 < (I 1 1) then
      ev_ri x1 (ev_mk h I L)
    else
      (if 0 < x3 then
        ev_ri x1 (ev_mk h I L)
      else
        ev_ri (-1) (ev_mk h I L)))) := 
  (ev_eq true (ev_call true d) M_Acts_faultIn 18 [.ref 1, .int x1, .int x2, .int x3, .int x4, .float 0] [] (ev_mk h I L)).trans rfl
set_option maxRecDepth 100000 in
theorem e_Acts_faultIn_42 (d : Nat) (x1 x3 x4 x5 y0 : Int32) (h : Bool × Nat × Nat) (I : Nat → Nat → Int32) (L : Nat → Nat → Int64) : ev_at d M_Acts_faultIn 42 [.ref 1, .int x1, .float 0, .int x3, .int x4, .int x5] [.int y0] (ev_mk h I L) =
  ev_cI (ev_do d M_Acts_canStand [.int y0, .int x3, .int x5] (ev_mk h I L)) (fun v2 s1 =>
    (if v2 = 0 then
      ev_ri x4 (ev_mk s1.1.2 s1.2.1 s1.2.2.1)
    else
      ev_cI (ev_do d M_Acts_lengthOf [.int y0] (ev_mk s1.1.2 s1.2.1 s1.2.2.1)) (fun v4 s3 =>
        (if (x3 + 1) = v4 then
          ev_at d M_Acts_faultIn 18 [.ref 1, .int x1, .int y0, .int 0, .int (x4 + 1), .float 0] [] (ev_mk s3.1.2 s3.2.1 s3.2.2.1)
        else
          ev_at d M_Acts_faultIn 18 [.ref 1, .int x1, .int y0, .int (x3 + 1), .int (x4 + 1), .float 0] [] (ev_mk s3.1.2 s3.2.1 s3.2.2.1))))) := 
  (ev_eq true (ev_call true d) M_Acts_faultIn 42 [.ref 1, .int x1, .float 0, .int x3, .int x4, .int x5] [.int y0] (ev_mk h I L)).trans rfl
set_option maxRecDepth 100000 in
theorem e_Acts_lengthOf_0 (d : Nat) (x0 : Int32) (h : Bool × Nat × Nat) (I : Nat → Nat → Int32) (L : Nat → Nat → Int64) : ev_do (d + 1) M_Acts_lengthOf [.int x0] (ev_mk h I L) =
  (if x0 = 110 then
    ev_ri 2 (ev_mk h I L)
  else (if x0 = 111 then
    ev_ri 3 (ev_mk h I L)
  else (if x0 = 112 then
    ev_ri 0 (ev_mk h I L)
  else (if x0 = 113 then
    ev_ri 3 (ev_mk h I L)
  else (if x0 = 114 then
    ev_ri 3 (ev_mk h I L)
  else (if x0 = 115 then
    ev_ri 0 (ev_mk h I L)
  else (if x0 = 116 then
    ev_ri 0 (ev_mk h I L)
  else (if x0 = 117 then
    ev_ri 0 (ev_mk h I L)
  else (if x0 = 118 then
    ev_ri 0 (ev_mk h I L)
  else (if x0 = 119 then
    ev_ri 0 (ev_mk h I L)
  else (if x0 = 120 then
    ev_ri 3 (ev_mk h I L)
  else ev_ri 0 (ev_mk h I L)))))))))))) := 
  (ev_eq true (ev_call true d) M_Acts_lengthOf 0 [.int x0] [] (ev_mk h I L)).trans rfl
set_option maxRecDepth 100000 in
theorem e_Arr_fill_0_v0 (d : Nat) (x1 : Int32) (h : Bool × Nat × Nat) (I : Nat → Nat → Int32) (L : Nat → Nat → Int64) : ev_do (d + 1) M_Arr_fill [.ref 134, .int x1] (ev_mk h I L) =
  ev_at d M_Arr_fill 5 [.ref 134, .int x1, .int 0, .int 64] [] (ev_mk h I L) := 
  (ev_eq true (ev_call true d) M_Arr_fill 0 [.ref 134, .int x1, .float 0, .float 0] [] (ev_mk h I L)).trans rfl
set_option maxRecDepth 100000 in
theorem e_Arr_fill_5_v0 (d : Nat) (x1 x2 x3 : Int32) (h : Bool × Nat × Nat) (I : Nat → Nat → Int32) (L : Nat → Nat → Int64) : ev_at d M_Arr_fill 5 [.ref 134, .int x1, .int x2, .int x3] [] (ev_mk h I L) =
  (if x2 < x3 then
    (if ev_in x2 64 then
      ev_at d M_Arr_fill 5 [.ref 134, .int x1, .int (x2 + 1), .int x3] [] (ev_mk h (ev_up I 134 x2.toNatClampNeg x1) L)
    else none)
  else
    ev_rn (ev_mk h I L)) := 
  (ev_eq true (ev_call true d) M_Arr_fill 5 [.ref 134, .int x1, .int x2, .int x3] [] (ev_mk h I L)).trans rfl
set_option maxRecDepth 100000 in
theorem e_Arr_fill_0_v1 (d : Nat) (x1 : Int32) {k0 : Nat} (hk0 : k0 = 19 ∨ k0 = 112 ∨ k0 = 113 ∨ k0 = 128) (h : Bool × Nat × Nat) (I : Nat → Nat → Int32) (L : Nat → Nat → Int64) : ev_do (d + 1) M_Arr_fill [.ref k0, .int x1] (ev_mk h I L) =
  ev_at d M_Arr_fill 5 [.ref k0, .int x1, .int 0, .int 8] [] (ev_mk h I L) := by
  rcases hk0 with rfl | rfl | rfl | rfl <;> exact (ev_eq true (ev_call true d) M_Arr_fill 0 _ _ (ev_mk h I L)).trans rfl
set_option maxRecDepth 100000 in
theorem e_Arr_fill_5_v1 (d : Nat) (x1 x2 x3 : Int32) {k0 : Nat} (hk0 : k0 = 19 ∨ k0 = 112 ∨ k0 = 113 ∨ k0 = 128) (h : Bool × Nat × Nat) (I : Nat → Nat → Int32) (L : Nat → Nat → Int64) : ev_at d M_Arr_fill 5 [.ref k0, .int x1, .int x2, .int x3] [] (ev_mk h I L) =
  (if x2 < x3 then
    (if ev_in x2 8 then
      ev_at d M_Arr_fill 5 [.ref k0, .int x1, .int (x2 + 1), .int x3] [] (ev_mk h (ev_up I k0 x2.toNatClampNeg x1) L)
    else none)
  else
    ev_rn (ev_mk h I L)) := by
  rcases hk0 with rfl | rfl | rfl | rfl <;> exact (ev_eq true (ev_call true d) M_Arr_fill 5 _ _ (ev_mk h I L)).trans rfl
set_option maxRecDepth 100000 in
theorem e_Book_areOne_0 (d : Nat) (x2 x3 x4 : Int32) (h : Bool × Nat × Nat) (I : Nat → Nat → Int32) (L : Nat → Nat → Int64) : ev_do (d + 1) M_Book_areOne [.ref 5, .ref 17, .int x2, .int x3, .int x4] (ev_mk h I L) =
  ev_cI (ev_do d M_Book_spell [.ref 5, .ref 17, .int x2, .int x4] (ev_mk h I L)) (fun v2 s1 =>
    ev_cI (ev_do d M_Book_spell [.ref 5, .ref 17, .int x3, .int x4] (ev_mk s1.1.2 s1.2.1 s1.2.2.1)) (fun v4 s3 =>
      (if v2 = v4 then
        ev_ri 1 (ev_mk s3.1.2 s3.2.1 s3.2.2.1)
      else
        ev_ri 0 (ev_mk s3.1.2 s3.2.1 s3.2.2.1)))) := 
  (ev_eq true (ev_call true d) M_Book_areOne 0 [.ref 5, .ref 17, .int x2, .int x3, .int x4] [] (ev_mk h I L)).trans rfl
set_option maxRecDepth 100000 in
theorem e_Book_areTwins_0 (d : Nat) (x1 x2 : Int32) (h : Bool × Nat × Nat) (I : Nat → Nat → Int32) (L : Nat → Nat → Int64) : ev_do (d + 1) M_Book_areTwins [.ref 5, .int x1, .int x2] (ev_mk h I L) =
  (if ev_in x1 8 then
    (if ev_in x2 8 then
      (if (I 16 x1.toNatClampNeg) = (I 16 x2.toNatClampNeg) then
        ev_ri 1 (ev_mk h I L)
      else
        ev_ri 0 (ev_mk h I L))
    else none)
  else none) := 
  (ev_eq true (ev_call true d) M_Book_areTwins 0 [.ref 5, .int x1, .int x2] [] (ev_mk h I L)).trans rfl
set_option maxRecDepth 100000 in
theorem e_Book_bare_0 (d : Nat) (x1 x2 : Int32) (h : Bool × Nat × Nat) (I : Nat → Nat → Int32) (L : Nat → Nat → Int64) : ev_do (d + 1) M_Book_bare [.ref 5, .int x1, .int x2] (ev_mk h I L) =
  ev_at d M_Book_bare 5 [.ref 5, .int x1, .int x2, .int 0, .int 0] [] (ev_mk h I L) := 
  (ev_eq true (ev_call true d) M_Book_bare 0 [.ref 5, .int x1, .int x2, .float 0, .float 0] [] (ev_mk h I L)).trans rfl
set_option maxRecDepth 100000 in
theorem e_Book_bare_5 (d : Nat) (x1 x2 x3 x4 : Int32) (h : Bool × Nat × Nat) (I : Nat → Nat → Int32) (L : Nat → Nat → Int64) : ev_at d M_Book_bare 5 [.ref 5, .int x1, .int x2, .int x3, .int x4] [] (ev_mk h I L) =
  (if ev_in x1 8 then
    (if x4 < (I 15 x1.toNatClampNeg) then
      (if ((x2 >>> (x4 &&& 31)) &&& 1) = 0 then
        (if ev_in x1 8 then
          ev_aI (ev_mk h I L) (ev_rv (ev_R0 6 x1.toNatClampNeg)) x4 (fun v1 =>
            ev_at d M_Book_bare 5 [.ref 5, .int x1, .int x2, .int ((x3 <<< (4 &&& 31)) ||| (v1 + 1)), .int (x4 + 1)] [] (ev_mk h I L))
        else none)
      else
        ev_at d M_Book_bare 5 [.ref 5, .int x1, .int x2, .int x3, .int (x4 + 1)] [] (ev_mk h I L))
    else
      ev_ri x3 (ev_mk h I L))
  else none) := 
  (ev_eq true (ev_call true d) M_Book_bare 5 [.ref 5, .int x1, .int x2, .int x3, .int x4] [] (ev_mk h I L)).trans rfl
set_option maxRecDepth 100000 in
theorem e_Book_closeLine_0 (d : Nat) (h : Bool × Nat × Nat) (I : Nat → Nat → Int32) (L : Nat → Nat → Int64) : ev_do (d + 1) M_Book_closeLine [.ref 5] (ev_mk h I L) =
  (if (I 5 3) < 8 then
    ev_cI (ev_do d M_Book_bare [.ref 5, .int (I 5 3), .int 0] (ev_mk h I L)) (fun v2 s1 =>
      (if ev_in (I 5 3) 8 then
        ev_rn (ev_mk s1.1.2 (ev_up (ev_up s1.2.1 16 ((I 5 3).toNatClampNeg) v2) 5 3 ((s1.2.1 5 3) + 1)) s1.2.2.1)
      else none))
  else
    ev_rn (ev_mk h I L)) := 
  (ev_eq true (ev_call true d) M_Book_closeLine 0 [.ref 5] [] (ev_mk h I L)).trans rfl
set_option maxRecDepth 100000 in
theorem e_Book_faultIn_0 (d : Nat) (h : Bool × Nat × Nat) (I : Nat → Nat → Int32) (L : Nat → Nat → Int64) : ev_do (d + 1) M_Book_faultIn [.ref 5, .ref 1] (ev_mk h I L) =
  ev_at d M_Book_faultIn 21 [.ref 5, .ref 1, .int 0, .int 0, .int 0, .int (if 79 < (I 1 1) then 79 else (I 1 1)), .int 0, .float 0] [] (ev_mk h I L) := 
  (ev_eq true (ev_call true d) M_Book_faultIn 0 [.ref 5, .ref 1, .float 0, .float 0, .float 0, .float 0, .float 0, .float 0] [] (ev_mk h I L)).trans rfl
set_option maxRecDepth 100000 in
theorem e_Book_faultIn_21 (d : Nat) (x2 x3 x4 x5 x6 : Int32) (h : Bool × Nat × Nat) (I : Nat → Nat → Int32) (L : Nat → Nat → Int64) : ev_at d M_Book_faultIn 21 [.ref 5, .ref 1, .int x2, .int x3, .int x4, .int x5, .int x6, .float 0] [] (ev_mk h I L) =
  (if x6 < x5 then
    ev_cI (ev_do d M_Text_signAt [.ref 1, .int x6] (ev_mk h I L)) (fun v2 s1 =>
      (if v2 = 59 then
        (if x4 = 0 then
          ev_at d M_Book_faultIn 59 [.ref 5, .ref 1, .int x2, .int x3, .int x4, .int x5, .int x6, .int v2] [] (ev_mk s1.1.2 s1.2.1 s1.2.2.1)
        else
          ev_at d M_Book_faultIn 21 [.ref 5, .ref 1, .int (x2 + 1), .int 0, .int 0, .int x5, .int (x6 + 1), .float 0] [] (ev_mk s1.1.2 s1.2.1 s1.2.2.1))
      else
        ev_at d M_Book_faultIn 59 [.ref 5, .ref 1, .int x2, .int x3, .int x4, .int x5, .int x6, .int v2] [] (ev_mk s1.1.2 s1.2.1 s1.2.2.1)))
  else
    (if 79 < (I 1 1) then
      ev_ri x5 (ev_mk h I L)
    else
      (if x4 = 0 then
        ev_ri x5 (ev_mk h I L)
      else
        ev_ri (-1) (ev_mk h I L)))) := 
  (ev_eq true (ev_call true d) M_Book_faultIn 21 [.ref 5, .ref 1, .int x2, .int x3, .int x4, .int x5, .int x6, .float 0] [] (ev_mk h I L)).trans rfl
set_option maxRecDepth 100000 in
theorem e_Book_faultIn_59 (d : Nat) (x2 x3 x4 x5 x6 x7 : Int32) (h : Bool × Nat × Nat) (I : Nat → Nat → Int32) (L : Nat → Nat → Int64) : ev_at d M_Book_faultIn 59 [.ref 5, .ref 1, .int x2, .int x3, .int x4, .int x5, .int x6, .int x7] [] (ev_mk h I L) =
  ev_cI (ev_do d M_Book_letterOf [.int x7] (ev_mk h I L)) (fun v2 s1 =>
    (if v2 = (-1) then
      ev_ri x6 (ev_mk s1.1.2 s1.2.1 s1.2.2.1)
    else
      (if x3 = 8 then
        ev_ri x6 (ev_mk s1.1.2 s1.2.1 s1.2.2.1)
      else
        (if ((s1.2.1 5 3) + x2) < 8 then
          (if x4 = 0 then
            ev_cI (ev_do d M_Book_isSaid [.int x7] (ev_mk s1.1.2 s1.2.1 s1.2.2.1)) (fun v4 s3 =>
              (if v4 = 0 then
                ev_at d M_Book_faultIn 21 [.ref 5, .ref 1, .int x2, .int (x3 + 1), .int 0, .int x5, .int (x6 + 1), .float 0] [] (ev_mk s3.1.2 s3.2.1 s3.2.2.1)
              else
                ev_at d M_Book_faultIn 21 [.ref 5, .ref 1, .int x2, .int (x3 + 1), .int 1, .int x5, .int (x6 + 1), .float 0] [] (ev_mk s3.1.2 s3.2.1 s3.2.2.1)))
          else
            ev_at d M_Book_faultIn 21 [.ref 5, .ref 1, .int x2, .int (x3 + 1), .int 1, .int x5, .int (x6 + 1), .float 0] [] (ev_mk s1.1.2 s1.2.1 s1.2.2.1))
        else
          ev_ri x6 (ev_mk s1.1.2 s1.2.1 s1.2.2.1))))) := 
  (ev_eq true (ev_call true d) M_Book_faultIn 59 [.ref 5, .ref 1, .int x2, .int x3, .int x4, .int x5, .int x6, .int x7] [] (ev_mk h I L)).trans rfl
set_option maxRecDepth 100000 in
theorem e_Book_gone_0 (d : Nat) (x2 x3 : Int32) {k1 : Nat} (hk1 : k1 = 17 ∨ k1 = 21) (h : Bool × Nat × Nat) (I : Nat → Nat → Int32) (L : Nat → Nat → Int64) : ev_do (d + 1) M_Book_gone [.ref 5, .ref k1, .int x2, .int x3] (ev_mk h I L) =
  (if ev_in x2 8 then
    ev_cI (ev_do d M_Book_placesOf [.ref 5, .int x2, .int x3] (ev_mk h I L)) (fun v2 s1 =>
      ev_ri ((I (k1 + 1) x2.toNatClampNeg) &&& v2) (ev_mk s1.1.2 s1.2.1 s1.2.2.1))
  else none) := by
  rcases hk1 with rfl | rfl <;> exact (ev_eq true (ev_call true d) M_Book_gone 0 _ _ (ev_mk h I L)).trans rfl
set_option maxRecDepth 100000 in
theorem e_Book_has_0 (d : Nat) (x1 : Int32) (h : Bool × Nat × Nat) (I : Nat → Nat → Int32) (L : Nat → Nat → Int64) : ev_do (d + 1) M_Book_has [.ref 5, .int x1] (ev_mk h I L) =
  (if x1 < 0 then
    ev_ri 0 (ev_mk h I L)
  else
    (if x1 < (I 5 3) then
      ev_ri 1 (ev_mk h I L)
    else
      ev_ri 0 (ev_mk h I L))) := 
  (ev_eq true (ev_call true d) M_Book_has 0 [.ref 5, .int x1] [] (ev_mk h I L)).trans rfl
set_option maxRecDepth 100000 in
theorem e_Book_hasBoth_0 (d : Nat) (x1 x2 : Int32) (h : Bool × Nat × Nat) (I : Nat → Nat → Int32) (L : Nat → Nat → Int64) : ev_do (d + 1) M_Book_hasBoth [.ref 5, .int x1, .int x2] (ev_mk h I L) =
  ev_cI (ev_do d M_Book_has [.ref 5, .int x1] (ev_mk h I L)) (fun v2 s1 =>
    (if v2 = 0 then
      ev_ri 0 (ev_mk s1.1.2 s1.2.1 s1.2.2.1)
    else
      ev_cI (ev_do d M_Book_has [.ref 5, .int x2] (ev_mk s1.1.2 s1.2.1 s1.2.2.1)) (fun v4 s3 =>
        (if v4 = 0 then
          ev_ri 0 (ev_mk s3.1.2 s3.2.1 s3.2.2.1)
        else
          (if x1 = x2 then
            ev_ri 0 (ev_mk s3.1.2 s3.2.1 s3.2.2.1)
          else
            ev_ri 1 (ev_mk s3.1.2 s3.2.1 s3.2.2.1)))))) := 
  (ev_eq true (ev_call true d) M_Book_hasBoth 0 [.ref 5, .int x1, .int x2] [] (ev_mk h I L)).trans rfl
set_option maxRecDepth 100000 in
theorem e_Book_hasSign_0 (d : Nat) (x1 x2 : Int32) (h : Bool × Nat × Nat) (I : Nat → Nat → Int32) (L : Nat → Nat → Int64) : ev_do (d + 1) M_Book_hasSign [.ref 5, .int x1, .int x2] (ev_mk h I L) =
  ev_cI (ev_do d M_Book_has [.ref 5, .int x1] (ev_mk h I L)) (fun v2 s1 =>
    (if v2 = 0 then
      ev_ri 0 (ev_mk s1.1.2 s1.2.1 s1.2.2.1)
    else
      (if x2 < 0 then
        ev_ri 0 (ev_mk s1.1.2 s1.2.1 s1.2.2.1)
      else
        (if ev_in x1 8 then
          (if x2 < (s1.2.1 15 x1.toNatClampNeg) then
            ev_ri 1 (ev_mk s1.1.2 s1.2.1 s1.2.2.1)
          else
            ev_ri 0 (ev_mk s1.1.2 s1.2.1 s1.2.2.1))
        else none)))) := 
  (ev_eq true (ev_call true d) M_Book_hasSign 0 [.ref 5, .int x1, .int x2] [] (ev_mk h I L)).trans rfl
set_option maxRecDepth 100000 in
theorem e_Book_isSaid_0 (d : Nat) (x0 : Int32) (h : Bool × Nat × Nat) (I : Nat → Nat → Int32) (L : Nat → Nat → Int64) : ev_do (d + 1) M_Book_isSaid [.int x0] (ev_mk h I L) =
  (if x0 < 97 then
    ev_ri 0 (ev_mk h I L)
  else
    ev_ri 1 (ev_mk h I L)) := 
  (ev_eq true (ev_call true d) M_Book_isSaid 0 [.int x0] [] (ev_mk h I L)).trans rfl
set_option maxRecDepth 100000 in
theorem e_Book_letterOf_0 (d : Nat) (x0 : Int32) (h : Bool × Nat × Nat) (I : Nat → Nat → Int32) (L : Nat → Nat → Int64) : ev_do (d + 1) M_Book_letterOf [.int x0] (ev_mk h I L) =
  (if x0 < 97 then
    ev_at d M_Book_letterOf 17 [.int x0] [] (ev_mk h I L)
  else
    (if 104 < x0 then
      ev_at d M_Book_letterOf 17 [.int x0] [] (ev_mk h I L)
    else
      ev_ri (x0 - 97) (ev_mk h I L))) := 
  (ev_eq true (ev_call true d) M_Book_letterOf 0 [.int x0] [] (ev_mk h I L)).trans rfl
set_option maxRecDepth 100000 in
theorem e_Book_letterOf_17 (d : Nat) (x0 : Int32) (h : Bool × Nat × Nat) (I : Nat → Nat → Int32) (L : Nat → Nat → Int64) : ev_at d M_Book_letterOf 17 [.int x0] [] (ev_mk h I L) =
  (if x0 < 65 then
    ev_ri (-1) (ev_mk h I L)
  else
    (if 72 < x0 then
      ev_ri (-1) (ev_mk h I L)
    else
      ev_ri (x0 - 65) (ev_mk h I L))) := 
  (ev_eq true (ev_call true d) M_Book_letterOf 17 [.int x0] [] (ev_mk h I L)).trans rfl
set_option maxRecDepth 100000 in
theorem e_Book_lettersAt_0 (d : Nat) (x1 x2 : Int32) (h : Bool × Nat × Nat) (I : Nat → Nat → Int32) (L : Nat → Nat → Int64) : ev_do (d + 1) M_Book_lettersAt [.ref 5, .int x1, .int x2] (ev_mk h I L) =
  ev_at d M_Book_lettersAt 5 [.ref 5, .int x1, .int x2, .int 0, .int 0] [] (ev_mk h I L) := 
  (ev_eq true (ev_call true d) M_Book_lettersAt 0 [.ref 5, .int x1, .int x2, .float 0, .float 0] [] (ev_mk h I L)).trans rfl
set_option maxRecDepth 100000 in
theorem e_Book_lettersAt_5 (d : Nat) (x1 x2 x3 x4 : Int32) (h : Bool × Nat × Nat) (I : Nat → Nat → Int32) (L : Nat → Nat → Int64) : ev_at d M_Book_lettersAt 5 [.ref 5, .int x1, .int x2, .int x3, .int x4] [] (ev_mk h I L) =
  (if ev_in x1 8 then
    (if x4 < (I 15 x1.toNatClampNeg) then
      (if ev_in x1 8 then
        ev_aI (ev_mk h I L) (ev_rv (ev_R0 6 x1.toNatClampNeg)) x4 (fun v1 =>
          ev_at d M_Book_lettersAt 5 [.ref 5, .int x1, .int x2, .int (x3 ||| (((x2 >>> (x4 &&& 31)) &&& 1) <<< (v1 &&& 31))), .int (x4 + 1)] [] (ev_mk h I L))
      else none)
    else
      ev_ri x3 (ev_mk h I L))
  else none) := 
  (ev_eq true (ev_call true d) M_Book_lettersAt 5 [.ref 5, .int x1, .int x2, .int x3, .int x4] [] (ev_mk h I L)).trans rfl
set_option maxRecDepth 100000 in
theorem e_Book_mute_0 (d : Nat) (x2 x3 : Int32) {k1 : Nat} (hk1 : k1 = 17 ∨ k1 = 21) (h : Bool × Nat × Nat) (I : Nat → Nat → Int32) (L : Nat → Nat → Int64) : ev_do (d + 1) M_Book_mute [.ref 5, .ref k1, .int x2, .int x3] (ev_mk h I L) =
  ev_cI (ev_do d M_Book_hasSign [.ref 5, .int x2, .int x3] (ev_mk h I L)) (fun v2 s1 =>
    (if v2 = 0 then
      ev_ri (-1) (ev_mk s1.1.2 s1.2.1 s1.2.2.1)
    else
      (if ev_in x2 8 then
        (if ev_in x2 8 then
          ev_cI (ev_do d M_Int_bitCount [.int ((s1.2.1 (k1 + 1) x2.toNatClampNeg) ^^^ (1 <<< (x3 &&& 31)))] (ev_mk s1.1.2 s1.2.1 s1.2.2.1)) (fun v4 s3 =>
            (if ((s1.2.1 15 x2.toNatClampNeg) - v4) = 0 then
              ev_ri (-2) (ev_mk s3.1.2 s3.2.1 s3.2.2.1)
            else
              (if ev_in x2 8 then
                ev_ri ((s1.2.1 15 x2.toNatClampNeg) - v4) (ev_mk s3.1.2 (ev_up s3.2.1 (k1 + 1) x2.toNatClampNeg ((s1.2.1 (k1 + 1) x2.toNatClampNeg) ^^^ (1 <<< (x3 &&& 31)))) s3.2.2.1)
              else none)))
        else none)
      else none))) := by
  rcases hk1 with rfl | rfl <;> exact (ev_eq true (ev_call true d) M_Book_mute 0 _ _ (ev_mk h I L)).trans rfl
set_option maxRecDepth 100000 in
theorem e_Book_placesOf_0 (d : Nat) (x1 x2 : Int32) (h : Bool × Nat × Nat) (I : Nat → Nat → Int32) (L : Nat → Nat → Int64) : ev_do (d + 1) M_Book_placesOf [.ref 5, .int x1, .int x2] (ev_mk h I L) =
  ev_at d M_Book_placesOf 5 [.ref 5, .int x1, .int x2, .int 0, .int 0] [] (ev_mk h I L) := 
  (ev_eq true (ev_call true d) M_Book_placesOf 0 [.ref 5, .int x1, .int x2, .float 0, .float 0] [] (ev_mk h I L)).trans rfl
set_option maxRecDepth 100000 in
theorem e_Book_placesOf_5 (d : Nat) (x1 x2 x3 x4 : Int32) (h : Bool × Nat × Nat) (I : Nat → Nat → Int32) (L : Nat → Nat → Int64) : ev_at d M_Book_placesOf 5 [.ref 5, .int x1, .int x2, .int x3, .int x4] [] (ev_mk h I L) =
  (if ev_in x1 8 then
    (if x4 < (I 15 x1.toNatClampNeg) then
      (if ev_in x1 8 then
        ev_aI (ev_mk h I L) (ev_rv (ev_R0 6 x1.toNatClampNeg)) x4 (fun v1 =>
          ev_at d M_Book_placesOf 5 [.ref 5, .int x1, .int x2, .int (x3 ||| (((x2 >>> (v1 &&& 31)) &&& 1) <<< (x4 &&& 31))), .int (x4 + 1)] [] (ev_mk h I L))
      else none)
    else
      ev_ri x3 (ev_mk h I L))
  else none) := 
  (ev_eq true (ev_call true d) M_Book_placesOf 5 [.ref 5, .int x1, .int x2, .int x3, .int x4] [] (ev_mk h I L)).trans rfl
set_option maxRecDepth 100000 in
theorem e_Book_spell_0 (d : Nat) (x2 x3 : Int32) {k1 : Nat} (hk1 : k1 = 17 ∨ k1 = 21) (h : Bool × Nat × Nat) (I : Nat → Nat → Int32) (L : Nat → Nat → Int64) : ev_do (d + 1) M_Book_spell [.ref 5, .ref k1, .int x2, .int x3] (ev_mk h I L) =
  ev_cI (ev_do d M_Book_gone [.ref 5, .ref k1, .int x2, .int x3] (ev_mk h I L)) (fun v2 s1 =>
    ev_cI (ev_do d M_Book_bare [.ref 5, .int x2, .int v2] (ev_mk s1.1.2 s1.2.1 s1.2.2.1)) (fun v4 s3 =>
      ev_ri v4 (ev_mk s3.1.2 s3.2.1 s3.2.2.1))) := by
  rcases hk1 with rfl | rfl <;> exact (ev_eq true (ev_call true d) M_Book_spell 0 _ _ (ev_mk h I L)).trans rfl
set_option maxRecDepth 100000 in
theorem e_Book_spellAll_0 (d : Nat) (x2 : Int32) {k1 : Nat} (hk1 : k1 = 17 ∨ k1 = 21) {k3 : Nat} (hk3 : k3 = 110 ∨ k3 = 133) (h : Bool × Nat × Nat) (I : Nat → Nat → Int32) (L : Nat → Nat → Int64) : ev_do (d + 1) M_Book_spellAll [.ref 5, .ref k1, .int x2, .ref k3] (ev_mk h I L) =
  ev_at d M_Book_spellAll 3 [.ref 5, .ref k1, .int x2, .ref k3, .int 0] [] (ev_mk h I L) := by
  rcases hk1 with rfl | rfl <;> rcases hk3 with rfl | rfl <;> exact (ev_eq true (ev_call true d) M_Book_spellAll 0 _ _ (ev_mk h I L)).trans rfl
set_option maxRecDepth 100000 in
theorem e_Book_spellAll_3 (d : Nat) (x2 x4 : Int32) {k1 : Nat} (hk1 : k1 = 17 ∨ k1 = 21) {k3 : Nat} (hk3 : k3 = 110 ∨ k3 = 133) (h : Bool × Nat × Nat) (I : Nat → Nat → Int32) (L : Nat → Nat → Int64) : ev_at d M_Book_spellAll 3 [.ref 5, .ref k1, .int x2, .ref k3, .int x4] [] (ev_mk h I L) =
  (if x4 < (I 5 3) then
    ev_cI (ev_do d M_Book_spell [.ref 5, .ref k1, .int x4, .int x2] (ev_mk h I L)) (fun v2 s1 =>
      (if ev_in x4 8 then
        ev_at d M_Book_spellAll 3 [.ref 5, .ref k1, .int x2, .ref k3, .int (x4 + 1)] [] (ev_mk s1.1.2 (ev_up s1.2.1 k3 x4.toNatClampNeg v2) s1.2.2.1)
      else none))
  else
    ev_rn (ev_mk h I L)) := by
  rcases hk1 with rfl | rfl <;> rcases hk3 with rfl | rfl <;> exact (ev_eq true (ev_call true d) M_Book_spellAll 3 _ _ (ev_mk h I L)).trans rfl
set_option maxRecDepth 100000 in
theorem e_Book_takeLines_0 (d : Nat) (h : Bool × Nat × Nat) (I : Nat → Nat → Int32) (L : Nat → Nat → Int64) : ev_do (d + 1) M_Book_takeLines [.ref 5, .ref 1, .ref 17] (ev_mk h I L) =
  ev_at d M_Book_takeLines 8 [.ref 5, .ref 1, .ref 17, .int (I 5 3), .int 0, .float 0, .float 0] [] (ev_mk h I L) := 
  (ev_eq true (ev_call true d) M_Book_takeLines 0 [.ref 5, .ref 1, .ref 17, .float 0, .float 0, .float 0, .float 0] [] (ev_mk h I L)).trans rfl
set_option maxRecDepth 100000 in
theorem e_Book_takeLines_8 (d : Nat) (x3 x4 : Int32) (h : Bool × Nat × Nat) (I : Nat → Nat → Int32) (L : Nat → Nat → Int64) : ev_at d M_Book_takeLines 8 [.ref 5, .ref 1, .ref 17, .int x3, .int x4, .float 0, .float 0] [] (ev_mk h I L) =
  (if x4 < (I 1 1) then
    ev_cI (ev_do d M_Text_signAt [.ref 1, .int x4] (ev_mk h I L)) (fun v2 s1 =>
      (if v2 = 59 then
        ev_cV (ev_do d M_Book_closeLine [.ref 5] (ev_mk s1.1.2 s1.2.1 s1.2.2.1)) (fun s3 =>
          ev_at d M_Book_takeLines 8 [.ref 5, .ref 1, .ref 17, .int x3, .int (x4 + 1), .float 0, .float 0] [] (ev_mk s3.1.2 s3.2.1 s3.2.2.1))
      else
        (if (s1.2.1 5 3) < 8 then
          (if ev_in (s1.2.1 5 3) 8 then
            (if (s1.2.1 15 ((s1.2.1 5 3).toNatClampNeg)) < 8 then
              (if ev_in (s1.2.1 5 3) 8 then
                (if ev_in (s1.2.1 5 3) 8 then
                  ev_cI (ev_do d M_Book_letterOf [.int v2] (ev_mk s1.1.2 s1.2.1 s1.2.2.1)) (fun v5 s4 =>
                    ev_sI (ev_mk s4.1.2 s4.2.1 s4.2.2.1) (ev_rv (ev_R0 6 (s1.2.1 5 3).toNatClampNeg)) (s1.2.1 15 ((s1.2.1 5 3).toNatClampNeg)) v5 (fun I6 =>
                      (if ev_in (I6 5 3) 8 then
                        ev_cI (ev_do d M_Book_isSaid [.int v2] (ev_mk s4.1.2 I6 s4.2.2.1)) (fun v8 s7 =>
                          (if v8 = 0 then
                            ev_at d M_Book_takeLines 116 [.ref 5, .ref 1, .ref 17, .int x3, .int x4, .float 0, .float 0] [.int (1 <<< ((s1.2.1 15 ((s1.2.1 5 3).toNatClampNeg)) &&& 31)), .int (I6 18 ((I6 5 3).toNatClampNeg)), .int (I6 5 3), .ref 18] (ev_mk s7.1.2 s7.2.1 s7.2.2.1)
                          else
                            ev_at d M_Book_takeLines 116 [.ref 5, .ref 1, .ref 17, .int x3, .int x4, .float 0, .float 0] [.int 0, .int (I6 18 ((I6 5 3).toNatClampNeg)), .int (I6 5 3), .ref 18] (ev_mk s7.1.2 s7.2.1 s7.2.2.1)))
                      else none)))
                else none)
              else none)
            else
              ev_at d M_Book_takeLines 8 [.ref 5, .ref 1, .ref 17, .int x3, .int (x4 + 1), .float 0, .float 0] [] (ev_mk s1.1.2 s1.2.1 s1.2.2.1))
          else none)
        else
          ev_at d M_Book_takeLines 8 [.ref 5, .ref 1, .ref 17, .int x3, .int (x4 + 1), .float 0, .float 0] [] (ev_mk s1.1.2 s1.2.1 s1.2.2.1))))
  else
    ev_cV (ev_do d M_Book_closeLine [.ref 5] (ev_mk h I L)) (fun s9 =>
      ev_ri ((s9.2.1 5 3) - x3) (ev_mk s9.1.2 s9.2.1 s9.2.2.1))) := 
  (ev_eq true (ev_call true d) M_Book_takeLines 8 [.ref 5, .ref 1, .ref 17, .int x3, .int x4, .float 0, .float 0] [] (ev_mk h I L)).trans rfl
set_option maxRecDepth 100000 in
theorem e_Book_takeLines_116 (d : Nat) (x3 x4 y0 y1 y2 : Int32) (h : Bool × Nat × Nat) (I : Nat → Nat → Int32) (L : Nat → Nat → Int64) : ev_at d M_Book_takeLines 116 [.ref 5, .ref 1, .ref 17, .int x3, .int x4, .float 0, .float 0] [.int y0, .int y1, .int y2, .ref 18] (ev_mk h I L) =
  (if ev_in y2 8 then
    (if ev_in (I 5 3) 8 then
      (if ev_in (I 5 3) 8 then
        ev_at d M_Book_takeLines 8 [.ref 5, .ref 1, .ref 17, .int x3, .int (x4 + 1), .float 0, .float 0] [] (ev_mk h (ev_up (ev_up I 18 y2.toNatClampNeg (y1 ||| y0)) 15 ((I 5 3).toNatClampNeg) ((I 15 ((I 5 3).toNatClampNeg)) + 1)) L)
      else none)
    else none)
  else none) := 
  (ev_eq true (ev_call true d) M_Book_takeLines 116 [.ref 5, .ref 1, .ref 17, .int x3, .int x4, .float 0, .float 0] [.int y0, .int y1, .int y2, .ref 18] (ev_mk h I L)).trans rfl
set_option maxRecDepth 100000 in
theorem e_Book_unsaidLetters_0 (d : Nat) (h : Bool × Nat × Nat) (I : Nat → Nat → Int32) (L : Nat → Nat → Int64) : ev_do (d + 1) M_Book_unsaidLetters [.ref 5, .ref 17] (ev_mk h I L) =
  ev_at d M_Book_unsaidLetters 4 [.ref 5, .ref 17, .int 0, .int 0] [] (ev_mk h I L) := 
  (ev_eq true (ev_call true d) M_Book_unsaidLetters 0 [.ref 5, .ref 17, .float 0, .float 0] [] (ev_mk h I L)).trans rfl
set_option maxRecDepth 100000 in
theorem e_Book_unsaidLetters_4 (d : Nat) (x2 x3 : Int32) (h : Bool × Nat × Nat) (I : Nat → Nat → Int32) (L : Nat → Nat → Int64) : ev_at d M_Book_unsaidLetters 4 [.ref 5, .ref 17, .int x2, .int x3] [] (ev_mk h I L) =
  (if x3 < (I 5 3) then
    (if ev_in x3 8 then
      ev_cI (ev_do d M_Book_lettersAt [.ref 5, .int x3, .int (I 18 x3.toNatClampNeg)] (ev_mk h I L)) (fun v2 s1 =>
        ev_at d M_Book_unsaidLetters 4 [.ref 5, .ref 17, .int (x2 ||| v2), .int (x3 + 1)] [] (ev_mk s1.1.2 s1.2.1 s1.2.2.1))
    else none)
  else
    ev_ri x2 (ev_mk h I L)) := 
  (ev_eq true (ev_call true d) M_Book_unsaidLetters 4 [.ref 5, .ref 17, .int x2, .int x3] [] (ev_mk h I L)).trans rfl
set_option maxRecDepth 100000 in
theorem e_Int_bitCount_0 (d : Nat) (x0 : Int32) (h : Bool × Nat × Nat) (I : Nat → Nat → Int32) (L : Nat → Nat → Int64) : ev_do (d + 1) M_Int_bitCount [.int x0] (ev_mk h I L) =
  ev_ri ((((((((x0 - (((x0.toUInt32 >>> ((1 : Int32).toUInt32 &&& Int32.toUInt32 31)).toInt32) &&& 1431655765)) &&& 858993459) + ((((x0 - (((x0.toUInt32 >>> ((1 : Int32).toUInt32 &&& Int32.toUInt32 31)).toInt32) &&& 1431655765)).toUInt32 >>> ((2 : Int32).toUInt32 &&& Int32.toUInt32 31)).toInt32) &&& 858993459)) + (((((x0 - (((x0.toUInt32 >>> ((1 : Int32).toUInt32 &&& Int32.toUInt32 31)).toInt32) &&& 1431655765)) &&& 858993459) + ((((x0 - (((x0.toUInt32 >>> ((1 : Int32).toUInt32 &&& Int32.toUInt32 31)).toInt32) &&& 1431655765)).toUInt32 >>> ((2 : Int32).toUInt32 &&& Int32.toUInt32 31)).toInt32) &&& 858993459)).toUInt32 >>> ((4 : Int32).toUInt32 &&& Int32.toUInt32 31)).toInt32)) &&& 252645135) + (((((((x0 - (((x0.toUInt32 >>> ((1 : Int32).toUInt32 &&& Int32.toUInt32 31)).toInt32) &&& 1431655765)) &&& 858993459) + ((((x0 - (((x0.toUInt32 >>> ((1 : Int32).toUInt32 &&& Int32.toUInt32 31)).toInt32) &&& 1431655765)).toUInt32 >>> ((2 : Int32).toUInt32 &&& Int32.toUInt32 31)).toInt32) &&& 858993459)) + (((((x0 - (((x0.toUInt32 >>> ((1 : Int32).toUInt32 &&& Int32.toUInt32 31)).toInt32) &&& 1431655765)) &&& 858993459) + ((((x0 - (((x0.toUInt32 >>> ((1 : Int32).toUInt32 &&& Int32.toUInt32 31)).toInt32) &&& 1431655765)).toUInt32 >>> ((2 : Int32).toUInt32 &&& Int32.toUInt32 31)).toInt32) &&& 858993459)).toUInt32 >>> ((4 : Int32).toUInt32 &&& Int32.toUInt32 31)).toInt32)) &&& 252645135).toUInt32 >>> ((8 : Int32).toUInt32 &&& Int32.toUInt32 31)).toInt32)) + ((((((((x0 - (((x0.toUInt32 >>> ((1 : Int32).toUInt32 &&& Int32.toUInt32 31)).toInt32) &&& 1431655765)) &&& 858993459) + ((((x0 - (((x0.toUInt32 >>> ((1 : Int32).toUInt32 &&& Int32.toUInt32 31)).toInt32) &&& 1431655765)).toUInt32 >>> ((2 : Int32).toUInt32 &&& Int32.toUInt32 31)).toInt32) &&& 858993459)) + (((((x0 - (((x0.toUInt32 >>> ((1 : Int32).toUInt32 &&& Int32.toUInt32 31)).toInt32) &&& 1431655765)) &&& 858993459) + ((((x0 - (((x0.toUInt32 >>> ((1 : Int32).toUInt32 &&& Int32.toUInt32 31)).toInt32) &&& 1431655765)).toUInt32 >>> ((2 : Int32).toUInt32 &&& Int32.toUInt32 31)).toInt32) &&& 858993459)).toUInt32 >>> ((4 : Int32).toUInt32 &&& Int32.toUInt32 31)).toInt32)) &&& 252645135) + (((((((x0 - (((x0.toUInt32 >>> ((1 : Int32).toUInt32 &&& Int32.toUInt32 31)).toInt32) &&& 1431655765)) &&& 858993459) + ((((x0 - (((x0.toUInt32 >>> ((1 : Int32).toUInt32 &&& Int32.toUInt32 31)).toInt32) &&& 1431655765)).toUInt32 >>> ((2 : Int32).toUInt32 &&& Int32.toUInt32 31)).toInt32) &&& 858993459)) + (((((x0 - (((x0.toUInt32 >>> ((1 : Int32).toUInt32 &&& Int32.toUInt32 31)).toInt32) &&& 1431655765)) &&& 858993459) + ((((x0 - (((x0.toUInt32 >>> ((1 : Int32).toUInt32 &&& Int32.toUInt32 31)).toInt32) &&& 1431655765)).toUInt32 >>> ((2 : Int32).toUInt32 &&& Int32.toUInt32 31)).toInt32) &&& 858993459)).toUInt32 >>> ((4 : Int32).toUInt32 &&& Int32.toUInt32 31)).toInt32)) &&& 252645135).toUInt32 >>> ((8 : Int32).toUInt32 &&& Int32.toUInt32 31)).toInt32)).toUInt32 >>> ((16 : Int32).toUInt32 &&& Int32.toUInt32 31)).toInt32)) &&& 63) (ev_mk h I L) := 
  (ev_eq true (ev_call true d) M_Int_bitCount 0 [.int x0] [] (ev_mk h I L)).trans rfl
set_option maxRecDepth 100000 in
theorem e_Int_compare_0 (d : Nat) (x0 x1 : Int32) (h : Bool × Nat × Nat) (I : Nat → Nat → Int32) (L : Nat → Nat → Int64) : ev_do (d + 1) M_Int_compare [.int x0, .int x1] (ev_mk h I L) =
  (if x0 < x1 then
    ev_ri (-1) (ev_mk h I L)
  else
    (if x0 = x1 then
      ev_ri 0 (ev_mk h I L)
    else
      ev_ri 1 (ev_mk h I L))) := 
  (ev_eq true (ev_call true d) M_Int_compare 0 [.int x0, .int x1] [] (ev_mk h I L)).trans rfl
set_option maxRecDepth 100000 in
theorem e_Lat_canEncode_0 (d : Nat) (x0 : Int32) (h : Bool × Nat × Nat) (I : Nat → Nat → Int32) (L : Nat → Nat → Int64) : ev_do (d + 1) M_Lat_canEncode [.int x0] (ev_mk h I L) =
  (if x0 < 0 then
    ev_ri 0 (ev_mk h I L)
  else
    (if 255 < x0 then
      ev_ri 0 (ev_mk h I L)
    else
      ev_ri 1 (ev_mk h I L))) := 
  (ev_eq true (ev_call true d) M_Lat_canEncode 0 [.int x0] [] (ev_mk h I L)).trans rfl
set_option maxRecDepth 100000 in
theorem e_Lat_charAt_0_v0 (d : Nat) (x1 : Int32) (h : Bool × Nat × Nat) (I : Nat → Nat → Int32) (L : Nat → Nat → Int64) : ev_do (d + 1) M_Lat_charAt [.ref 900001, .int x1] (ev_mk h I L) =
  ev_cV (ev_do d M_Str_checkIndex [.int x1, .int 7] (ev_mk h I L)) (fun s1 =>
    (if ev_in x1 7 then
      (if ev_fit .char ((((([109, 45, 111, 42, 50, 45, 51] : List Int32).getD x1.toNatClampNeg 0) &&& 255).toUInt32 % 65536).toInt32) then ev_ri ((((([109, 45, 111, 42, 50, 45, 51] : List Int32).getD x1.toNatClampNeg 0) &&& 255).toUInt32 % 65536).toInt32) (ev_mk s1.1.2 s1.2.1 s1.2.2.1) else none)
    else none)) := 
  (ev_eq true (ev_call true d) M_Lat_charAt 0 [.ref 900001, .int x1] [] (ev_mk h I L)).trans rfl
set_option maxRecDepth 100000 in
theorem e_Lat_charAt_0_v1 (d : Nat) (x1 : Int32) (h : Bool × Nat × Nat) (I : Nat → Nat → Int32) (L : Nat → Nat → Int64) : ev_do (d + 1) M_Lat_charAt [.ref 900003, .int x1] (ev_mk h I L) =
  ev_cV (ev_do d M_Str_checkIndex [.int x1, .int 7] (ev_mk h I L)) (fun s1 =>
    (if ev_in x1 7 then
      (if ev_fit .char ((((([109, 111, 117, 115, 110, 100, 105] : List Int32).getD x1.toNatClampNeg 0) &&& 255).toUInt32 % 65536).toInt32) then ev_ri ((((([109, 111, 117, 115, 110, 100, 105] : List Int32).getD x1.toNatClampNeg 0) &&& 255).toUInt32 % 65536).toInt32) (ev_mk s1.1.2 s1.2.1 s1.2.2.1) else none)
    else none)) := 
  (ev_eq true (ev_call true d) M_Lat_charAt 0 [.ref 900003, .int x1] [] (ev_mk h I L)).trans rfl
set_option maxRecDepth 100000 in
theorem e_Lat_charAt_0_v2 (d : Nat) (x1 : Int32) (h : Bool × Nat × Nat) (I : Nat → Nat → Int32) (L : Nat → Nat → Int64) : ev_do (d + 1) M_Lat_charAt [.ref 900021, .int x1] (ev_mk h I L) =
  ev_cV (ev_do d M_Str_checkIndex [.int x1, .int 5] (ev_mk h I L)) (fun s1 =>
    (if ev_in x1 5 then
      (if ev_fit .char ((((([110, 120, 111, 114, 113] : List Int32).getD x1.toNatClampNeg 0) &&& 255).toUInt32 % 65536).toInt32) then ev_ri ((((([110, 120, 111, 114, 113] : List Int32).getD x1.toNatClampNeg 0) &&& 255).toUInt32 % 65536).toInt32) (ev_mk s1.1.2 s1.2.1 s1.2.2.1) else none)
    else none)) := 
  (ev_eq true (ev_call true d) M_Lat_charAt 0 [.ref 900021, .int x1] [] (ev_mk h I L)).trans rfl
set_option maxRecDepth 100000 in
theorem e_Lat_charAt_0_v3 (d : Nat) (x1 : Int32) (h : Bool × Nat × Nat) (I : Nat → Nat → Int32) (L : Nat → Nat → Int64) : ev_do (d + 1) M_Lat_charAt [.ref 900023, .int x1] (ev_mk h I L) =
  ev_cV (ev_do d M_Str_checkIndex [.int x1, .int 8] (ev_mk h I L)) (fun s1 =>
    (if ev_in x1 8 then
      (if ev_fit .char ((((([97, 98, 99, 100, 101, 102, 103, 104] : List Int32).getD x1.toNatClampNeg 0) &&& 255).toUInt32 % 65536).toInt32) then ev_ri ((((([97, 98, 99, 100, 101, 102, 103, 104] : List Int32).getD x1.toNatClampNeg 0) &&& 255).toUInt32 % 65536).toInt32) (ev_mk s1.1.2 s1.2.1 s1.2.2.1) else none)
    else none)) := 
  (ev_eq true (ev_call true d) M_Lat_charAt 0 [.ref 900023, .int x1] [] (ev_mk h I L)).trans rfl
set_option maxRecDepth 100000 in
theorem e_Lat_charAt_0_v4 (d : Nat) (x1 : Int32) (h : Bool × Nat × Nat) (I : Nat → Nat → Int32) (L : Nat → Nat → Int64) : ev_do (d + 1) M_Lat_charAt [.ref 900013, .int x1] (ev_mk h I L) =
  ev_cV (ev_do d M_Str_checkIndex [.int x1, .int 16] (ev_mk h I L)) (fun s1 =>
    (if ev_in x1 16 then
      (if ev_fit .char ((((([97, 98, 99, 100, 101, 102, 103, 104, 65, 66, 67, 68, 69, 70, 71, 72] : List Int32).getD x1.toNatClampNeg 0) &&& 255).toUInt32 % 65536).toInt32) then ev_ri ((((([97, 98, 99, 100, 101, 102, 103, 104, 65, 66, 67, 68, 69, 70, 71, 72] : List Int32).getD x1.toNatClampNeg 0) &&& 255).toUInt32 % 65536).toInt32) (ev_mk s1.1.2 s1.2.1 s1.2.2.1) else none)
    else none)) := 
  (ev_eq true (ev_call true d) M_Lat_charAt 0 [.ref 900013, .int x1] [] (ev_mk h I L)).trans rfl
set_option maxRecDepth 100000 in
theorem e_Lat_charAt_0_v5 (d : Nat) (x1 : Int32) (h : Bool × Nat × Nat) (I : Nat → Nat → Int32) (L : Nat → Nat → Int64) : ev_do (d + 1) M_Lat_charAt [.ref 900015, .int x1] (ev_mk h I L) =
  ev_cV (ev_do d M_Str_checkIndex [.int x1, .int 3] (ev_mk h I L)) (fun s1 =>
    (if ev_in x1 3 then
      (if ev_fit .char ((((([60, 62, 61] : List Int32).getD x1.toNatClampNeg 0) &&& 255).toUInt32 % 65536).toInt32) then ev_ri ((((([60, 62, 61] : List Int32).getD x1.toNatClampNeg 0) &&& 255).toUInt32 % 65536).toInt32) (ev_mk s1.1.2 s1.2.1 s1.2.2.1) else none)
    else none)) := 
  (ev_eq true (ev_call true d) M_Lat_charAt 0 [.ref 900015, .int x1] [] (ev_mk h I L)).trans rfl
set_option maxRecDepth 100000 in
theorem e_Lat_charAt_0_v6 (d : Nat) (x1 : Int32) (h : Bool × Nat × Nat) (I : Nat → Nat → Int32) (L : Nat → Nat → Int64) : ev_do (d + 1) M_Lat_charAt [.ref 900017, .int x1] (ev_mk h I L) =
  ev_cV (ev_do d M_Str_checkIndex [.int x1, .int 2] (ev_mk h I L)) (fun s1 =>
    (if ev_in x1 2 then
      (if ev_fit .char ((((([43, 45] : List Int32).getD x1.toNatClampNeg 0) &&& 255).toUInt32 % 65536).toInt32) then ev_ri ((((([43, 45] : List Int32).getD x1.toNatClampNeg 0) &&& 255).toUInt32 % 65536).toInt32) (ev_mk s1.1.2 s1.2.1 s1.2.2.1) else none)
    else none)) := 
  (ev_eq true (ev_call true d) M_Lat_charAt 0 [.ref 900017, .int x1] [] (ev_mk h I L)).trans rfl
set_option maxRecDepth 100000 in
theorem e_Lat_charAt_0_v7 (d : Nat) (x1 : Int32) (h : Bool × Nat × Nat) (I : Nat → Nat → Int32) (L : Nat → Nat → Int64) : ev_do (d + 1) M_Lat_charAt [.ref 900019, .int x1] (ev_mk h I L) =
  ev_cV (ev_do d M_Str_checkIndex [.int x1, .int 2] (ev_mk h I L)) (fun s1 =>
    (if ev_in x1 2 then
      (if ev_fit .char ((((([42, 47] : List Int32).getD x1.toNatClampNeg 0) &&& 255).toUInt32 % 65536).toInt32) then ev_ri ((((([42, 47] : List Int32).getD x1.toNatClampNeg 0) &&& 255).toUInt32 % 65536).toInt32) (ev_mk s1.1.2 s1.2.1 s1.2.2.1) else none)
    else none)) := 
  (ev_eq true (ev_call true d) M_Lat_charAt 0 [.ref 900019, .int x1] [] (ev_mk h I L)).trans rfl
set_option maxRecDepth 100000 in
theorem e_Lat_indexOf_0 (d : Nat) (x1 x2 x3 : Int32) (h : Bool × Nat × Nat) (I : Nat → Nat → Int32) (L : Nat → Nat → Int64) : ev_do (d + 1) M_Lat_indexOf [.ref 900003, .int x1, .int x2, .int x3] (ev_mk h I L) =
  ev_cI (ev_do d M_Lat_canEncode [.int x1] (ev_mk h I L)) (fun v2 s1 =>
    (if v2 = 0 then
      ev_ri (-1) (ev_mk s1.1.2 s1.2.1 s1.2.2.1)
    else
      (if (if x2 < 0 then 0 else x2) < (if 7 < x3 then 7 else x3) then
        ev_cI (ev_do d M_Lat_indexOfChar [.ref 900003, .int x1, .int (if x2 < 0 then 0 else x2), .int (if 7 < x3 then 7 else x3)] (ev_mk s1.1.2 s1.2.1 s1.2.2.1)) (fun v4 s3 =>
          ev_ri v4 (ev_mk s3.1.2 s3.2.1 s3.2.2.1))
      else
        ev_ri (-1) (ev_mk s1.1.2 s1.2.1 s1.2.2.1)))) := 
  (ev_eq true (ev_call true d) M_Lat_indexOf 0 [.ref 900003, .int x1, .int x2, .int x3] [] (ev_mk h I L)).trans rfl
set_option maxRecDepth 100000 in
theorem e_Lat_indexOfChar_0 (d : Nat) (x1 x2 x3 : Int32) (h : Bool × Nat × Nat) (I : Nat → Nat → Int32) (L : Nat → Nat → Int64) : ev_do (d + 1) M_Lat_indexOfChar [.ref 900003, .int x1, .int x2, .int x3] (ev_mk h I L) =
  ev_at d M_Lat_indexOfChar 7 [.ref 900003, .float 0, .float 0, .int x3, .int x1.toInt8.toInt32, .int x2] [] (ev_mk h I L) := 
  (ev_eq true (ev_call true d) M_Lat_indexOfChar 0 [.ref 900003, .int x1, .int x2, .int x3, .float 0, .float 0] [] (ev_mk h I L)).trans rfl
set_option maxRecDepth 100000 in
theorem e_Lat_indexOfChar_7 (d : Nat) (x3 x4 x5 : Int32) (h : Bool × Nat × Nat) (I : Nat → Nat → Int32) (L : Nat → Nat → Int64) : ev_at d M_Lat_indexOfChar 7 [.ref 900003, .float 0, .float 0, .int x3, .int x4, .int x5] [] (ev_mk h I L) =
  (if x5 < x3 then
    (if ev_in x5 7 then
      (if (([109, 111, 117, 115, 110, 100, 105] : List Int32).getD x5.toNatClampNeg 0) = x4 then
        ev_ri x5 (ev_mk h I L)
      else
        ev_at d M_Lat_indexOfChar 7 [.ref 900003, .float 0, .float 0, .int x3, .int x4, .int (x5 + 1)] [] (ev_mk h I L))
    else none)
  else
    ev_ri (-1) (ev_mk h I L)) := 
  (ev_eq true (ev_call true d) M_Lat_indexOfChar 7 [.ref 900003, .float 0, .float 0, .int x3, .int x4, .int x5] [] (ev_mk h I L)).trans rfl
set_option maxRecDepth 100000 in
theorem e_Measure_edits_0 (d : Nat) (x2 x3 x4 : Int32) (h : Bool × Nat × Nat) (I : Nat → Nat → Int32) (L : Nat → Nat → Int64) : ev_do (d + 1) M_Measure_edits [.ref 114, .ref 17, .int x2, .int x3, .int x4] (ev_mk h I L) =
  ev_cV (ev_do d M_Measure_layBoth [.ref 114, .ref 17, .int x2, .int x3, .int x4] (ev_mk h I L)) (fun s1 =>
    ev_at d M_Measure_edits 12 [.ref 114, .float 0, .float 0, .float 0, .float 0, .int 0, .float 0] [] (ev_mk s1.1.2 s1.2.1 s1.2.2.1)) := 
  (ev_eq true (ev_call true d) M_Measure_edits 0 [.ref 114, .ref 17, .int x2, .int x3, .int x4, .float 0, .float 0] [] (ev_mk h I L)).trans rfl
set_option maxRecDepth 100000 in
theorem e_Measure_edits_12 (d : Nat) (x5 : Int32) (h : Bool × Nat × Nat) (I : Nat → Nat → Int32) (L : Nat → Nat → Int64) : ev_at d M_Measure_edits 12 [.ref 114, .float 0, .float 0, .float 0, .float 0, .int x5, .float 0] [] (ev_mk h I L) =
  (if (I 114 3) < x5 then
    (if ev_in (I 114 3) 9 then
      ev_aI (ev_mk h I L) (ev_rv (ev_R0 117 (I 114 3).toNatClampNeg)) (I 114 4) (fun v1 =>
        ev_ri v1 (ev_mk h I L))
    else none)
  else
    ev_at d M_Measure_edits 24 [.ref 114, .float 0, .float 0, .float 0, .float 0, .int x5, .int 0] [] (ev_mk h I L)) := 
  (ev_eq true (ev_call true d) M_Measure_edits 12 [.ref 114, .float 0, .float 0, .float 0, .float 0, .int x5, .float 0] [] (ev_mk h I L)).trans rfl
set_option maxRecDepth 100000 in
theorem e_Measure_edits_24 (d : Nat) (x5 x6 : Int32) (h : Bool × Nat × Nat) (I : Nat → Nat → Int32) (L : Nat → Nat → Int64) : ev_at d M_Measure_edits 24 [.ref 114, .float 0, .float 0, .float 0, .float 0, .int x5, .int x6] [] (ev_mk h I L) =
  (if (I 114 4) < x6 then
    ev_at d M_Measure_edits 12 [.ref 114, .float 0, .float 0, .float 0, .float 0, .int (x5 + 1), .float 0] [] (ev_mk h I L)
  else
    (if ev_in x5 9 then
      (if x5 = 0 then
        ev_at d M_Measure_edits 52 [.ref 114, .float 0, .float 0, .float 0, .float 0, .int x5, .int x6] [.int x6, (ev_rv (ev_R0 117 x5.toNatClampNeg))] (ev_mk h I L)
      else
        (if x6 = 0 then
          ev_at d M_Measure_edits 52 [.ref 114, .float 0, .float 0, .float 0, .float 0, .int x5, .int x6] [.int x6, (ev_rv (ev_R0 117 x5.toNatClampNeg))] (ev_mk h I L)
        else
          ev_cI (ev_do d M_Measure_editsAt [.ref 114, .int x5, .int x6] (ev_mk h I L)) (fun v2 s1 =>
            ev_sI (ev_mk s1.1.2 s1.2.1 s1.2.2.1) (ev_rv (ev_R0 117 x5.toNatClampNeg)) x6 v2 (fun I3 =>
              ev_at d M_Measure_edits 24 [.ref 114, .float 0, .float 0, .float 0, .float 0, .int x5, .int (x6 + 1)] [] (ev_mk s1.1.2 I3 s1.2.2.1)))))
    else none)) := 
  (ev_eq true (ev_call true d) M_Measure_edits 24 [.ref 114, .float 0, .float 0, .float 0, .float 0, .int x5, .int x6] [] (ev_mk h I L)).trans rfl
set_option maxRecDepth 100000 in
theorem e_Measure_edits_52 (d : Nat) (x5 x6 y0 : Int32) (y1 : Value) (h : Bool × Nat × Nat) (I : Nat → Nat → Int32) (L : Nat → Nat → Int64) : ev_at d M_Measure_edits 52 [.ref 114, .float 0, .float 0, .float 0, .float 0, .int x5, .int x6] [.int y0, y1] (ev_mk h I L) =
  ev_sI (ev_mk h I L) y1 y0 (x5 + x6) (fun I1 =>
    ev_at d M_Measure_edits 24 [.ref 114, .float 0, .float 0, .float 0, .float 0, .int x5, .int (x6 + 1)] [] (ev_mk h I1 L)) := 
  (ev_eq true (ev_call true d) M_Measure_edits 52 [.ref 114, .float 0, .float 0, .float 0, .float 0, .int x5, .int x6] [.int y0, y1] (ev_mk h I L)).trans rfl
set_option maxRecDepth 100000 in
theorem e_Measure_editsAt_0 (d : Nat) (x1 x2 : Int32) (h : Bool × Nat × Nat) (I : Nat → Nat → Int32) (L : Nat → Nat → Int64) : ev_do (d + 1) M_Measure_editsAt [.ref 114, .int x1, .int x2] (ev_mk h I L) =
  (if ev_in (x1 - 1) 9 then
    ev_aI (ev_mk h I L) (ev_rv (ev_R0 117 (x1 - 1).toNatClampNeg)) (x2 - 1) (fun v1 =>
      (if ev_in (x1 - 1) 8 then
        (if ev_in (x2 - 1) 8 then
          (if (I 115 ((x1 - 1).toNatClampNeg)) = (I 116 ((x2 - 1).toNatClampNeg)) then
            ev_at d M_Measure_editsAt 36 [.ref 114, .int x1, .int x2, .float 0] [.int 0, .int v1] (ev_mk h I L)
          else
            ev_at d M_Measure_editsAt 36 [.ref 114, .int x1, .int x2, .float 0] [.int 1, .int v1] (ev_mk h I L))
        else none)
      else none))
  else none) := 
  (ev_eq true (ev_call true d) M_Measure_editsAt 0 [.ref 114, .int x1, .int x2, .float 0] [] (ev_mk h I L)).trans rfl
set_option maxRecDepth 100000 in
theorem e_Measure_editsAt_36 (d : Nat) (x1 x2 y0 y1 : Int32) (h : Bool × Nat × Nat) (I : Nat → Nat → Int32) (L : Nat → Nat → Int64) : ev_at d M_Measure_editsAt 36 [.ref 114, .int x1, .int x2, .float 0] [.int y0, .int y1] (ev_mk h I L) =
  (if ev_in (x1 - 1) 9 then
    ev_aI (ev_mk h I L) (ev_rv (ev_R0 117 (x1 - 1).toNatClampNeg)) x2 (fun v1 =>
      (if ev_in x1 9 then
        ev_aI (ev_mk h I L) (ev_rv (ev_R0 117 x1.toNatClampNeg)) (x2 - 1) (fun v2 =>
          ev_ri (if ((if v2 < v1 then v2 else v1) + 1) < (y1 + y0) then ((if v2 < v1 then v2 else v1) + 1) else (y1 + y0)) (ev_mk h I L))
      else none))
  else none) := 
  (ev_eq true (ev_call true d) M_Measure_editsAt 36 [.ref 114, .int x1, .int x2, .float 0] [.int y0, .int y1] (ev_mk h I L)).trans rfl
set_option maxRecDepth 100000 in
theorem e_Measure_inCommon_0 (d : Nat) (x2 x3 x4 : Int32) (h : Bool × Nat × Nat) (I : Nat → Nat → Int32) (L : Nat → Nat → Int64) : ev_do (d + 1) M_Measure_inCommon [.ref 114, .ref 17, .int x2, .int x3, .int x4] (ev_mk h I L) =
  ev_cV (ev_do d M_Measure_layBoth [.ref 114, .ref 17, .int x2, .int x3, .int x4] (ev_mk h I L)) (fun s1 =>
    ev_at d M_Measure_inCommon 12 [.ref 114, .float 0, .float 0, .float 0, .float 0, .int 0, .float 0] [] (ev_mk s1.1.2 s1.2.1 s1.2.2.1)) := 
  (ev_eq true (ev_call true d) M_Measure_inCommon 0 [.ref 114, .ref 17, .int x2, .int x3, .int x4, .float 0, .float 0] [] (ev_mk h I L)).trans rfl
set_option maxRecDepth 100000 in
theorem e_Measure_inCommon_12 (d : Nat) (x5 : Int32) (h : Bool × Nat × Nat) (I : Nat → Nat → Int32) (L : Nat → Nat → Int64) : ev_at d M_Measure_inCommon 12 [.ref 114, .float 0, .float 0, .float 0, .float 0, .int x5, .float 0] [] (ev_mk h I L) =
  (if (I 114 3) < x5 then
    (if ev_in (I 114 3) 9 then
      ev_aI (ev_mk h I L) (ev_rv (ev_R0 117 (I 114 3).toNatClampNeg)) (I 114 4) (fun v1 =>
        ev_ri v1 (ev_mk h I L))
    else none)
  else
    ev_at d M_Measure_inCommon 24 [.ref 114, .float 0, .float 0, .float 0, .float 0, .int x5, .int 0] [] (ev_mk h I L)) := 
  (ev_eq true (ev_call true d) M_Measure_inCommon 12 [.ref 114, .float 0, .float 0, .float 0, .float 0, .int x5, .float 0] [] (ev_mk h I L)).trans rfl
set_option maxRecDepth 100000 in
theorem e_Measure_inCommon_24 (d : Nat) (x5 x6 : Int32) (h : Bool × Nat × Nat) (I : Nat → Nat → Int32) (L : Nat → Nat → Int64) : ev_at d M_Measure_inCommon 24 [.ref 114, .float 0, .float 0, .float 0, .float 0, .int x5, .int x6] [] (ev_mk h I L) =
  (if (I 114 4) < x6 then
    ev_at d M_Measure_inCommon 12 [.ref 114, .float 0, .float 0, .float 0, .float 0, .int (x5 + 1), .float 0] [] (ev_mk h I L)
  else
    (if ev_in x5 9 then
      (if x5 = 0 then
        ev_sI (ev_mk h I L) (ev_rv (ev_R0 117 x5.toNatClampNeg)) x6 0 (fun I1 =>
          ev_at d M_Measure_inCommon 24 [.ref 114, .float 0, .float 0, .float 0, .float 0, .int x5, .int (x6 + 1)] [] (ev_mk h I1 L))
      else
        (if x6 = 0 then
          ev_sI (ev_mk h I L) (ev_rv (ev_R0 117 x5.toNatClampNeg)) x6 0 (fun I2 =>
            ev_at d M_Measure_inCommon 24 [.ref 114, .float 0, .float 0, .float 0, .float 0, .int x5, .int (x6 + 1)] [] (ev_mk h I2 L))
        else
          ev_cI (ev_do d M_Measure_inCommonAt [.ref 114, .int x5, .int x6] (ev_mk h I L)) (fun v4 s3 =>
            ev_sI (ev_mk s3.1.2 s3.2.1 s3.2.2.1) (ev_rv (ev_R0 117 x5.toNatClampNeg)) x6 v4 (fun I5 =>
              ev_at d M_Measure_inCommon 24 [.ref 114, .float 0, .float 0, .float 0, .float 0, .int x5, .int (x6 + 1)] [] (ev_mk s3.1.2 I5 s3.2.2.1)))))
    else none)) := 
  (ev_eq true (ev_call true d) M_Measure_inCommon 24 [.ref 114, .float 0, .float 0, .float 0, .float 0, .int x5, .int x6] [] (ev_mk h I L)).trans rfl
set_option maxRecDepth 100000 in
theorem e_Measure_inCommonAt_0 (d : Nat) (x1 x2 : Int32) (h : Bool × Nat × Nat) (I : Nat → Nat → Int32) (L : Nat → Nat → Int64) : ev_do (d + 1) M_Measure_inCommonAt [.ref 114, .int x1, .int x2] (ev_mk h I L) =
  (if ev_in (x1 - 1) 8 then
    (if ev_in (x2 - 1) 8 then
      (if (I 115 ((x1 - 1).toNatClampNeg)) = (I 116 ((x2 - 1).toNatClampNeg)) then
        (if ev_in (x1 - 1) 9 then
          ev_aI (ev_mk h I L) (ev_rv (ev_R0 117 (x1 - 1).toNatClampNeg)) (x2 - 1) (fun v1 =>
            ev_ri (v1 + 1) (ev_mk h I L))
        else none)
      else
        (if ev_in (x1 - 1) 9 then
          ev_aI (ev_mk h I L) (ev_rv (ev_R0 117 (x1 - 1).toNatClampNeg)) x2 (fun v2 =>
            (if ev_in x1 9 then
              ev_aI (ev_mk h I L) (ev_rv (ev_R0 117 x1.toNatClampNeg)) (x2 - 1) (fun v3 =>
                ev_ri (if v2 < v3 then v3 else v2) (ev_mk h I L))
            else none))
        else none))
    else none)
  else none) := 
  (ev_eq true (ev_call true d) M_Measure_inCommonAt 0 [.ref 114, .int x1, .int x2] [] (ev_mk h I L)).trans rfl
set_option maxRecDepth 100000 in
theorem e_Measure_lay_0 (d : Nat) (x2 x3 : Int32) {k4 : Nat} (hk4 : k4 = 115 ∨ k4 = 116) (h : Bool × Nat × Nat) (I : Nat → Nat → Int32) (L : Nat → Nat → Int64) : ev_do (d + 1) M_Measure_lay [.ref 114, .ref 17, .int x2, .int x3, .ref k4] (ev_mk h I L) =
  ev_cI (ev_do d M_Book_gone [.ref 5, .ref 17, .int x2, .int x3] (ev_mk h I L)) (fun v2 s1 =>
    ev_at d M_Measure_lay 18 [.ref 114, .float 0, .int x2, .float 0, .ref k4, .int v2, .int 0, .int 0] [] (ev_mk s1.1.2 s1.2.1 s1.2.2.1)) := by
  rcases hk4 with rfl | rfl <;> exact (ev_eq true (ev_call true d) M_Measure_lay 0 _ _ (ev_mk h I L)).trans rfl
set_option maxRecDepth 100000 in
theorem e_Measure_lay_18 (d : Nat) (x2 x5 x6 x7 : Int32) {k4 : Nat} (hk4 : k4 = 115 ∨ k4 = 116) (h : Bool × Nat × Nat) (I : Nat → Nat → Int32) (L : Nat → Nat → Int64) : ev_at d M_Measure_lay 18 [.ref 114, .float 0, .int x2, .float 0, .ref k4, .int x5, .int x6, .int x7] [] (ev_mk h I L) =
  (if ev_in x2 8 then
    (if x7 < (I 15 x2.toNatClampNeg) then
      (if ((x5 >>> (x7 &&& 31)) &&& 1) = 0 then
        (if ev_in x2 8 then
          ev_aI (ev_mk h I L) (ev_rv (ev_R0 6 x2.toNatClampNeg)) x7 (fun v1 =>
            (if ev_in x6 8 then
              ev_at d M_Measure_lay 18 [.ref 114, .float 0, .int x2, .float 0, .ref k4, .int x5, .int (x6 + 1), .int (x7 + 1)] [] (ev_mk h (ev_up I k4 x6.toNatClampNeg v1) L)
            else none))
        else none)
      else
        ev_at d M_Measure_lay 18 [.ref 114, .float 0, .int x2, .float 0, .ref k4, .int x5, .int x6, .int (x7 + 1)] [] (ev_mk h I L))
    else
      ev_ri x6 (ev_mk h I L))
  else none) := by
  rcases hk4 with rfl | rfl <;> exact (ev_eq true (ev_call true d) M_Measure_lay 18 _ _ (ev_mk h I L)).trans rfl
set_option maxRecDepth 100000 in
theorem e_Measure_layBoth_0 (d : Nat) (x2 x3 x4 : Int32) (h : Bool × Nat × Nat) (I : Nat → Nat → Int32) (L : Nat → Nat → Int64) : ev_do (d + 1) M_Measure_layBoth [.ref 114, .ref 17, .int x2, .int x3, .int x4] (ev_mk h I L) =
  ev_cI (ev_do d M_Measure_lay [.ref 114, .ref 17, .int x2, .int x4, .ref 115] (ev_mk h I L)) (fun v2 s1 =>
    ev_cI (ev_do d M_Measure_lay [.ref 114, .ref 17, .int x3, .int x4, .ref 116] (ev_mk s1.1.2 (ev_up s1.2.1 114 3 v2) s1.2.2.1)) (fun v4 s3 =>
      ev_rn (ev_mk s3.1.2 (ev_up s3.2.1 114 4 v4) s3.2.2.1))) := 
  (ev_eq true (ev_call true d) M_Measure_layBoth 0 [.ref 114, .ref 17, .int x2, .int x3, .int x4] [] (ev_mk h I L)).trans rfl
set_option maxRecDepth 100000 in
theorem e_Measure_markNear_0 (d : Nat) (x2 : Int32) (h : Bool × Nat × Nat) (I : Nat → Nat → Int32) (L : Nat → Nat → Int64) : ev_do (d + 1) M_Measure_markNear [.ref 114, .ref 17, .int x2] (ev_mk h I L) =
  ev_at d M_Measure_markNear 2 [.ref 114, .ref 17, .int x2, .int 0, .float 0, .float 0] [] (ev_mk h I L) := 
  (ev_eq true (ev_call true d) M_Measure_markNear 0 [.ref 114, .ref 17, .int x2, .float 0, .float 0, .float 0] [] (ev_mk h I L)).trans rfl
set_option maxRecDepth 100000 in
theorem e_Measure_markNear_2 (d : Nat) (x2 x3 : Int32) (h : Bool × Nat × Nat) (I : Nat → Nat → Int32) (L : Nat → Nat → Int64) : ev_at d M_Measure_markNear 2 [.ref 114, .ref 17, .int x2, .int x3, .float 0, .float 0] [] (ev_mk h I L) =
  (if x3 < (I 5 3) then
    ev_at d M_Measure_markNear 16 [.ref 114, .ref 17, .int x2, .int x3, .int 0, .float 0] [] (ev_mk h I L)
  else
    ev_rn (ev_mk h I L)) := 
  (ev_eq true (ev_call true d) M_Measure_markNear 2 [.ref 114, .ref 17, .int x2, .int x3, .float 0, .float 0] [] (ev_mk h I L)).trans rfl
set_option maxRecDepth 100000 in
theorem e_Measure_markNear_16 (d : Nat) (x2 x3 x4 : Int32) (h : Bool × Nat × Nat) (I : Nat → Nat → Int32) (L : Nat → Nat → Int64) : ev_at d M_Measure_markNear 16 [.ref 114, .ref 17, .int x2, .int x3, .int x4, .float 0] [] (ev_mk h I L) =
  (if x4 < x3 then
    ev_cI (ev_do d M_Measure_edits [.ref 114, .ref 17, .int x3, .int x4, .int (I 17 3)] (ev_mk h I L)) (fun v2 s1 =>
      (if x2 < v2 then
        ev_at d M_Measure_markNear 43 [.ref 114, .ref 17, .int x2, .int x3, .int x4, .float 0] [.int 0] (ev_mk s1.1.2 s1.2.1 s1.2.2.1)
      else
        ev_at d M_Measure_markNear 43 [.ref 114, .ref 17, .int x2, .int x3, .int x4, .float 0] [.int 1] (ev_mk s1.1.2 s1.2.1 s1.2.2.1)))
  else
    ev_at d M_Measure_markNear 2 [.ref 114, .ref 17, .int x2, .int (x3 + 1), .float 0, .float 0] [] (ev_mk h I L)) := 
  (ev_eq true (ev_call true d) M_Measure_markNear 16 [.ref 114, .ref 17, .int x2, .int x3, .int x4, .float 0] [] (ev_mk h I L)).trans rfl
set_option maxRecDepth 100000 in
theorem e_Measure_markNear_43 (d : Nat) (x2 x3 x4 y0 : Int32) (h : Bool × Nat × Nat) (I : Nat → Nat → Int32) (L : Nat → Nat → Int64) : ev_at d M_Measure_markNear 43 [.ref 114, .ref 17, .int x2, .int x3, .int x4, .float 0] [.int y0] (ev_mk h I L) =
  (if ev_in ((x3 * 8) + x4) 64 then
    (if ev_in ((x4 * 8) + x3) 64 then
      ev_at d M_Measure_markNear 16 [.ref 114, .ref 17, .int x2, .int x3, .int (x4 + 1), .float 0] [] (ev_mk h (ev_up (ev_up I 127 (((x3 * 8) + x4).toNatClampNeg) (vp_nar .boolean y0)) 127 (((x4 * 8) + x3).toNatClampNeg) (vp_nar .boolean y0)) L)
    else none)
  else none) := 
  (ev_eq true (ev_call true d) M_Measure_markNear 43 [.ref 114, .ref 17, .int x2, .int x3, .int x4, .float 0] [.int y0] (ev_mk h I L)).trans rfl
set_option maxRecDepth 100000 in
theorem e_Measure_stepFrom_0 (d : Nat) (x1 x2 : Int32) (h : Bool × Nat × Nat) (I : Nat → Nat → Int32) (L : Nat → Nat → Int64) : ev_do (d + 1) M_Measure_stepFrom [.ref 114, .int x1, .int x2] (ev_mk h I L) =
  ev_cI (ev_do d M_Book_has [.ref 5, .int x1] (ev_mk h I L)) (fun v2 s1 =>
    (if v2 = 0 then
      ev_ri (-1) (ev_mk s1.1.2 s1.2.1 s1.2.2.1)
    else
      ev_at d M_Measure_stepFrom 15 [.ref 114, .int x1, .int x2, .int 0] [] (ev_mk s1.1.2 s1.2.1 s1.2.2.1))) := 
  (ev_eq true (ev_call true d) M_Measure_stepFrom 0 [.ref 114, .int x1, .int x2, .float 0] [] (ev_mk h I L)).trans rfl
set_option maxRecDepth 100000 in
theorem e_Measure_stepFrom_15 (d : Nat) (x1 x2 x3 : Int32) (h : Bool × Nat × Nat) (I : Nat → Nat → Int32) (L : Nat → Nat → Int64) : ev_at d M_Measure_stepFrom 15 [.ref 114, .int x1, .int x2, .int x3] [] (ev_mk h I L) =
  (if x3 < (I 5 3) then
    (if ev_in x3 8 then
      (if (I 128 x3.toNatClampNeg) = x2 then
        (if ev_in ((x1 * 8) + x3) 64 then
          (if (I 127 (((x1 * 8) + x3).toNatClampNeg)) = 0 then
            ev_at d M_Measure_stepFrom 15 [.ref 114, .int x1, .int x2, .int (x3 + 1)] [] (ev_mk h I L)
          else
            ev_ri x3 (ev_mk h I L))
        else none)
      else
        ev_at d M_Measure_stepFrom 15 [.ref 114, .int x1, .int x2, .int (x3 + 1)] [] (ev_mk h I L))
    else none)
  else
    ev_ri (-1) (ev_mk h I L)) := 
  (ev_eq true (ev_call true d) M_Measure_stepFrom 15 [.ref 114, .int x1, .int x2, .int x3] [] (ev_mk h I L)).trans rfl
set_option maxRecDepth 100000 in
theorem e_Measure_stepsTo_0 (d : Nat) (x2 x3 : Int32) (h : Bool × Nat × Nat) (I : Nat → Nat → Int32) (L : Nat → Nat → Int64) : ev_do (d + 1) M_Measure_stepsTo [.ref 114, .ref 17, .int x2, .int x3] (ev_mk h I L) =
  ev_cV (ev_do d M_Measure_markNear [.ref 114, .ref 17, .int x3] (ev_mk h I L)) (fun s1 =>
    ev_cV (ev_do d M_Arr_fill [.ref 128, .int (-1)] (ev_mk s1.1.2 s1.2.1 s1.2.2.1)) (fun s2 =>
      (if ev_in x2 8 then
        ev_at d M_Measure_stepsTo 24 [.ref 114, .float 0, .float 0, .float 0, .int 0, .float 0] [] (ev_mk s2.1.2 (ev_up s2.2.1 128 x2.toNatClampNeg 0) s2.2.2.1)
      else none))) := 
  (ev_eq true (ev_call true d) M_Measure_stepsTo 0 [.ref 114, .ref 17, .int x2, .int x3, .float 0, .float 0] [] (ev_mk h I L)).trans rfl
set_option maxRecDepth 100000 in
theorem e_Measure_stepsTo_24 (d : Nat) (x4 : Int32) (h : Bool × Nat × Nat) (I : Nat → Nat → Int32) (L : Nat → Nat → Int64) : ev_at d M_Measure_stepsTo 24 [.ref 114, .float 0, .float 0, .float 0, .int x4, .float 0] [] (ev_mk h I L) =
  (if x4 < 8 then
    ev_at d M_Measure_stepsTo 34 [.ref 114, .float 0, .float 0, .float 0, .int x4, .int 0] [] (ev_mk h I L)
  else
    ev_rn (ev_mk h I L)) := 
  (ev_eq true (ev_call true d) M_Measure_stepsTo 24 [.ref 114, .float 0, .float 0, .float 0, .int x4, .float 0] [] (ev_mk h I L)).trans rfl
set_option maxRecDepth 100000 in
theorem e_Measure_stepsTo_34 (d : Nat) (x4 x5 : Int32) (h : Bool × Nat × Nat) (I : Nat → Nat → Int32) (L : Nat → Nat → Int64) : ev_at d M_Measure_stepsTo 34 [.ref 114, .float 0, .float 0, .float 0, .int x4, .int x5] [] (ev_mk h I L) =
  (if x5 < (I 5 3) then
    (if ev_in x5 8 then
      (if (I 128 x5.toNatClampNeg) = (-1) then
        ev_cI (ev_do d M_Measure_stepFrom [.ref 114, .int x5, .int x4] (ev_mk h I L)) (fun v2 s1 =>
          (if v2 = (-1) then
            ev_at d M_Measure_stepsTo 34 [.ref 114, .float 0, .float 0, .float 0, .int x4, .int (x5 + 1)] [] (ev_mk s1.1.2 s1.2.1 s1.2.2.1)
          else
            (if ev_in x5 8 then
              ev_at d M_Measure_stepsTo 34 [.ref 114, .float 0, .float 0, .float 0, .int x4, .int (x5 + 1)] [] (ev_mk s1.1.2 (ev_up s1.2.1 128 x5.toNatClampNeg (x4 + 1)) s1.2.2.1)
            else none)))
      else
        ev_at d M_Measure_stepsTo 34 [.ref 114, .float 0, .float 0, .float 0, .int x4, .int (x5 + 1)] [] (ev_mk h I L))
    else none)
  else
    ev_at d M_Measure_stepsTo 24 [.ref 114, .float 0, .float 0, .float 0, .int (x4 + 1), .float 0] [] (ev_mk h I L)) := 
  (ev_eq true (ev_call true d) M_Measure_stepsTo 34 [.ref 114, .float 0, .float 0, .float 0, .int x4, .int x5] [] (ev_mk h I L)).trans rfl
set_option maxRecDepth 100000 in
theorem e_Notices_agreeWith_0 (d : Nat) (h : Bool × Nat × Nat) (I : Nat → Nat → Int32) (L : Nat → Nat → Int64) : ev_do (d + 1) M_Notices_agreeWith [.ref 129, .ref 133] (ev_mk h I L) =
  ev_at d M_Notices_agreeWith 2 [.ref 129, .ref 133, .int 0] [] (ev_mk h I L) := 
  (ev_eq true (ev_call true d) M_Notices_agreeWith 0 [.ref 129, .ref 133, .float 0] [] (ev_mk h I L)).trans rfl
set_option maxRecDepth 100000 in
theorem e_Notices_agreeWith_2 (d : Nat) (x2 : Int32) (h : Bool × Nat × Nat) (I : Nat → Nat → Int32) (L : Nat → Nat → Int64) : ev_at d M_Notices_agreeWith 2 [.ref 129, .ref 133, .int x2] [] (ev_mk h I L) =
  (if x2 < (I 129 3) then
    (if ev_in x2 12 then
      (if ev_in (I 130 x2.toNatClampNeg) 8 then
        (if ev_in x2 12 then
          (if ev_in (I 131 x2.toNatClampNeg) 8 then
            (if (I 133 ((I 130 x2.toNatClampNeg).toNatClampNeg)) = (I 133 ((I 131 x2.toNatClampNeg).toNatClampNeg)) then
              ev_at d M_Notices_agreeWith 34 [.ref 129, .ref 133, .int x2] [.int 1] (ev_mk h I L)
            else
              ev_at d M_Notices_agreeWith 34 [.ref 129, .ref 133, .int x2] [.int 0] (ev_mk h I L))
          else none)
        else none)
      else none)
    else none)
  else
    ev_ri 1 (ev_mk h I L)) := 
  (ev_eq true (ev_call true d) M_Notices_agreeWith 2 [.ref 129, .ref 133, .int x2] [] (ev_mk h I L)).trans rfl
set_option maxRecDepth 100000 in
theorem e_Notices_agreeWith_34 (d : Nat) (x2 y0 : Int32) (h : Bool × Nat × Nat) (I : Nat → Nat → Int32) (L : Nat → Nat → Int64) : ev_at d M_Notices_agreeWith 34 [.ref 129, .ref 133, .int x2] [.int y0] (ev_mk h I L) =
  (if ev_in x2 12 then
    (if y0 = (I 132 x2.toNatClampNeg) then
      ev_at d M_Notices_agreeWith 2 [.ref 129, .ref 133, .int (x2 + 1)] [] (ev_mk h I L)
    else
      ev_ri 0 (ev_mk h I L))
  else none) := 
  (ev_eq true (ev_call true d) M_Notices_agreeWith 34 [.ref 129, .ref 133, .int x2] [.int y0] (ev_mk h I L)).trans rfl
set_option maxRecDepth 100000 in
theorem e_Notices_hasRoom_0 (d : Nat) (h : Bool × Nat × Nat) (I : Nat → Nat → Int32) (L : Nat → Nat → Int64) : ev_do (d + 1) M_Notices_hasRoom [.ref 129] (ev_mk h I L) =
  (if (I 129 3) < 12 then
    ev_ri 1 (ev_mk h I L)
  else
    ev_ri 0 (ev_mk h I L)) := 
  (ev_eq true (ev_call true d) M_Notices_hasRoom 0 [.ref 129] [] (ev_mk h I L)).trans rfl
set_option maxRecDepth 100000 in
theorem e_Notices_take_0 (d : Nat) (x1 x2 x3 : Int32) (h : Bool × Nat × Nat) (I : Nat → Nat → Int32) (L : Nat → Nat → Int64) : ev_do (d + 1) M_Notices_take [.ref 129, .int x1, .int x2, .int x3] (ev_mk h I L) =
  (if (I 129 3) < 12 then
    (if ev_in (I 129 3) 12 then
      (if ev_in (I 129 3) 12 then
        (if x3 = 1 then
          ev_at d M_Notices_take 47 [.ref 129, .float 0, .float 0, .float 0] [.int 1, .int (I 129 3), .ref 132] (ev_mk h (ev_up (ev_up I 130 ((I 129 3).toNatClampNeg) x1) 131 ((I 129 3).toNatClampNeg) x2) L)
        else
          ev_at d M_Notices_take 47 [.ref 129, .float 0, .float 0, .float 0] [.int 0, .int (I 129 3), .ref 132] (ev_mk h (ev_up (ev_up I 130 ((I 129 3).toNatClampNeg) x1) 131 ((I 129 3).toNatClampNeg) x2) L))
      else none)
    else none)
  else
    ev_rn (ev_mk h I L)) := 
  (ev_eq true (ev_call true d) M_Notices_take 0 [.ref 129, .int x1, .int x2, .int x3] [] (ev_mk h I L)).trans rfl
set_option maxRecDepth 100000 in
theorem e_Notices_take_47 (d : Nat) (y0 y1 : Int32) (h : Bool × Nat × Nat) (I : Nat → Nat → Int32) (L : Nat → Nat → Int64) : ev_at d M_Notices_take 47 [.ref 129, .float 0, .float 0, .float 0] [.int y0, .int y1, .ref 132] (ev_mk h I L) =
  (if ev_in y1 12 then
    ev_rn (ev_mk h (ev_up (ev_up I 132 y1.toNatClampNeg (vp_nar .boolean y0)) 129 3 ((I 129 3) + 1)) L)
  else none) := 
  (ev_eq true (ev_call true d) M_Notices_take 47 [.ref 129, .float 0, .float 0, .float 0] [.int y0, .int y1, .ref 132] (ev_mk h I L)).trans rfl
set_option maxRecDepth 100000 in
theorem e_Past_bringBack_0 (d : Nat) (h : Bool × Nat × Nat) (I : Nat → Nat → Int32) (L : Nat → Nat → Int64) : ev_do (d + 1) M_Past_bringBack [.ref 25, .ref 17] (ev_mk h I L) =
  (if (I 25 4) = 0 then
    ev_ri 0 (ev_mk h I L)
  else
    (if ev_in (I 25 3) 15 then
      ev_cV (ev_do d M_State_copy [.ref 17, (ev_rv (ev_R0 26 (I 25 3).toNatClampNeg))] (ev_mk h I L)) (fun s1 =>
        ev_ri 1 (ev_mk s1.1.2 (ev_up (ev_up s1.2.1 25 3 ((((s1.2.1 25 3) + 15) - 1) - (((s1.2.1 25 3) + 15) - 1) / 15 * 15)) 25 4 ((s1.2.1 25 4) - 1)) s1.2.2.1))
    else none)) := 
  (ev_eq true (ev_call true d) M_Past_bringBack 0 [.ref 25, .ref 17] [] (ev_mk h I L)).trans rfl
set_option maxRecDepth 100000 in
theorem e_Past_forgetAll_0 (d : Nat) (h : Bool × Nat × Nat) (I : Nat → Nat → Int32) (L : Nat → Nat → Int64) : ev_do (d + 1) M_Past_forgetAll [.ref 25] (ev_mk h I L) =
  ev_at d M_Past_forgetAll 7 [.ref 25, .int 0] [] (ev_mk h (ev_up I 25 4 0) L) := 
  (ev_eq true (ev_call true d) M_Past_forgetAll 0 [.ref 25, .float 0] [] (ev_mk h I L)).trans rfl
set_option maxRecDepth 100000 in
theorem e_Past_forgetAll_7 (d : Nat) (x1 : Int32) (h : Bool × Nat × Nat) (I : Nat → Nat → Int32) (L : Nat → Nat → Int64) : ev_at d M_Past_forgetAll 7 [.ref 25, .int x1] [] (ev_mk h I L) =
  (if x1 < 3 then
    (if ev_in x1 3 then
      ev_at d M_Past_forgetAll 7 [.ref 25, .int (x1 + 1)] [] (ev_mk h (ev_up I 28 x1.toNatClampNeg 0) L)
    else none)
  else
    ev_rn (ev_mk h I L)) := 
  (ev_eq true (ev_call true d) M_Past_forgetAll 7 [.ref 25, .int x1] [] (ev_mk h I L)).trans rfl
set_option maxRecDepth 100000 in
theorem e_Past_keepUnder_0 (d : Nat) (x1 : Int32) (h : Bool × Nat × Nat) (I : Nat → Nat → Int32) (L : Nat → Nat → Int64) : ev_do (d + 1) M_Past_keepUnder [.ref 25, .int x1, .ref 17] (ev_mk h I L) =
  (if x1 < 0 then
    ev_ri 0 (ev_mk h I L)
  else
    (if x1 < 3 then
      (if ev_in x1 3 then
        ev_rc true ev_N0 6 [(ev_rv (ev_R0 27 x1.toNatClampNeg)), .ref 17] (ev_cV (ev_do d M_State_copy [(ev_rv (ev_R0 27 x1.toNatClampNeg)), .ref 17] (ev_mk h I L)) (fun s1 =>
          (if ev_in x1 3 then
            ev_ri 1 (ev_mk s1.1.2 (ev_up s1.2.1 28 x1.toNatClampNeg 1) s1.2.2.1)
          else none)))
      else none)
    else
      ev_ri 0 (ev_mk h I L))) := 
  (ev_eq true (ev_call true d) M_Past_keepUnder 0 [.ref 25, .int x1, .ref 17] [] (ev_mk h I L)).trans rfl
set_option maxRecDepth 100000 in
theorem e_Past_remember_0 (d : Nat) {k1 : Nat} (hk1 : k1 = 17 ∨ k1 = 21) (h : Bool × Nat × Nat) (I : Nat → Nat → Int32) (L : Nat → Nat → Int64) : ev_do (d + 1) M_Past_remember [.ref 25, .ref k1] (ev_mk h I L) =
  (if ev_in (((I 25 3) + 1) - ((I 25 3) + 1) / 15 * 15) 15 then
    ev_rc true ev_N0 6 [(ev_rv (ev_R0 26 (((I 25 3) + 1) - ((I 25 3) + 1) / 15 * 15).toNatClampNeg)), .ref k1] (ev_cV (ev_do d M_State_copy [(ev_rv (ev_R0 26 (((I 25 3) + 1) - ((I 25 3) + 1) / 15 * 15).toNatClampNeg)), .ref k1] (ev_mk h (ev_up I 25 3 (((I 25 3) + 1) - ((I 25 3) + 1) / 15 * 15)) L)) (fun s1 =>
      ev_rn (ev_mk s1.1.2 (ev_up s1.2.1 25 4 (if 15 < ((s1.2.1 25 4) + 1) then 15 else ((s1.2.1 25 4) + 1))) s1.2.2.1)))
  else none) := by
  rcases hk1 with rfl | rfl <;> exact (ev_eq true (ev_call true d) M_Past_remember 0 _ _ (ev_mk h I L)).trans rfl
set_option maxRecDepth 100000 in
theorem e_Past_takeUp_0 (d : Nat) (x1 : Int32) (h : Bool × Nat × Nat) (I : Nat → Nat → Int32) (L : Nat → Nat → Int64) : ev_do (d + 1) M_Past_takeUp [.ref 25, .int x1, .ref 17] (ev_mk h I L) =
  (if x1 < 0 then
    ev_ri 0 (ev_mk h I L)
  else
    (if x1 < 3 then
      (if ev_in x1 3 then
        (if (I 28 x1.toNatClampNeg) = 0 then
          ev_ri 0 (ev_mk h I L)
        else
          (if ev_in x1 3 then
            ev_cV (ev_do d M_State_copy [.ref 17, (ev_rv (ev_R0 27 x1.toNatClampNeg))] (ev_mk h I L)) (fun s1 =>
              ev_ri 1 (ev_mk s1.1.2 (ev_up s1.2.1 25 4 0) s1.2.2.1))
          else none))
      else none)
    else
      ev_ri 0 (ev_mk h I L))) := 
  (ev_eq true (ev_call true d) M_Past_takeUp 0 [.ref 25, .int x1, .ref 17] [] (ev_mk h I L)).trans rfl
set_option maxRecDepth 100000 in
theorem e_Pre_checkIndex_0 (d : Nat) (x0 x1 : Int32) (h : Bool × Nat × Nat) (I : Nat → Nat → Int32) (L : Nat → Nat → Int64) : ev_do (d + 1) M_Pre_checkIndex [.int x0, .int x1, .retAddr 0] (ev_mk h I L) =
  (if x0 < 0 then
    ev_at d M_Pre_checkIndex 9 [.int x0, .int x1, .retAddr 0] [] (ev_mk h I L)
  else
    (if x0 < x1 then
      ev_ri x0 (ev_mk h I L)
    else
      ev_at d M_Pre_checkIndex 9 [.int x0, .int x1, .retAddr 0] [] (ev_mk h I L))) := 
  (ev_eq true (ev_call true d) M_Pre_checkIndex 0 [.int x0, .int x1, .retAddr 0] [] (ev_mk h I L)).trans rfl
set_option maxRecDepth 100000 in
theorem e_Pre_checkIndex_9 (d : Nat) (x0 x1 : Int32) (h : Bool × Nat × Nat) (I : Nat → Nat → Int32) (L : Nat → Nat → Int64) : ev_at d M_Pre_checkIndex 9 [.int x0, .int x1, .retAddr 0] [] (ev_mk h I L) =
  none := 
  (ev_eq true (ev_call true d) M_Pre_checkIndex 9 [.int x0, .int x1, .retAddr 0] [] (ev_mk h I L)).trans rfl
set_option maxRecDepth 100000 in
theorem e_Row_tell_0 (d : Nat) (x1 : Int64) (h : Bool × Nat × Nat) (I : Nat → Nat → Int32) (L : Nat → Nat → Int64) : ev_do (d + 1) M_Row_tell [.ref 3, .long x1] (ev_mk h I L) =
  (if (I 3 1) < 9 then
    (if ev_in (I 3 1) 9 then
      ev_rn (ev_mk h (ev_up I 3 1 ((I 3 1) + 1)) (ev_up L 4 (I 3 1).toNatClampNeg x1))
    else none)
  else
    ev_rn (ev_mk h I L)) := 
  (ev_eq true (ev_call true d) M_Row_tell 0 [.ref 3, .long x1, .float 0] [] (ev_mk h I L)).trans rfl
set_option maxRecDepth 100000 in
theorem e_Row_tellFraction_0 (d : Nat) (x1 x2 : Int64) (h : Bool × Nat × Nat) (I : Nat → Nat → Int32) (L : Nat → Nat → Int64) : ev_do (d + 1) M_Row_tellFraction [.ref 3, .long x1, .long x2] (ev_mk h I L) =
  (if (lg_cmp x1 0) = 0 then
    ev_at d M_Row_tellFraction 12 [.ref 3, .float 0, .float 0, .float 0, .float 0, .float 0, .float 0, .float 0, .float 0, .float 0, .float 0, .float 0] [] (ev_mk h I L)
  else
    (if (lg_cmp x2 0) = 0 then
      ev_at d M_Row_tellFraction 12 [.ref 3, .float 0, .float 0, .float 0, .float 0, .float 0, .float 0, .float 0, .float 0, .float 0, .float 0, .float 0] [] (ev_mk h I L)
    else
      ev_at d M_Row_tellFraction 28 [.ref 3, .long x1, .float 0, .long x2, .float 0, .long x1, .float 0, .long x2, .float 0, .int 0, .float 0, .float 0] [] (ev_mk h I L))) := 
  (ev_eq true (ev_call true d) M_Row_tellFraction 0 [.ref 3, .long x1, .float 0, .long x2, .float 0, .float 0, .float 0, .float 0, .float 0, .float 0, .float 0, .float 0] [] (ev_mk h I L)).trans rfl
set_option maxRecDepth 100000 in
theorem e_Row_tellFraction_12 (d : Nat) (h : Bool × Nat × Nat) (I : Nat → Nat → Int32) (L : Nat → Nat → Int64) : ev_at d M_Row_tellFraction 12 [.ref 3, .float 0, .float 0, .float 0, .float 0, .float 0, .float 0, .float 0, .float 0, .float 0, .float 0, .float 0] [] (ev_mk h I L) =
  ev_cV (ev_do d M_Row_tellTwo [.ref 3, .long 0, .long 1] (ev_mk h I L)) (fun s1 =>
    ev_rn (ev_mk s1.1.2 s1.2.1 s1.2.2.1)) := 
  (ev_eq true (ev_call true d) M_Row_tellFraction 12 [.ref 3, .float 0, .float 0, .float 0, .float 0, .float 0, .float 0, .float 0, .float 0, .float 0, .float 0, .float 0] [] (ev_mk h I L)).trans rfl
set_option maxRecDepth 100000 in
theorem e_Row_tellFraction_28 (d : Nat) (x9 : Int32) (x1 x3 x5 x7 : Int64) (h : Bool × Nat × Nat) (I : Nat → Nat → Int32) (L : Nat → Nat → Int64) : ev_at d M_Row_tellFraction 28 [.ref 3, .long x1, .float 0, .long x3, .float 0, .long x5, .float 0, .long x7, .float 0, .int x9, .float 0, .float 0] [] (ev_mk h I L) =
  (if x9 < 100 then
    (if (lg_cmp x7 0) = 0 then
      ev_at d M_Row_tellFraction 63 [.ref 3, .long x1, .float 0, .long x3, .float 0, .long x5, .float 0, .float 0, .float 0, .float 0, .float 0, .float 0] [] (ev_mk h I L)
    else
      (if x7 = 0 then
        none
      else
        ev_at d M_Row_tellFraction 28 [.ref 3, .long x1, .float 0, .long x3, .float 0, .long x7, .float 0, .long (x5 - x5 / x7 * x7), .float 0, .int (x9 + 1), .float 0, .float 0] [] (ev_mk h I L)))
  else
    ev_at d M_Row_tellFraction 63 [.ref 3, .long x1, .float 0, .long x3, .float 0, .long x5, .float 0, .float 0, .float 0, .float 0, .float 0, .float 0] [] (ev_mk h I L)) := 
  (ev_eq true (ev_call true d) M_Row_tellFraction 28 [.ref 3, .long x1, .float 0, .long x3, .float 0, .long x5, .float 0, .long x7, .float 0, .int x9, .float 0, .float 0] [] (ev_mk h I L)).trans rfl
set_option maxRecDepth 100000 in
theorem e_Row_tellFraction_63 (d : Nat) (x1 x3 x5 : Int64) (h : Bool × Nat × Nat) (I : Nat → Nat → Int32) (L : Nat → Nat → Int64) : ev_at d M_Row_tellFraction 63 [.ref 3, .long x1, .float 0, .long x3, .float 0, .long x5, .float 0, .float 0, .float 0, .float 0, .float 0, .float 0] [] (ev_mk h I L) =
  (if (lg_cmp x5 0) = 0 then
    ev_rn (ev_mk h I L)
  else
    (if x5 = 0 then
      none
    else
      (if x5 = 0 then
        none
      else
        ev_cV (ev_do d M_Row_tellTwo [.ref 3, .long (x1 / x5), .long (x3 / x5)] (ev_mk h I L)) (fun s1 =>
          ev_rn (ev_mk s1.1.2 s1.2.1 s1.2.2.1))))) := 
  (ev_eq true (ev_call true d) M_Row_tellFraction 63 [.ref 3, .long x1, .float 0, .long x3, .float 0, .long x5, .float 0, .float 0, .float 0, .float 0, .float 0, .float 0] [] (ev_mk h I L)).trans rfl
set_option maxRecDepth 100000 in
theorem e_Row_tellTwo_0 (d : Nat) (x1 x2 : Int64) (h : Bool × Nat × Nat) (I : Nat → Nat → Int32) (L : Nat → Nat → Int64) : ev_do (d + 1) M_Row_tellTwo [.ref 3, .long x1, .long x2] (ev_mk h I L) =
  ev_cV (ev_do d M_Row_tell [.ref 3, .long x1] (ev_mk h (ev_up I 3 1 0) L)) (fun s1 =>
    ev_cV (ev_do d M_Row_tell [.ref 3, .long x2] (ev_mk s1.1.2 s1.2.1 s1.2.2.1)) (fun s2 =>
      ev_rn (ev_mk s2.1.2 s2.2.1 s2.2.2.1))) := 
  (ev_eq true (ev_call true d) M_Row_tellTwo 0 [.ref 3, .long x1, .float 0, .long x2, .float 0] [] (ev_mk h I L)).trans rfl
set_option maxRecDepth 100000 in
theorem e_Rule_accepts_0 (d : Nat) (x1 : Int32) (h : Bool × Nat × Nat) (I : Nat → Nat → Int32) (L : Nat → Nat → Int64) : ev_do (d + 1) M_Rule_accepts [.ref 105, .int x1] (ev_mk h I L) =
  (if x1 < 48 then
    ev_at d M_Rule_accepts 21 [.ref 105, .int x1, .float 0] [] (ev_mk h I L)
  else
    (if 57 < x1 then
      ev_at d M_Rule_accepts 21 [.ref 105, .int x1, .float 0] [] (ev_mk h I L)
    else
      ev_cI (ev_do d M_Rule_acceptsDigit [.ref 105, .int (x1 - 48)] (ev_mk h I L)) (fun v2 s1 =>
        (if ev_fit .boolean v2 then ev_ri v2 (ev_mk s1.1.2 s1.2.1 s1.2.2.1) else none)))) := 
  (ev_eq true (ev_call true d) M_Rule_accepts 0 [.ref 105, .int x1, .float 0] [] (ev_mk h I L)).trans rfl
set_option maxRecDepth 100000 in
theorem e_Rule_accepts_21 (d : Nat) (x1 : Int32) (h : Bool × Nat × Nat) (I : Nat → Nat → Int32) (L : Nat → Nat → Int64) : ev_at d M_Rule_accepts 21 [.ref 105, .int x1, .float 0] [] (ev_mk h I L) =
  (if (I 105 7) = 0 then
    (if x1 = 41 then
      ev_cI (ev_do d M_Rule_closes [.ref 105] (ev_mk h (ev_up I 105 6 0) L)) (fun v2 s1 =>
        (if ev_fit .boolean v2 then ev_ri v2 (ev_mk s1.1.2 s1.2.1 s1.2.2.1) else none))
    else
      ev_cI (ev_do d M_Rule_acceptsBetween [.ref 105, .int x1] (ev_mk h (ev_up I 105 6 0) L)) (fun v4 s3 =>
        (if ev_fit .boolean v4 then ev_ri v4 (ev_mk s3.1.2 s3.2.1 s3.2.2.1) else none)))
  else
    (if x1 = 45 then
      ev_cV (ev_do d M_Rule_push [.ref 105, .int 256] (ev_mk h (ev_up I 105 6 0) L)) (fun s5 =>
        ev_ri 1 (ev_mk s5.1.2 s5.2.1 s5.2.2.1))
    else
      (if x1 = 40 then
        ev_cI (ev_do d M_Rule_opens [.ref 105] (ev_mk h (ev_up I 105 6 0) L)) (fun v7 s6 =>
          (if ev_fit .boolean v7 then ev_ri v7 (ev_mk s6.1.2 s6.2.1 s6.2.2.1) else none))
      else
        ev_cI (ev_do d M_Str_indexOf [.ref 900002, .int x1] (ev_mk h (ev_up I 105 6 0) L)) (fun v9 s8 =>
          (if v9 < 0 then
            ev_ri 0 (ev_mk s8.1.2 s8.2.1 s8.2.2.1)
          else
            ev_cV (ev_do d M_Rule_emit [.ref 105, .int ((-1) - v9)] (ev_mk s8.1.2 s8.2.1 s8.2.2.1)) (fun s10 =>
              ev_ri 1 (ev_mk s10.1.2 (ev_up s10.2.1 105 7 0) s10.2.2.1))))))) := 
  (ev_eq true (ev_call true d) M_Rule_accepts 21 [.ref 105, .int x1, .float 0] [] (ev_mk h I L)).trans rfl
set_option maxRecDepth 100000 in
theorem e_Rule_acceptsBetween_0 (d : Nat) (x1 : Int32) (h : Bool × Nat × Nat) (I : Nat → Nat → Int32) (L : Nat → Nat → Int64) : ev_do (d + 1) M_Rule_acceptsBetween [.ref 105, .int x1] (ev_mk h I L) =
  ev_cI (ev_do d M_Rule_rankOf [.int x1] (ev_mk h I L)) (fun v2 s1 =>
    (if v2 = 0 then
      ev_ri 0 (ev_mk s1.1.2 s1.2.1 s1.2.2.1)
    else
      (if v2 = 1 then
        (if ev_in (s1.2.1 105 5) 5 then
          (if (s1.2.1 108 ((s1.2.1 105 5).toNatClampNeg)) = 0 then
            ev_at d M_Rule_acceptsBetween 28 [.ref 105, .int x1, .int v2] [] (ev_mk s1.1.2 s1.2.1 s1.2.2.1)
          else
            ev_ri 0 (ev_mk s1.1.2 s1.2.1 s1.2.2.1))
        else none)
      else
        ev_at d M_Rule_acceptsBetween 28 [.ref 105, .int x1, .int v2] [] (ev_mk s1.1.2 s1.2.1 s1.2.2.1)))) := 
  (ev_eq true (ev_call true d) M_Rule_acceptsBetween 0 [.ref 105, .int x1, .float 0] [] (ev_mk h I L)).trans rfl
set_option maxRecDepth 100000 in
theorem e_Rule_acceptsBetween_28 (d : Nat) (x1 x2 : Int32) (h : Bool × Nat × Nat) (I : Nat → Nat → Int32) (L : Nat → Nat → Int64) : ev_at d M_Rule_acceptsBetween 28 [.ref 105, .int x1, .int x2] [] (ev_mk h I L) =
  (if ev_in (I 105 5) 5 then
    (if (I 108 ((I 105 5).toNatClampNeg)) = 0 then
      (if x2 = 1 then
        ev_at d M_Rule_acceptsBetween 58 [.ref 105, .int x1, .int x2] [.int 1, .int (I 105 5), .ref 108] (ev_mk h I L)
      else
        ev_at d M_Rule_acceptsBetween 58 [.ref 105, .int x1, .int x2] [.int 0, .int (I 105 5), .ref 108] (ev_mk h I L))
    else
      ev_at d M_Rule_acceptsBetween 58 [.ref 105, .int x1, .int x2] [.int 1, .int (I 105 5), .ref 108] (ev_mk h I L))
  else none) := 
  (ev_eq true (ev_call true d) M_Rule_acceptsBetween 28 [.ref 105, .int x1, .int x2] [] (ev_mk h I L)).trans rfl
set_option maxRecDepth 100000 in
theorem e_Rule_acceptsBetween_58 (d : Nat) (x1 x2 y0 y1 : Int32) (h : Bool × Nat × Nat) (I : Nat → Nat → Int32) (L : Nat → Nat → Int64) : ev_at d M_Rule_acceptsBetween 58 [.ref 105, .int x1, .int x2] [.int y0, .int y1, .ref 108] (ev_mk h I L) =
  (if ev_in y1 5 then
    ev_cV (ev_do d M_Rule_moveDownTo [.ref 105, .int x2] (ev_mk h (ev_up I 108 y1.toNatClampNeg (vp_nar .boolean y0)) L)) (fun s1 =>
      ev_cV (ev_do d M_Rule_push [.ref 105, .int x1] (ev_mk s1.1.2 s1.2.1 s1.2.2.1)) (fun s2 =>
        ev_ri 1 (ev_mk s2.1.2 (ev_up s2.2.1 105 7 1) s2.2.2.1)))
  else none) := 
  (ev_eq true (ev_call true d) M_Rule_acceptsBetween 58 [.ref 105, .int x1, .int x2] [.int y0, .int y1, .ref 108] (ev_mk h I L)).trans rfl
set_option maxRecDepth 100000 in
theorem e_Rule_acceptsDigit_0 (d : Nat) (x1 : Int32) (h : Bool × Nat × Nat) (I : Nat → Nat → Int32) (L : Nat → Nat → Int64) : ev_do (d + 1) M_Rule_acceptsDigit [.ref 105, .int x1] (ev_mk h I L) =
  (if (I 105 7) = 0 then
    (if (I 105 6) = 0 then
      ev_ri 0 (ev_mk h I L)
    else
      (if (I 105 6) = 3 then
        ev_ri 0 (ev_mk h I L)
      else
        (if (I 105 1) = 0 then
          ev_ri 0 (ev_mk h I L)
        else
          (if ev_in ((I 105 1) - 1) 40 then
            (if ev_in ((I 105 1) - 1) 40 then
              ev_ri 1 (ev_mk h (ev_up (ev_up I 106 (((I 105 1) - 1).toNatClampNeg) (((I 106 (((I 105 1) - 1).toNatClampNeg)) * 10) + x1)) 105 6 ((I 105 6) + 1)) L)
            else none)
          else none))))
  else
    ev_cV (ev_do d M_Rule_emit [.ref 105, .int x1] (ev_mk h I L)) (fun s1 =>
      ev_ri 1 (ev_mk s1.1.2 (ev_up (ev_up s1.2.1 105 6 1) 105 7 0) s1.2.2.1))) := 
  (ev_eq true (ev_call true d) M_Rule_acceptsDigit 0 [.ref 105, .int x1] [] (ev_mk h I L)).trans rfl
set_option maxRecDepth 100000 in
theorem e_Rule_bePlain_0 (d : Nat) (h : Bool × Nat × Nat) (I : Nat → Nat → Int32) (L : Nat → Nat → Int64) : ev_do (d + 1) M_Rule_bePlain [.ref 105] (ev_mk h I L) =
  ev_cV (ev_do d M_Rule_begin [.ref 105] (ev_mk h I L)) (fun s1 =>
    ev_at d M_Rule_bePlain 6 [.ref 105, .int 0] [] (ev_mk s1.1.2 s1.2.1 s1.2.2.1)) := 
  (ev_eq true (ev_call true d) M_Rule_bePlain 0 [.ref 105, .float 0] [] (ev_mk h I L)).trans rfl
set_option maxRecDepth 100000 in
theorem e_Rule_bePlain_6 (d : Nat) (x1 : Int32) (h : Bool × Nat × Nat) (I : Nat → Nat → Int32) (L : Nat → Nat → Int64) : ev_at d M_Rule_bePlain 6 [.ref 105, .int x1] [] (ev_mk h I L) =
  ev_cI (ev_do d M_Str_length [.ref 900000] (ev_mk h I L)) (fun v2 s1 =>
    (if x1 < v2 then
      ev_cI (ev_do d M_Str_charAt [.ref 900000, .int x1] (ev_mk s1.1.2 s1.2.1 s1.2.2.1)) (fun v4 s3 =>
        ev_cI (ev_do d M_Rule_accepts [.ref 105, .int v4] (ev_mk s3.1.2 s3.2.1 s3.2.2.1)) (fun v6 s5 =>
          ev_at d M_Rule_bePlain 6 [.ref 105, .int (x1 + 1)] [] (ev_mk s5.1.2 s5.2.1 s5.2.2.1)))
    else
      ev_cV (ev_do d M_Rule_moveDownTo [.ref 105, .int 1] (ev_mk s1.1.2 s1.2.1 s1.2.2.1)) (fun s7 =>
        ev_rn (ev_mk s7.1.2 s7.2.1 s7.2.2.1)))) := 
  (ev_eq true (ev_call true d) M_Rule_bePlain 6 [.ref 105, .int x1] [] (ev_mk h I L)).trans rfl
set_option maxRecDepth 100000 in
theorem e_Rule_begin_0 (d : Nat) (h : Bool × Nat × Nat) (I : Nat → Nat → Int32) (L : Nat → Nat → Int64) : ev_do (d + 1) M_Rule_begin [.ref 105] (ev_mk h I L) =
  ev_rn (ev_mk h (ev_up (ev_up (ev_up (ev_up (ev_up (ev_up I 105 1 0) 105 3 0) 105 5 0) 105 6 0) 105 7 1) 108 0 0) L) := 
  (ev_eq true (ev_call true d) M_Rule_begin 0 [.ref 105] [] (ev_mk h I L)).trans rfl
set_option maxRecDepth 100000 in
theorem e_Rule_between_0 (d : Nat) (x0 x1 x2 : Int32) (h : Bool × Nat × Nat) (I : Nat → Nat → Int32) (L : Nat → Nat → Int64) : ev_do (d + 1) M_Rule_between [.int x0, .int x1, .int x2] (ev_mk h I L) =
  (if x0 = 42 then
    ev_ri (x1 * x2) (ev_mk h I L)
  else (if x0 = 43 then
    ev_ri (x1 + x2) (ev_mk h I L)
  else (if x0 = 45 then
    ev_ri (x1 - x2) (ev_mk h I L)
  else (if x0 = 60 then
    (if x1 < x2 then
      ev_ri 1 (ev_mk h I L)
    else
      ev_ri 0 (ev_mk h I L))
  else (if x0 = 61 then
    (if x1 = x2 then
      ev_ri 1 (ev_mk h I L)
    else
      ev_ri 0 (ev_mk h I L))
  else (if x0 = 62 then
    (if x2 < x1 then
      ev_ri 1 (ev_mk h I L)
    else
      ev_ri 0 (ev_mk h I L))
  else (if x2 = 0 then
      ev_ri 0 (ev_mk h I L)
    else
      (if x2 = 0 then
        none
      else
        ev_ri (x1 / x2) (ev_mk h I L))))))))) := 
  (ev_eq true (ev_call true d) M_Rule_between 0 [.int x0, .int x1, .int x2] [] (ev_mk h I L)).trans rfl
set_option maxRecDepth 100000 in
theorem e_Rule_closes_0 (d : Nat) (h : Bool × Nat × Nat) (I : Nat → Nat → Int32) (L : Nat → Nat → Int64) : ev_do (d + 1) M_Rule_closes [.ref 105] (ev_mk h I L) =
  (if (I 105 5) = 0 then
    ev_ri 0 (ev_mk h I L)
  else
    ev_cV (ev_do d M_Rule_moveDownTo [.ref 105, .int 1] (ev_mk h (ev_up I 105 5 ((I 105 5) - 1)) L)) (fun s1 =>
      ev_cI (ev_do d M_Rule_pop [.ref 105] (ev_mk s1.1.2 s1.2.1 s1.2.2.1)) (fun v3 s2 =>
        ev_ri 1 (ev_mk s2.1.2 s2.2.1 s2.2.2.1)))) := 
  (ev_eq true (ev_call true d) M_Rule_closes 0 [.ref 105] [] (ev_mk h I L)).trans rfl
set_option maxRecDepth 100000 in
theorem e_Rule_copy_0 (d : Nat) (h : Bool × Nat × Nat) (I : Nat → Nat → Int32) (L : Nat → Nat → Int64) : ev_do (d + 1) M_Rule_copy [.ref 101, .ref 105] (ev_mk h I L) =
  ev_rn (ev_mk h (ev_up (ev_cp I 106 102 0 0 40) 101 1 ((ev_cp I 106 102 0 0 40) 105 1)) L) := 
  (ev_eq true (ev_call true d) M_Rule_copy 0 [.ref 101, .ref 105] [] (ev_mk h I L)).trans rfl
set_option maxRecDepth 100000 in
theorem e_Rule_emit_0 (d : Nat) (x1 : Int32) (h : Bool × Nat × Nat) (I : Nat → Nat → Int32) (L : Nat → Nat → Int64) : ev_do (d + 1) M_Rule_emit [.ref 105, .int x1] (ev_mk h I L) =
  (if (I 105 1) < 40 then
    (if ev_in (I 105 1) 40 then
      ev_rn (ev_mk h (ev_up (ev_up I 106 ((I 105 1).toNatClampNeg) x1) 105 1 ((I 105 1) + 1)) L)
    else none)
  else
    ev_rn (ev_mk h I L)) := 
  (ev_eq true (ev_call true d) M_Rule_emit 0 [.ref 105, .int x1] [] (ev_mk h I L)).trans rfl
set_option maxRecDepth 100000 in
theorem e_Rule_moveDownTo_0 (d : Nat) (x1 : Int32) (h : Bool × Nat × Nat) (I : Nat → Nat → Int32) (L : Nat → Nat → Int64) : ev_do (d + 1) M_Rule_moveDownTo [.ref 105, .int x1] (ev_mk h I L) =
  ev_at d M_Rule_moveDownTo 5 [.ref 105, .int x1, .int (I 105 3)] [] (ev_mk h I L) := 
  (ev_eq true (ev_call true d) M_Rule_moveDownTo 0 [.ref 105, .int x1, .float 0] [] (ev_mk h I L)).trans rfl
set_option maxRecDepth 100000 in
theorem e_Rule_moveDownTo_5 (d : Nat) (x1 x2 : Int32) (h : Bool × Nat × Nat) (I : Nat → Nat → Int32) (L : Nat → Nat → Int64) : ev_at d M_Rule_moveDownTo 5 [.ref 105, .int x1, .int x2] [] (ev_mk h I L) =
  (if 0 < x2 then
    (if ev_in (x2 - 1) 40 then
      ev_cI (ev_do d M_Rule_rankOf [.int (I 107 ((x2 - 1).toNatClampNeg))] (ev_mk h I L)) (fun v2 s1 =>
        (if v2 < x1 then
          ev_rn (ev_mk s1.1.2 s1.2.1 s1.2.2.1)
        else
          ev_cI (ev_do d M_Rule_pop [.ref 105] (ev_mk s1.1.2 s1.2.1 s1.2.2.1)) (fun v4 s3 =>
            ev_cV (ev_do d M_Rule_emit [.ref 105, .int (-v4)] (ev_mk s3.1.2 s3.2.1 s3.2.2.1)) (fun s5 =>
              ev_at d M_Rule_moveDownTo 5 [.ref 105, .int x1, .int (x2 + (-1))] [] (ev_mk s5.1.2 s5.2.1 s5.2.2.1)))))
    else none)
  else
    ev_rn (ev_mk h I L)) := 
  (ev_eq true (ev_call true d) M_Rule_moveDownTo 5 [.ref 105, .int x1, .int x2] [] (ev_mk h I L)).trans rfl
set_option maxRecDepth 100000 in
theorem e_Rule_opens_0 (d : Nat) (h : Bool × Nat × Nat) (I : Nat → Nat → Int32) (L : Nat → Nat → Int64) : ev_do (d + 1) M_Rule_opens [.ref 105] (ev_mk h I L) =
  (if (I 105 5) = 4 then
    ev_ri 0 (ev_mk h I L)
  else
    (if ev_in ((I 105 5) + 1) 5 then
      ev_cV (ev_do d M_Rule_push [.ref 105, .int 40] (ev_mk h (ev_up (ev_up I 105 5 ((I 105 5) + 1)) 108 (((I 105 5) + 1).toNatClampNeg) 0) L)) (fun s1 =>
        ev_ri 1 (ev_mk s1.1.2 s1.2.1 s1.2.2.1))
    else none)) := 
  (ev_eq true (ev_call true d) M_Rule_opens 0 [.ref 105] [] (ev_mk h I L)).trans rfl
set_option maxRecDepth 100000 in
theorem e_Rule_pop_0 (d : Nat) {k0 : Nat} (hk0 : k0 = 101 ∨ k0 = 105) (h : Bool × Nat × Nat) (I : Nat → Nat → Int32) (L : Nat → Nat → Int64) : ev_do (d + 1) M_Rule_pop [.ref k0] (ev_mk h I L) =
  (if (I k0 3) = 0 then
    ev_ri 0 (ev_mk h I L)
  else
    (if ev_in ((I k0 3) - 1) 40 then
      ev_ri (I (k0 + 2) (((I k0 3) - 1).toNatClampNeg)) (ev_mk h (ev_up I k0 3 ((I k0 3) - 1)) L)
    else none)) := by
  rcases hk0 with rfl | rfl <;> exact (ev_eq true (ev_call true d) M_Rule_pop 0 _ _ (ev_mk h I L)).trans rfl
set_option maxRecDepth 100000 in
theorem e_Rule_push_0 (d : Nat) (x1 : Int32) {k0 : Nat} (hk0 : k0 = 101 ∨ k0 = 105) (h : Bool × Nat × Nat) (I : Nat → Nat → Int32) (L : Nat → Nat → Int64) : ev_do (d + 1) M_Rule_push [.ref k0, .int x1] (ev_mk h I L) =
  (if (I k0 3) < 40 then
    (if ev_in (I k0 3) 40 then
      ev_rn (ev_mk h (ev_up (ev_up I (k0 + 2) ((I k0 3).toNatClampNeg) x1) k0 3 ((I k0 3) + 1)) L)
    else none)
  else
    ev_rn (ev_mk h I L)) := by
  rcases hk0 with rfl | rfl <;> exact (ev_eq true (ev_call true d) M_Rule_push 0 _ _ (ev_mk h I L)).trans rfl
set_option maxRecDepth 100000 in
theorem e_Rule_rankOf_0 (d : Nat) (x0 : Int32) (h : Bool × Nat × Nat) (I : Nat → Nat → Int32) (L : Nat → Nat → Int64) : ev_do (d + 1) M_Rule_rankOf [.int x0] (ev_mk h I L) =
  (if x0 = 42 then
    ev_ri 3 (ev_mk h I L)
  else (if x0 = 43 then
    ev_ri 2 (ev_mk h I L)
  else (if x0 = 45 then
    ev_ri 2 (ev_mk h I L)
  else (if x0 = 47 then
    ev_ri 3 (ev_mk h I L)
  else (if x0 = 60 then
    ev_ri 1 (ev_mk h I L)
  else (if x0 = 61 then
    ev_ri 1 (ev_mk h I L)
  else (if x0 = 62 then
    ev_ri 1 (ev_mk h I L)
  else (if x0 = 256 then
    ev_ri 4 (ev_mk h I L)
  else ev_ri 0 (ev_mk h I L))))))))) := 
  (ev_eq true (ev_call true d) M_Rule_rankOf 0 [.int x0] [] (ev_mk h I L)).trans rfl
set_option maxRecDepth 100000 in
theorem e_Rule_read_0 (d : Nat) (h : Bool × Nat × Nat) (I : Nat → Nat → Int32) (L : Nat → Nat → Int64) : ev_do (d + 1) M_Rule_read [.ref 105, .ref 1] (ev_mk h I L) =
  (if (I 1 1) = 0 then
    ev_cV (ev_do d M_Rule_bePlain [.ref 105] (ev_mk h I L)) (fun s1 =>
      ev_ri (-1) (ev_mk s1.1.2 s1.2.1 s1.2.2.1))
  else
    ev_cV (ev_do d M_Rule_begin [.ref 105] (ev_mk h I L)) (fun s2 =>
      ev_at d M_Rule_read 29 [.ref 105, .ref 1, .int (if 40 < (s2.2.1 1 1) then 40 else (s2.2.1 1 1)), .int 0] [] (ev_mk s2.1.2 s2.2.1 s2.2.2.1))) := 
  (ev_eq true (ev_call true d) M_Rule_read 0 [.ref 105, .ref 1, .float 0, .float 0] [] (ev_mk h I L)).trans rfl
set_option maxRecDepth 100000 in
theorem e_Rule_read_29 (d : Nat) (x2 x3 : Int32) (h : Bool × Nat × Nat) (I : Nat → Nat → Int32) (L : Nat → Nat → Int64) : ev_at d M_Rule_read 29 [.ref 105, .ref 1, .int x2, .int x3] [] (ev_mk h I L) =
  (if x3 < x2 then
    ev_cI (ev_do d M_Text_signAt [.ref 1, .int x3] (ev_mk h I L)) (fun v2 s1 =>
      ev_cI (ev_do d M_Rule_accepts [.ref 105, .int v2] (ev_mk s1.1.2 s1.2.1 s1.2.2.1)) (fun v4 s3 =>
        (if v4 = 0 then
          ev_ri x3 (ev_mk s3.1.2 s3.2.1 s3.2.2.1)
        else
          ev_at d M_Rule_read 29 [.ref 105, .ref 1, .int x2, .int (x3 + 1)] [] (ev_mk s3.1.2 s3.2.1 s3.2.2.1))))
  else
    (if 40 < (I 1 1) then
      ev_ri x2 (ev_mk h I L)
    else
      (if (I 105 7) = 0 then
        (if 0 < (I 105 5) then
          ev_ri x2 (ev_mk h I L)
        else
          ev_cV (ev_do d M_Rule_moveDownTo [.ref 105, .int 1] (ev_mk h I L)) (fun s5 =>
            ev_ri (-1) (ev_mk s5.1.2 s5.2.1 s5.2.2.1)))
      else
        ev_ri x2 (ev_mk h I L)))) := 
  (ev_eq true (ev_call true d) M_Rule_read 29 [.ref 105, .ref 1, .int x2, .int x3] [] (ev_mk h I L)).trans rfl
set_option maxRecDepth 100000 in
theorem e_Rule_workOut_0 (d : Nat) {k0 : Nat} (hk0 : k0 = 101 ∨ k0 = 105) (h : Bool × Nat × Nat) (I : Nat → Nat → Int32) (L : Nat → Nat → Int64) : ev_do (d + 1) M_Rule_workOut [.ref k0, .ref 111] (ev_mk h I L) =
  ev_at d M_Rule_workOut 7 [.ref k0, .ref 111, .int 0, .float 0, .float 0] [] (ev_mk h (ev_up I k0 3 0) L) := by
  rcases hk0 with rfl | rfl <;> exact (ev_eq true (ev_call true d) M_Rule_workOut 0 _ _ (ev_mk h I L)).trans rfl
set_option maxRecDepth 100000 in
theorem e_Rule_workOut_7 (d : Nat) (x2 : Int32) {k0 : Nat} (hk0 : k0 = 101 ∨ k0 = 105) (h : Bool × Nat × Nat) (I : Nat → Nat → Int32) (L : Nat → Nat → Int64) : ev_at d M_Rule_workOut 7 [.ref k0, .ref 111, .int x2, .float 0, .float 0] [] (ev_mk h I L) =
  (if x2 < (I k0 1) then
    (if ev_in x2 40 then
      (if (I (k0 + 1) x2.toNatClampNeg) < 0 then
        (if (I (k0 + 1) x2.toNatClampNeg) < (-7) then
          (if (I (k0 + 1) x2.toNatClampNeg) = (-256) then
            ev_cI (ev_do d M_Rule_pop [.ref k0] (ev_mk h I L)) (fun v2 s1 =>
              ev_cV (ev_do d M_Rule_push [.ref k0, .int (-v2)] (ev_mk s1.1.2 s1.2.1 s1.2.2.1)) (fun s3 =>
                ev_at d M_Rule_workOut 7 [.ref k0, .ref 111, .int (x2 + 1), .float 0, .float 0] [] (ev_mk s3.1.2 s3.2.1 s3.2.2.1)))
          else
            ev_cI (ev_do d M_Rule_pop [.ref k0] (ev_mk h I L)) (fun v5 s4 =>
              ev_cI (ev_do d M_Rule_pop [.ref k0] (ev_mk s4.1.2 s4.2.1 s4.2.2.1)) (fun v7 s6 =>
                ev_cI (ev_do d M_Rule_between [.int (-(I (k0 + 1) x2.toNatClampNeg)), .int v7, .int v5] (ev_mk s6.1.2 s6.2.1 s6.2.2.1)) (fun v9 s8 =>
                  ev_cV (ev_do d M_Rule_push [.ref k0, .int v9] (ev_mk s8.1.2 s8.2.1 s8.2.2.1)) (fun s10 =>
                    ev_at d M_Rule_workOut 7 [.ref k0, .ref 111, .int (x2 + 1), .float 0, .float 0] [] (ev_mk s10.1.2 s10.2.1 s10.2.2.1))))))
        else
          ev_at d M_Rule_workOut 46 [.ref k0, .ref 111, .int x2, .float 0, .float 0] [.int ((-1) - (I (k0 + 1) x2.toNatClampNeg)), .ref 111, .ref k0] (ev_mk h I L))
      else
        ev_cV (ev_do d M_Rule_push [.ref k0, .int (I (k0 + 1) x2.toNatClampNeg)] (ev_mk h I L)) (fun s11 =>
          ev_at d M_Rule_workOut 7 [.ref k0, .ref 111, .int (x2 + 1), .float 0, .float 0] [] (ev_mk s11.1.2 s11.2.1 s11.2.2.1)))
    else none)
  else
    ev_cI (ev_do d M_Rule_pop [.ref k0] (ev_mk h I L)) (fun v13 s12 =>
      ev_ri v13 (ev_mk s12.1.2 s12.2.1 s12.2.2.1))) := by
  rcases hk0 with rfl | rfl <;> exact (ev_eq true (ev_call true d) M_Rule_workOut 7 _ _ (ev_mk h I L)).trans rfl
set_option maxRecDepth 100000 in
theorem e_Rule_workOut_46 (d : Nat) (x2 y0 : Int32) {k0 : Nat} (hk0 : k0 = 101 ∨ k0 = 105) (h : Bool × Nat × Nat) (I : Nat → Nat → Int32) (L : Nat → Nat → Int64) : ev_at d M_Rule_workOut 46 [.ref k0, .ref 111, .int x2, .float 0, .float 0] [.int y0, .ref 111, .ref k0] (ev_mk h I L) =
  (if ev_in y0 7 then
    ev_cV (ev_do d M_Rule_push [.ref k0, .int (I 111 y0.toNatClampNeg)] (ev_mk h I L)) (fun s1 =>
      ev_at d M_Rule_workOut 7 [.ref k0, .ref 111, .int (x2 + 1), .float 0, .float 0] [] (ev_mk s1.1.2 s1.2.1 s1.2.2.1))
  else none) := by
  rcases hk0 with rfl | rfl <;> exact (ev_eq true (ev_call true d) M_Rule_workOut 46 _ _ (ev_mk h I L)).trans rfl
set_option maxRecDepth 100000 in
theorem e_SL_again_0 (d : Nat) (x1 : Int32) (h : Bool × Nat × Nat) (I : Nat → Nat → Int32) (L : Nat → Nat → Int64) : ev_do (d + 1) M_SL_again [.ref 0, .int x1] (ev_mk h I L) =
  ev_cI (ev_do d M_Past_takeUp [.ref 25, .int x1, .ref 17] (ev_mk h I L)) (fun v2 s1 =>
    (if ev_fit .boolean v2 then ev_ri v2 (ev_mk s1.1.2 s1.2.1 s1.2.2.1) else none)) := 
  (ev_eq true (ev_call true d) M_SL_again 0 [.ref 0, .int x1] [] (ev_mk h I L)).trans rfl
set_option maxRecDepth 100000 in
theorem e_SL_agrees_0 (d : Nat) (x1 : Int32) (h : Bool × Nat × Nat) (I : Nat → Nat → Int32) (L : Nat → Nat → Int64) : ev_do (d + 1) M_SL_agrees [.ref 0, .int x1] (ev_mk h I L) =
  ev_cV (ev_do d M_Book_spellAll [.ref 5, .ref 17, .int x1, .ref 133] (ev_mk h I L)) (fun s1 =>
    ev_cI (ev_do d M_Notices_agreeWith [.ref 129, .ref 133] (ev_mk s1.1.2 s1.2.1 s1.2.2.1)) (fun v3 s2 =>
      (if ev_fit .boolean v3 then ev_ri v3 (ev_mk s2.1.2 s2.2.1 s2.2.2.1) else none))) := 
  (ev_eq true (ev_call true d) M_SL_agrees 0 [.ref 0, .int x1] [] (ev_mk h I L)).trans rfl
set_option maxRecDepth 100000 in
theorem e_SL_ahead_0 (d : Nat) (x1 : Int32) (h : Bool × Nat × Nat) (I : Nat → Nat → Int32) (L : Nat → Nat → Int64) : ev_do (d + 1) M_SL_ahead [.ref 0, .int x1] (ev_mk h I L) =
  (if x1 < 0 then
    ev_ri (-1) (ev_mk h I L)
  else
    (if 99 < x1 then
      ev_ri (-1) (ev_mk h I L)
    else
      ev_cV (ev_do d M_State_copy [.ref 21, .ref 17] (ev_mk h I L)) (fun s1 =>
        ev_cV (ev_do d M_Union_passDays [.ref 109, .ref 101, .ref 21, .int x1] (ev_mk s1.1.2 s1.2.1 s1.2.2.1)) (fun s2 =>
          ev_cI (ev_do d M_State_moodsTogether [.ref 21] (ev_mk s2.1.2 s2.2.1 s2.2.2.1)) (fun v4 s3 =>
            ev_cV (ev_do d M_Row_tellTwo [.ref 3, .long ((s2.2.1 21 5).toInt64), .long v4.toInt64] (ev_mk s3.1.2 s3.2.1 s3.2.2.1)) (fun s5 =>
              ev_ri (s5.2.1 21 3) (ev_mk s5.1.2 s5.2.1 s5.2.2.1))))))) := 
  (ev_eq true (ev_call true d) M_SL_ahead 0 [.ref 0, .int x1] [] (ev_mk h I L)).trans rfl
set_option maxRecDepth 100000 in
theorem e_SL_apart_0 (d : Nat) (x1 x2 : Int32) (h : Bool × Nat × Nat) (I : Nat → Nat → Int32) (L : Nat → Nat → Int64) : ev_do (d + 1) M_SL_apart [.ref 0, .int x1, .int x2] (ev_mk h I L) =
  ev_cI (ev_do d M_Book_hasBoth [.ref 5, .int x1, .int x2] (ev_mk h I L)) (fun v2 s1 =>
    (if v2 = 0 then
      ev_ri (-1) (ev_mk s1.1.2 s1.2.1 s1.2.2.1)
    else
      ev_cI (ev_do d M_Measure_edits [.ref 114, .ref 17, .int x1, .int x2, .int 0] (ev_mk s1.1.2 (ev_up s1.2.1 3 1 0) s1.2.2.1)) (fun v4 s3 =>
        ev_cV (ev_do d M_Row_tell [.ref 3, .long v4.toInt64] (ev_mk s3.1.2 s3.2.1 s3.2.2.1)) (fun s5 =>
          ev_cI (ev_do d M_Measure_edits [.ref 114, .ref 17, .int x1, .int x2, .int (s5.2.1 17 3)] (ev_mk s5.1.2 s5.2.1 s5.2.2.1)) (fun v7 s6 =>
            ev_ri v7 (ev_mk s6.1.2 s6.2.1 s6.2.2.1)))))) := 
  (ev_eq true (ev_call true d) M_SL_apart 0 [.ref 0, .int x1, .int x2] [] (ev_mk h I L)).trans rfl
set_option maxRecDepth 100000 in
theorem e_SL_at_0 (d : Nat) (x1 x2 : Int32) (h : Bool × Nat × Nat) (I : Nat → Nat → Int32) (L : Nat → Nat → Int64) : ev_do (d + 1) M_SL_at [.ref 0, .int x1, .int x2] (ev_mk h I L) =
  ev_cI (ev_do d M_Book_hasSign [.ref 5, .int x1, .int x2] (ev_mk h I L)) (fun v2 s1 =>
    (if v2 = 0 then
      some (none, ev_mk (false, s1.1.2.2.1 + 1, s1.1.2.2.2 + 6) s1.2.1 s1.2.2.1)
    else
      (if ev_in x1 8 then
        ev_aI (ev_mk s1.1.2 s1.2.1 s1.2.2.1) (ev_rv (ev_R0 6 x1.toNatClampNeg)) x2 (fun v3 =>
          (if ev_in x1 8 then
            (if (((s1.2.1 18 x1.toNatClampNeg) >>> (x2 &&& 31)) &&& 1) = 1 then
              ev_ri (v3 + 8) (ev_mk s1.1.2 s1.2.1 s1.2.2.1)
            else
              ev_ri (v3 + 0) (ev_mk s1.1.2 s1.2.1 s1.2.2.1))
          else none))
      else none))) := 
  (ev_eq true (ev_call true d) M_SL_at 0 [.ref 0, .int x1, .int x2] [] (ev_mk h I L)).trans rfl
set_option maxRecDepth 100000 in
theorem e_SL_buys_0 (d : Nat) (x1 : Int32) (h : Bool × Nat × Nat) (I : Nat → Nat → Int32) (L : Nat → Nat → Int64) : ev_do (d + 1) M_SL_buys [.ref 0, .int x1] (ev_mk h I L) =
  (if x1 < 0 then
    ev_ri (-1) (ev_mk h I L)
  else
    (if 99 < x1 then
      ev_ri (-1) (ev_mk h I L)
    else
      ev_cI (ev_do d M_SL_priceStrikers [.ref 0] (ev_mk h I L)) (fun v2 s1 =>
        ev_at d M_SL_buys 25 [.ref 0, .int x1, .int v2, .int 0, .int 0, .int 1, .float 0, .float 0] [] (ev_mk s1.1.2 s1.2.1 s1.2.2.1)))) := 
  (ev_eq true (ev_call true d) M_SL_buys 0 [.ref 0, .int x1, .float 0, .float 0, .float 0, .float 0, .float 0, .float 0] [] (ev_mk h I L)).trans rfl
set_option maxRecDepth 100000 in
theorem e_SL_buys_25 (d : Nat) (x1 x2 x3 x4 x5 : Int32) (h : Bool × Nat × Nat) (I : Nat → Nat → Int32) (L : Nat → Nat → Int64) : ev_at d M_SL_buys 25 [.ref 0, .int x1, .int x2, .int x3, .int x4, .int x5, .float 0, .float 0] [] (ev_mk h I L) =
  (if x5 < 256 then
    (if (x5 &&& (x2 ^^^ (-1))) = 0 then
      ev_cI (ev_do d M_SL_sumOver [.ref 0, .int x5] (ev_mk h I L)) (fun v2 s1 =>
        ev_cI (ev_do d M_Int_bitCount [.int x5] (ev_mk s1.1.2 s1.2.1 s1.2.2.1)) (fun v4 s3 =>
          ev_cI (ev_do d M_Int_bitCount [.int x3] (ev_mk s3.1.2 s3.2.1 s3.2.2.1)) (fun v6 s5 =>
            (if x1 < v2 then
              ev_at d M_SL_buys 25 [.ref 0, .int x1, .int x2, .int x3, .int x4, .int (x5 + 1), .float 0, .float 0] [] (ev_mk s5.1.2 s5.2.1 s5.2.2.1)
            else
              (if 0 < (v4 - v6) then
                ev_at d M_SL_buys 25 [.ref 0, .int x1, .int x2, .int x5, .int v2, .int (x5 + 1), .float 0, .float 0] [] (ev_mk s5.1.2 s5.2.1 s5.2.2.1)
              else
                (if (v4 - v6) = 0 then
                  (if v2 < x4 then
                    ev_at d M_SL_buys 25 [.ref 0, .int x1, .int x2, .int x5, .int v2, .int (x5 + 1), .float 0, .float 0] [] (ev_mk s5.1.2 s5.2.1 s5.2.2.1)
                  else
                    ev_at d M_SL_buys 25 [.ref 0, .int x1, .int x2, .int x3, .int x4, .int (x5 + 1), .float 0, .float 0] [] (ev_mk s5.1.2 s5.2.1 s5.2.2.1))
                else
                  ev_at d M_SL_buys 25 [.ref 0, .int x1, .int x2, .int x3, .int x4, .int (x5 + 1), .float 0, .float 0] [] (ev_mk s5.1.2 s5.2.1 s5.2.2.1)))))))
    else
      ev_at d M_SL_buys 25 [.ref 0, .int x1, .int x2, .int x3, .int x4, .int (x5 + 1), .float 0, .float 0] [] (ev_mk h I L))
  else
    ev_cV (ev_do d M_Row_tellTwo [.ref 3, .long x3.toInt64, .long ((x1 - x4).toInt64)] (ev_mk h I L)) (fun s7 =>
      ev_cI (ev_do d M_Int_bitCount [.int x3] (ev_mk s7.1.2 s7.2.1 s7.2.2.1)) (fun v9 s8 =>
        ev_ri v9 (ev_mk s8.1.2 s8.2.1 s8.2.2.1)))) := 
  (ev_eq true (ev_call true d) M_SL_buys 25 [.ref 0, .int x1, .int x2, .int x3, .int x4, .int x5, .float 0, .float 0] [] (ev_mk h I L)).trans rfl
set_option maxRecDepth 100000 in
theorem e_SL_calms_0 (d : Nat) (h : Bool × Nat × Nat) (I : Nat → Nat → Int32) (L : Nat → Nat → Int64) : ev_do (d + 1) M_SL_calms [.ref 0] (ev_mk h I L) =
  ev_cV (ev_do d M_Union_tally [.ref 109, .ref 17] (ev_mk h I L)) (fun s1 =>
    ev_at d M_SL_calms 15 [.ref 0, .int 0, .int 0] [] (ev_mk s1.1.2 s1.2.1 s1.2.2.1)) := 
  (ev_eq true (ev_call true d) M_SL_calms 0 [.ref 0, .float 0, .float 0] [] (ev_mk h I L)).trans rfl
set_option maxRecDepth 100000 in
theorem e_SL_calms_15 (d : Nat) (x1 x2 : Int32) (h : Bool × Nat × Nat) (I : Nat → Nat → Int32) (L : Nat → Nat → Int64) : ev_at d M_SL_calms 15 [.ref 0, .int x1, .int x2] [] (ev_mk h I L) =
  (if x2 < 8 then
    (if ev_in x2 8 then
      (if (I 112 x2.toNatClampNeg) = 0 then
        ev_at d M_SL_calms 58 [.ref 0, .int x1, .int x2] [.int 0, .int x2, .ref 135] (ev_mk h I L)
      else
        ev_cI (ev_do d M_Union_priceOf [.ref 109, .ref 101, .ref 17, .int x2] (ev_mk h I L)) (fun v2 s1 =>
          ev_at d M_SL_calms 58 [.ref 0, .int x1, .int x2] [.int v2, .int x2, .ref 135] (ev_mk s1.1.2 s1.2.1 s1.2.2.1)))
    else none)
  else
    ev_at d M_SL_calms 97 [.ref 0, .int x1, .int 0] [] (ev_mk h (ev_up I 3 1 0) L)) := 
  (ev_eq true (ev_call true d) M_SL_calms 15 [.ref 0, .int x1, .int x2] [] (ev_mk h I L)).trans rfl
set_option maxRecDepth 100000 in
theorem e_SL_calms_58 (d : Nat) (x1 x2 y0 y1 : Int32) (h : Bool × Nat × Nat) (I : Nat → Nat → Int32) (L : Nat → Nat → Int64) : ev_at d M_SL_calms 58 [.ref 0, .int x1, .int x2] [.int y0, .int y1, .ref 135] (ev_mk h I L) =
  (if ev_in y1 8 then
    (if ev_in x2 8 then
      (if ((ev_up I 135 y1.toNatClampNeg y0) 135 x2.toNatClampNeg) = (-1) then
        ev_ri (-2) (ev_mk h (ev_up I 135 y1.toNatClampNeg y0) L)
      else
        (if ev_in x2 8 then
          ev_at d M_SL_calms 15 [.ref 0, .int (x1 + ((ev_up I 135 y1.toNatClampNeg y0) 135 x2.toNatClampNeg)), .int (x2 + 1)] [] (ev_mk h (ev_up I 135 y1.toNatClampNeg y0) L)
        else none))
    else none)
  else none) := 
  (ev_eq true (ev_call true d) M_SL_calms 58 [.ref 0, .int x1, .int x2] [.int y0, .int y1, .ref 135] (ev_mk h I L)).trans rfl
set_option maxRecDepth 100000 in
theorem e_SL_calms_97 (d : Nat) (x1 x2 : Int32) (h : Bool × Nat × Nat) (I : Nat → Nat → Int32) (L : Nat → Nat → Int64) : ev_at d M_SL_calms 97 [.ref 0, .int x1, .int x2] [] (ev_mk h I L) =
  (if x2 < 8 then
    (if ev_in x2 8 then
      ev_cV (ev_do d M_Row_tell [.ref 3, .long ((I 135 x2.toNatClampNeg).toInt64)] (ev_mk h I L)) (fun s1 =>
        ev_at d M_SL_calms 97 [.ref 0, .int x1, .int (x2 + 1)] [] (ev_mk s1.1.2 s1.2.1 s1.2.2.1))
    else none)
  else
    ev_ri x1 (ev_mk h I L)) := 
  (ev_eq true (ev_call true d) M_SL_calms 97 [.ref 0, .int x1, .int x2] [] (ev_mk h I L)).trans rfl
set_option maxRecDepth 100000 in
theorem e_SL_chain_0 (d : Nat) (x1 x2 x3 : Int32) (h : Bool × Nat × Nat) (I : Nat → Nat → Int32) (L : Nat → Nat → Int64) : ev_do (d + 1) M_SL_chain [.ref 0, .int x1, .int x2, .int x3] (ev_mk h I L) =
  ev_cI (ev_do d M_Book_has [.ref 5, .int x1] (ev_mk h I L)) (fun v2 s1 =>
    (if v2 = 0 then
      ev_ri (-1) (ev_mk s1.1.2 s1.2.1 s1.2.2.1)
    else
      ev_cI (ev_do d M_Book_has [.ref 5, .int x2] (ev_mk s1.1.2 s1.2.1 s1.2.2.1)) (fun v4 s3 =>
        (if v4 = 0 then
          ev_ri (-1) (ev_mk s3.1.2 s3.2.1 s3.2.2.1)
        else
          (if x3 < 0 then
            ev_ri (-1) (ev_mk s3.1.2 s3.2.1 s3.2.2.1)
          else
            (if 8 < x3 then
              ev_ri (-1) (ev_mk s3.1.2 s3.2.1 s3.2.2.1)
            else
              ev_cV (ev_do d M_Measure_stepsTo [.ref 114, .ref 17, .int x2, .int x3] (ev_mk s3.1.2 s3.2.1 s3.2.2.1)) (fun s5 =>
                (if ev_in x1 8 then
                  (if (s5.2.1 128 x1.toNatClampNeg) = (-1) then
                    ev_ri (-2) (ev_mk s5.1.2 s5.2.1 s5.2.2.1)
                  else
                    ev_cV (ev_do d M_Row_tell [.ref 3, .long x1.toInt64] (ev_mk s5.1.2 (ev_up s5.2.1 3 1 0) s5.2.2.1)) (fun s6 =>
                      ev_at d M_SL_chain 93 [.ref 0, .float 0, .float 0, .float 0, .float 0, .int x1, .int ((s5.2.1 128 x1.toNatClampNeg) - 1)] [] (ev_mk s6.1.2 s6.2.1 s6.2.2.1)))
                else none)))))))) := 
  (ev_eq true (ev_call true d) M_SL_chain 0 [.ref 0, .int x1, .int x2, .int x3, .float 0, .float 0, .float 0] [] (ev_mk h I L)).trans rfl
set_option maxRecDepth 100000 in
theorem e_SL_chain_93 (d : Nat) (x5 x6 : Int32) (h : Bool × Nat × Nat) (I : Nat → Nat → Int32) (L : Nat → Nat → Int64) : ev_at d M_SL_chain 93 [.ref 0, .float 0, .float 0, .float 0, .float 0, .int x5, .int x6] [] (ev_mk h I L) =
  (if x6 < 0 then
    ev_ri (I 3 1) (ev_mk h I L)
  else
    ev_cI (ev_do d M_Measure_stepFrom [.ref 114, .int x5, .int x6] (ev_mk h I L)) (fun v2 s1 =>
      ev_cV (ev_do d M_Row_tell [.ref 3, .long v2.toInt64] (ev_mk s1.1.2 s1.2.1 s1.2.2.1)) (fun s3 =>
        ev_at d M_SL_chain 93 [.ref 0, .float 0, .float 0, .float 0, .float 0, .int v2, .int (x6 + (-1))] [] (ev_mk s3.1.2 s3.2.1 s3.2.2.1)))) := 
  (ev_eq true (ev_call true d) M_SL_chain 93 [.ref 0, .float 0, .float 0, .float 0, .float 0, .int x5, .int x6] [] (ev_mk h I L)).trans rfl
set_option maxRecDepth 100000 in
theorem e_SL_chanceOf_0 (d : Nat) (x0 x1 : Int32) (h : Bool × Nat × Nat) (I : Nat → Nat → Int32) (L : Nat → Nat → Int64) : ev_do (d + 1) M_SL_chanceOf [.int x0, .int x1] (ev_mk h I L) =
  ev_cI (ev_do d M_Int_bitCount [.int x0] (ev_mk h I L)) (fun v2 s1 =>
    ev_cL (ev_do d M_SL_raised [.long x1.toInt64, .int v2] (ev_mk s1.1.2 s1.2.1 s1.2.2.1)) (fun v4 s3 =>
      ev_cL (ev_do d M_SL_raised [.long ((10 - x1).toInt64), .int (8 - v2)] (ev_mk s3.1.2 s3.2.1 s3.2.2.1)) (fun v6 s5 =>
        ev_rl (v4 * v6) (ev_mk s5.1.2 s5.2.1 s5.2.2.1)))) := 
  (ev_eq true (ev_call true d) M_SL_chanceOf 0 [.int x0, .int x1, .float 0] [] (ev_mk h I L)).trans rfl
set_option maxRecDepth 100000 in
theorem e_SL_count_0 (d : Nat) (x1 : Int32) (h : Bool × Nat × Nat) (I : Nat → Nat → Int32) (L : Nat → Nat → Int64) : ev_do (d + 1) M_SL_count [.ref 0, .int x1] (ev_mk h I L) =
  ev_cV (ev_do d M_Union_tally [.ref 109, .ref 17] (ev_mk h I L)) (fun s1 =>
    (if x1 = 0 then
      ev_ri (s1.2.1 5 3) (ev_mk s1.1.2 s1.2.1 s1.2.2.1)
    else (if x1 = 1 then
      ev_ri (s1.2.1 17 4) (ev_mk s1.1.2 s1.2.1 s1.2.2.1)
    else (if x1 = 2 then
      ev_ri (s1.2.1 17 3) (ev_mk s1.1.2 s1.2.1 s1.2.2.1)
    else (if x1 = 3 then
      ev_ri (s1.2.1 17 5) (ev_mk s1.1.2 s1.2.1 s1.2.2.1)
    else (if x1 = 4 then
      ev_cI (ev_do d M_State_moodsTogether [.ref 17] (ev_mk s1.1.2 s1.2.1 s1.2.2.1)) (fun v3 s2 =>
        ev_ri v3 (ev_mk s2.1.2 s2.2.1 s2.2.2.1))
    else (if x1 = 5 then
      ev_cI (ev_do d M_SL_sum [.ref 20] (ev_mk s1.1.2 s1.2.1 s1.2.2.1)) (fun v5 s4 =>
        ev_ri v5 (ev_mk s4.1.2 s4.2.1 s4.2.2.1))
    else (if x1 = 6 then
      ev_cI (ev_do d M_SL_sum [.ref 112] (ev_mk s1.1.2 s1.2.1 s1.2.2.1)) (fun v7 s6 =>
        ev_ri v7 (ev_mk s6.1.2 s6.2.1 s6.2.2.1))
    else (if x1 = 7 then
      ev_cI (ev_do d M_SL_sum [.ref 113] (ev_mk s1.1.2 s1.2.1 s1.2.2.1)) (fun v9 s8 =>
        ev_ri v9 (ev_mk s8.1.2 s8.2.1 s8.2.2.1))
    else (if x1 = 8 then
      ev_ri (s1.2.1 129 3) (ev_mk s1.1.2 s1.2.1 s1.2.2.1)
    else (if x1 = 9 then
      ev_ri (s1.2.1 25 4) (ev_mk s1.1.2 s1.2.1 s1.2.2.1)
    else (if x1 = 10 then
      ev_ri (s1.2.1 3 1) (ev_mk s1.1.2 s1.2.1 s1.2.2.1)
    else (if x1 = 11 then
      ev_ri (s1.2.1 1 1) (ev_mk s1.1.2 s1.2.1 s1.2.2.1)
    else ev_ri (-100) (ev_mk s1.1.2 s1.2.1 s1.2.2.1)))))))))))))) := 
  (ev_eq true (ev_call true d) M_SL_count 0 [.ref 0, .int x1] [] (ev_mk h I L)).trans rfl
set_option maxRecDepth 100000 in
theorem e_SL_countPairsThatAreOne_0 (d : Nat) (x1 : Int32) (h : Bool × Nat × Nat) (I : Nat → Nat → Int32) (L : Nat → Nat → Int64) : ev_do (d + 1) M_SL_countPairsThatAreOne [.ref 0, .int x1] (ev_mk h I L) =
  ev_cV (ev_do d M_Book_spellAll [.ref 5, .ref 17, .int x1, .ref 133] (ev_mk h I L)) (fun s1 =>
    ev_at d M_SL_countPairsThatAreOne 18 [.ref 0, .float 0, .int 0, .float 0] [] (ev_mk s1.1.2 s1.2.1 s1.2.2.1)) := 
  (ev_eq true (ev_call true d) M_SL_countPairsThatAreOne 0 [.ref 0, .int x1, .float 0, .float 0] [] (ev_mk h I L)).trans rfl
set_option maxRecDepth 100000 in
theorem e_SL_countPairsThatAreOne_18 (d : Nat) (x2 : Int32) (h : Bool × Nat × Nat) (I : Nat → Nat → Int32) (L : Nat → Nat → Int64) : ev_at d M_SL_countPairsThatAreOne 18 [.ref 0, .float 0, .int x2, .float 0] [] (ev_mk h I L) =
  (if x2 < (I 5 3) then
    ev_at d M_SL_countPairsThatAreOne 33 [.ref 0, .float 0, .int x2, .int (x2 + 1)] [] (ev_mk h I L)
  else
    ev_rn (ev_mk h I L)) := 
  (ev_eq true (ev_call true d) M_SL_countPairsThatAreOne 18 [.ref 0, .float 0, .int x2, .float 0] [] (ev_mk h I L)).trans rfl
set_option maxRecDepth 100000 in
theorem e_SL_countPairsThatAreOne_33 (d : Nat) (x2 x3 : Int32) (h : Bool × Nat × Nat) (I : Nat → Nat → Int32) (L : Nat → Nat → Int64) : ev_at d M_SL_countPairsThatAreOne 33 [.ref 0, .float 0, .int x2, .int x3] [] (ev_mk h I L) =
  (if x3 < (I 5 3) then
    (if ev_in ((x2 * 8) + x3) 64 then
      (if ev_in x2 8 then
        (if ev_in x3 8 then
          (if (I 133 x2.toNatClampNeg) = (I 133 x3.toNatClampNeg) then
            (if ev_in ((x2 * 8) + x3) 64 then
              ev_at d M_SL_countPairsThatAreOne 33 [.ref 0, .float 0, .int x2, .int (x3 + 1)] [] (ev_mk h (ev_up I 134 (((x2 * 8) + x3).toNatClampNeg) ((I 134 (((x2 * 8) + x3).toNatClampNeg)) + 1)) L)
            else none)
          else
            (if ev_in ((x2 * 8) + x3) 64 then
              ev_at d M_SL_countPairsThatAreOne 33 [.ref 0, .float 0, .int x2, .int (x3 + 1)] [] (ev_mk h (ev_up I 134 (((x2 * 8) + x3).toNatClampNeg) ((I 134 (((x2 * 8) + x3).toNatClampNeg)) + 0)) L)
            else none))
        else none)
      else none)
    else none)
  else
    ev_at d M_SL_countPairsThatAreOne 18 [.ref 0, .float 0, .int (x2 + 1), .float 0] [] (ev_mk h I L)) := 
  (ev_eq true (ev_call true d) M_SL_countPairsThatAreOne 33 [.ref 0, .float 0, .int x2, .int x3] [] (ev_mk h I L)).trans rfl
set_option maxRecDepth 100000 in
theorem e_SL_crossest_0 (d : Nat) (h : Bool × Nat × Nat) (I : Nat → Nat → Int32) (L : Nat → Nat → Int64) : ev_do (d + 1) M_SL_crossest [.ref 0] (ev_mk h I L) =
  ev_cV (ev_do d M_Union_tally [.ref 109, .ref 17] (ev_mk h I L)) (fun s1 =>
    ev_at d M_SL_crossest 21 [.ref 0, .int (-2), .int 0, .int 0, .int 0, .float 0] [] (ev_mk s1.1.2 s1.2.1 s1.2.2.1)) := 
  (ev_eq true (ev_call true d) M_SL_crossest 0 [.ref 0, .float 0, .float 0, .float 0, .float 0, .float 0] [] (ev_mk h I L)).trans rfl
set_option maxRecDepth 100000 in
theorem e_SL_crossest_21 (d : Nat) (x1 x2 x3 x4 : Int32) (h : Bool × Nat × Nat) (I : Nat → Nat → Int32) (L : Nat → Nat → Int64) : ev_at d M_SL_crossest 21 [.ref 0, .int x1, .int x2, .int x3, .int x4, .float 0] [] (ev_mk h I L) =
  (if x4 < 8 then
    (if ev_in x4 8 then
      (if (I 112 x4.toNatClampNeg) = 0 then
        ev_at d M_SL_crossest 21 [.ref 0, .int x1, .int x2, .int x3, .int (x4 + 1), .float 0] [] (ev_mk h I L)
      else
        (if ev_in x4 8 then
          ev_cI (ev_do d M_Union_grudge [.ref 109, .ref 101, .ref 17, .int x4, .int (I 20 x4.toNatClampNeg)] (ev_mk h I L)) (fun v2 s1 =>
            (if x1 = (-2) then
              ev_at d M_SL_crossest 85 [.ref 0, .float 0, .float 0, .float 0, .int x4, .int v2] [] (ev_mk s1.1.2 s1.2.1 s1.2.2.1)
            else
              (if x2 < v2 then
                ev_at d M_SL_crossest 85 [.ref 0, .float 0, .float 0, .float 0, .int x4, .int v2] [] (ev_mk s1.1.2 s1.2.1 s1.2.2.1)
              else
                (if v2 = x2 then
                  ev_at d M_SL_crossest 21 [.ref 0, .int x1, .int x2, .int (x3 + 1), .int (x4 + 1), .float 0] [] (ev_mk s1.1.2 s1.2.1 s1.2.2.1)
                else
                  ev_at d M_SL_crossest 21 [.ref 0, .int x1, .int x2, .int x3, .int (x4 + 1), .float 0] [] (ev_mk s1.1.2 s1.2.1 s1.2.2.1)))))
        else none))
    else none)
  else
    (if x1 = (-2) then
      ev_ri x1 (ev_mk h I L)
    else
      ev_cV (ev_do d M_Row_tellTwo [.ref 3, .long x2.toInt64, .long x3.toInt64] (ev_mk h I L)) (fun s3 =>
        ev_ri x1 (ev_mk s3.1.2 s3.2.1 s3.2.2.1)))) := 
  (ev_eq true (ev_call true d) M_SL_crossest 21 [.ref 0, .int x1, .int x2, .int x3, .int x4, .float 0] [] (ev_mk h I L)).trans rfl
set_option maxRecDepth 100000 in
theorem e_SL_crossest_85 (d : Nat) (x4 x5 : Int32) (h : Bool × Nat × Nat) (I : Nat → Nat → Int32) (L : Nat → Nat → Int64) : ev_at d M_SL_crossest 85 [.ref 0, .float 0, .float 0, .float 0, .int x4, .int x5] [] (ev_mk h I L) =
  ev_at d M_SL_crossest 21 [.ref 0, .int x4, .int x5, .int 1, .int (x4 + 1), .float 0] [] (ev_mk h I L) := 
  (ev_eq true (ev_call true d) M_SL_crossest 85 [.ref 0, .float 0, .float 0, .float 0, .int x4, .int x5] [] (ev_mk h I L)).trans rfl
set_option maxRecDepth 100000 in
theorem e_SL_cutTo_0 (d : Nat) (x0 x1 : Int32) (h : Bool × Nat × Nat) (I : Nat → Nat → Int32) (L : Nat → Nat → Int64) : ev_do (d + 1) M_SL_cutTo [.int x0, .int x1] (ev_mk h I L) =
  (if x0 = 0 then
    ev_ri x1.toInt8.toInt32 (ev_mk h I L)
  else
    (if x0 = 1 then
      ev_ri x1.toInt16.toInt32 (ev_mk h I L)
    else
      ev_ri x1 (ev_mk h I L))) := 
  (ev_eq true (ev_call true d) M_SL_cutTo 0 [.int x0, .int x1] [] (ev_mk h I L)).trans rfl
set_option maxRecDepth 100000 in
theorem e_SL_days_0 (d : Nat) (x1 : Int32) (h : Bool × Nat × Nat) (I : Nat → Nat → Int32) (L : Nat → Nat → Int64) : ev_do (d + 1) M_SL_days [.ref 0, .int x1] (ev_mk h I L) =
  (if x1 < 0 then
    ev_ri (-1) (ev_mk h I L)
  else
    (if 60 < x1 then
      ev_ri (-1) (ev_mk h I L)
    else
      ev_cV (ev_do d M_Past_remember [.ref 25, .ref 17] (ev_mk h I L)) (fun s1 =>
        ev_cV (ev_do d M_Union_passDays [.ref 109, .ref 101, .ref 17, .int x1] (ev_mk s1.1.2 s1.2.1 s1.2.2.1)) (fun s2 =>
          ev_cV (ev_do d M_Row_tellTwo [.ref 3, .long ((s2.2.1 109 5).toInt64), .long ((s2.2.1 109 6).toInt64)] (ev_mk s2.1.2 s2.2.1 s2.2.2.1)) (fun s3 =>
            ev_ri (s3.2.1 17 3) (ev_mk s3.1.2 s3.2.1 s3.2.2.1)))))) := 
  (ev_eq true (ev_call true d) M_SL_days 0 [.ref 0, .int x1] [] (ev_mk h I L)).trans rfl
set_option maxRecDepth 100000 in
theorem e_SL_doAct_0 (d : Nat) (x1 : Int32) (h : Bool × Nat × Nat) (I : Nat → Nat → Int32) (L : Nat → Nat → Int64) : ev_do (d + 1) M_SL_doAct [.ref 0, .int x1] (ev_mk h I L) =
  ev_cI (ev_do d M_Text_signAt [.ref 1, .int x1] (ev_mk h I L)) (fun v2 s1 =>
    ev_cI (ev_do d M_Text_signAt [.ref 1, .int (x1 + 1)] (ev_mk s1.1.2 s1.2.1 s1.2.2.1)) (fun v4 s3 =>
      (if v2 = 110 then
        ev_at d M_SL_doAct 29 [.ref 0, .float 0, .float 0, .int v4, .int 0] [] (ev_mk s3.1.2 s3.2.1 s3.2.2.1)
      else
        ev_cI (ev_do d M_Text_signAt [.ref 1, .int (x1 + 2)] (ev_mk s3.1.2 s3.2.1 s3.2.2.1)) (fun v6 s5 =>
          (if v2 = 120 then
            ev_cI (ev_do d M_Book_mute [.ref 5, .ref 17, .int (v4 - 48), .int (v6 - 48)] (ev_mk s5.1.2 s5.2.1 s5.2.2.1)) (fun v8 s7 =>
              ev_ri v8 (ev_mk s7.1.2 s7.2.1 s7.2.2.1))
          else
            (if v2 = 111 then
              ev_cI (ev_do d M_State_putOffer [.ref 17, .int (v4 - 97), .int (v6 - 48)] (ev_mk s5.1.2 s5.2.1 s5.2.2.1)) (fun v10 s9 =>
                ev_ri v10 (ev_mk s9.1.2 s9.2.1 s9.2.2.1))
            else
              (if v2 = 114 then
                ev_cI (ev_do d M_State_stir [.ref 17, .int (v4 - 97), .int (v6 - 48)] (ev_mk s5.1.2 s5.2.1 s5.2.2.1)) (fun v12 s11 =>
                  ev_ri v12 (ev_mk s11.1.2 s11.2.1 s11.2.2.1))
              else
                ev_cI (ev_do d M_State_stir [.ref 17, .int (v4 - 97), .int (-(v6 - 48))] (ev_mk s5.1.2 s5.2.1 s5.2.2.1)) (fun v14 s13 =>
                  ev_ri v14 (ev_mk s13.1.2 s13.2.1 s13.2.2.1))))))))) := 
  (ev_eq true (ev_call true d) M_SL_doAct 0 [.ref 0, .int x1, .float 0, .float 0, .float 0] [] (ev_mk h I L)).trans rfl
set_option maxRecDepth 100000 in
theorem e_SL_doAct_29 (d : Nat) (x3 x4 : Int32) (h : Bool × Nat × Nat) (I : Nat → Nat → Int32) (L : Nat → Nat → Int64) : ev_at d M_SL_doAct 29 [.ref 0, .float 0, .float 0, .int x3, .int x4] [] (ev_mk h I L) =
  (if x4 < (x3 - 48) then
    ev_cI (ev_do d M_Union_passDay [.ref 109, .ref 101, .ref 17] (ev_mk h I L)) (fun v2 s1 =>
      ev_at d M_SL_doAct 29 [.ref 0, .float 0, .float 0, .int x3, .int (x4 + 1)] [] (ev_mk s1.1.2 s1.2.1 s1.2.2.1))
  else
    ev_ri (I 17 3) (ev_mk h I L)) := 
  (ev_eq true (ev_call true d) M_SL_doAct 29 [.ref 0, .float 0, .float 0, .int x3, .int x4] [] (ev_mk h I L)).trans rfl
set_option maxRecDepth 100000 in
theorem e_SL_draw_0 (d : Nat) (x1 : Int32) (h : Bool × Nat × Nat) (I : Nat → Nat → Int32) (L : Nat → Nat → Int64) : ev_do (d + 1) M_SL_draw [.ref 0, .int x1] (ev_mk h I L) =
  (if 0 < x1 then
    (if x1 = 0 then
      none
    else
      ev_ri ((((((I 0 17) * 1103515245) + 12345).toUInt32 >>> ((16 : Int32).toUInt32 &&& Int32.toUInt32 31)).toInt32) - (((((I 0 17) * 1103515245) + 12345).toUInt32 >>> ((16 : Int32).toUInt32 &&& Int32.toUInt32 31)).toInt32) / x1 * x1) (ev_mk h (ev_up I 0 17 (((I 0 17) * 1103515245) + 12345)) L))
  else
    ev_ri 0 (ev_mk h (ev_up I 0 17 (((I 0 17) * 1103515245) + 12345)) L)) := 
  (ev_eq true (ev_call true d) M_SL_draw 0 [.ref 0, .int x1] [] (ev_mk h I L)).trans rfl
set_option maxRecDepth 100000 in
theorem e_SL_end_0 (d : Nat) (x1 : Int32) (h : Bool × Nat × Nat) (I : Nat → Nat → Int32) (L : Nat → Nat → Int64) : ev_do (d + 1) M_SL_end [.ref 0, .int x1] (ev_mk h I L) =
  (if x1 < 0 then
    ev_ri 0 (ev_mk h I L)
  else
    (if (I 1 1) < x1 then
      ev_ri 0 (ev_mk h I L)
    else
      ev_ri 1 (ev_mk h (ev_up I 1 1 x1) L))) := 
  (ev_eq true (ev_call true d) M_SL_end 0 [.ref 0, .int x1] [] (ev_mk h I L)).trans rfl
set_option maxRecDepth 100000 in
theorem e_SL_falls_0 (d : Nat) (h : Bool × Nat × Nat) (I : Nat → Nat → Int32) (L : Nat → Nat → Int64) : ev_do (d + 1) M_SL_falls [.ref 0] (ev_mk h I L) =
  ev_cV (ev_do d M_State_copy [.ref 21, .ref 17] (ev_mk h I L)) (fun s1 =>
    ev_at d M_SL_falls 13 [.ref 0, .int 1] [] (ev_mk s1.1.2 s1.2.1 s1.2.2.1)) := 
  (ev_eq true (ev_call true d) M_SL_falls 0 [.ref 0, .float 0] [] (ev_mk h I L)).trans rfl
set_option maxRecDepth 100000 in
theorem e_SL_falls_13 (d : Nat) (x1 : Int32) (h : Bool × Nat × Nat) (I : Nat → Nat → Int32) (L : Nat → Nat → Int64) : ev_at d M_SL_falls 13 [.ref 0, .int x1] [] (ev_mk h I L) =
  (if 99 < x1 then
    ev_ri (-2) (ev_mk h I L)
  else
    ev_cI (ev_do d M_Union_passDay [.ref 109, .ref 101, .ref 21] (ev_mk h I L)) (fun v2 s1 =>
      (if 0 < v2 then
        ev_cV (ev_do d M_SL_tellFirstFallen [.ref 0] (ev_mk s1.1.2 s1.2.1 s1.2.2.1)) (fun s3 =>
          ev_ri x1 (ev_mk s3.1.2 s3.2.1 s3.2.2.1))
      else
        ev_at d M_SL_falls 13 [.ref 0, .int (x1 + 1)] [] (ev_mk s1.1.2 s1.2.1 s1.2.2.1)))) := 
  (ev_eq true (ev_call true d) M_SL_falls 13 [.ref 0, .int x1] [] (ev_mk h I L)).trans rfl
set_option maxRecDepth 100000 in
theorem e_SL_firstLike_0 (d : Nat) (x1 : Int32) (h : Bool × Nat × Nat) (I : Nat → Nat → Int32) (L : Nat → Nat → Int64) : ev_do (d + 1) M_SL_firstLike [.ref 0, .int x1] (ev_mk h I L) =
  ev_at d M_SL_firstLike 2 [.ref 0, .int x1, .int 0] [] (ev_mk h I L) := 
  (ev_eq true (ev_call true d) M_SL_firstLike 0 [.ref 0, .int x1, .float 0] [] (ev_mk h I L)).trans rfl
set_option maxRecDepth 100000 in
theorem e_SL_firstLike_2 (d : Nat) (x1 x2 : Int32) (h : Bool × Nat × Nat) (I : Nat → Nat → Int32) (L : Nat → Nat → Int64) : ev_at d M_SL_firstLike 2 [.ref 0, .int x1, .int x2] [] (ev_mk h I L) =
  (if x2 < x1 then
    (if ev_in x2 8 then
      (if ev_in x1 8 then
        (if (I 133 x2.toNatClampNeg) = (I 133 x1.toNatClampNeg) then
          ev_ri x2 (ev_mk h I L)
        else
          ev_at d M_SL_firstLike 2 [.ref 0, .int x1, .int (x2 + 1)] [] (ev_mk h I L))
      else none)
    else none)
  else
    ev_ri x1 (ev_mk h I L)) := 
  (ev_eq true (ev_call true d) M_SL_firstLike 2 [.ref 0, .int x1, .int x2] [] (ev_mk h I L)).trans rfl
set_option maxRecDepth 100000 in
theorem e_SL_fits_0 (d : Nat) (h : Bool × Nat × Nat) (I : Nat → Nat → Int32) (L : Nat → Nat → Int64) : ev_do (d + 1) M_SL_fits [.ref 0] (ev_mk h I L) =
  ev_cI (ev_do d M_Book_unsaidLetters [.ref 5, .ref 17] (ev_mk h I L)) (fun v2 s1 =>
    ev_at d M_SL_fits 26 [.ref 0, .int v2, .int 0, .int 255, .int 255, .int 0] [] (ev_mk s1.1.2 s1.2.1 s1.2.2.1)) := 
  (ev_eq true (ev_call true d) M_SL_fits 0 [.ref 0, .float 0, .float 0, .float 0, .float 0, .float 0] [] (ev_mk h I L)).trans rfl
set_option maxRecDepth 100000 in
theorem e_SL_fits_26 (d : Nat) (x1 x2 x3 x4 x5 : Int32) (h : Bool × Nat × Nat) (I : Nat → Nat → Int32) (L : Nat → Nat → Int64) : ev_at d M_SL_fits 26 [.ref 0, .int x1, .int x2, .int x3, .int x4, .int x5] [] (ev_mk h I L) =
  (if x5 < 256 then
    (if (x5 &&& (x1 ^^^ (-1))) = 0 then
      ev_cI (ev_do d M_SL_agrees [.ref 0, .int x5] (ev_mk h I L)) (fun v2 s1 =>
        (if v2 = 0 then
          ev_at d M_SL_fits 26 [.ref 0, .int x1, .int x2, .int x3, .int x4, .int (x5 + 1)] [] (ev_mk s1.1.2 s1.2.1 s1.2.2.1)
        else
          (if x2 = 0 then
            ev_at d M_SL_fits 74 [.ref 0, .int x1, .int x2, .int x5, .int x4, .int x5] [] (ev_mk s1.1.2 s1.2.1 s1.2.2.1)
          else
            ev_cI (ev_do d M_Int_bitCount [.int x5] (ev_mk s1.1.2 s1.2.1 s1.2.2.1)) (fun v4 s3 =>
              ev_cI (ev_do d M_Int_bitCount [.int x3] (ev_mk s3.1.2 s3.2.1 s3.2.2.1)) (fun v6 s5 =>
                (if v4 < v6 then
                  ev_at d M_SL_fits 74 [.ref 0, .int x1, .int x2, .int x5, .int x4, .int x5] [] (ev_mk s5.1.2 s5.2.1 s5.2.2.1)
                else
                  ev_at d M_SL_fits 74 [.ref 0, .int x1, .int x2, .int x3, .int x4, .int x5] [] (ev_mk s5.1.2 s5.2.1 s5.2.2.1)))))))
    else
      ev_at d M_SL_fits 26 [.ref 0, .int x1, .int x2, .int x3, .int x4, .int (x5 + 1)] [] (ev_mk h I L))
  else
    (if 0 < x2 then
      ev_cV (ev_do d M_Row_tellTwo [.ref 3, .long x3.toInt64, .long x4.toInt64] (ev_mk h (ev_up I 3 1 0) L)) (fun s7 =>
        ev_ri x2 (ev_mk s7.1.2 s7.2.1 s7.2.2.1))
    else
      ev_ri x2 (ev_mk h (ev_up I 3 1 0) L))) := 
  (ev_eq true (ev_call true d) M_SL_fits 26 [.ref 0, .int x1, .int x2, .int x3, .int x4, .int x5] [] (ev_mk h I L)).trans rfl
set_option maxRecDepth 100000 in
theorem e_SL_fits_74 (d : Nat) (x1 x2 x3 x4 x5 : Int32) (h : Bool × Nat × Nat) (I : Nat → Nat → Int32) (L : Nat → Nat → Int64) : ev_at d M_SL_fits 74 [.ref 0, .int x1, .int x2, .int x3, .int x4, .int x5] [] (ev_mk h I L) =
  ev_at d M_SL_fits 26 [.ref 0, .int x1, .int (x2 + 1), .int x3, .int (x4 &&& x5), .int (x5 + 1)] [] (ev_mk h I L) := 
  (ev_eq true (ev_call true d) M_SL_fits 74 [.ref 0, .int x1, .int x2, .int x3, .int x4, .int x5] [] (ev_mk h I L)).trans rfl
set_option maxRecDepth 100000 in
theorem e_SL_forget_0 (d : Nat) (h : Bool × Nat × Nat) (I : Nat → Nat → Int32) (L : Nat → Nat → Int64) : ev_do (d + 1) M_SL_forget [.ref 0] (ev_mk h I L) =
  ev_ri (I 129 3) (ev_mk h (ev_up I 129 3 0) L) := 
  (ev_eq true (ev_call true d) M_SL_forget 0 [.ref 0, .float 0] [] (ev_mk h I L)).trans rfl
set_option maxRecDepth 100000 in
theorem e_SL_gainOf_0 (d : Nat) (x0 x1 x2 : Int32) (h : Bool × Nat × Nat) (I : Nat → Nat → Int32) (L : Nat → Nat → Int64) : ev_do (d + 1) M_SL_gainOf [.int x0, .int x1, .int x2] (ev_mk h I L) =
  (if x1 < x0 then
    ev_ri (x2 - (x0 + (if 0 < (x0 - 5) then (x0 - 5) else 0))) (ev_mk h I L)
  else
    (if x0 = x1 then
      ev_ri ((x2 / 2) - (x0 + (if 0 < (x0 - 5) then (x0 - 5) else 0))) (ev_mk h I L)
    else
      ev_ri ((x2 / 3) - (x0 + (if 0 < (x0 - 5) then (x0 - 5) else 0))) (ev_mk h I L))) := 
  (ev_eq true (ev_call true d) M_SL_gainOf 0 [.int x0, .int x1, .int x2, .float 0, .float 0] [] (ev_mk h I L)).trans rfl
set_option maxRecDepth 100000 in
theorem e_SL_game_0 (d : Nat) (x1 x2 x3 : Int32) (h : Bool × Nat × Nat) (I : Nat → Nat → Int32) (L : Nat → Nat → Int64) : ev_do (d + 1) M_SL_game [.ref 0, .int x1, .int x2, .int x3] (ev_mk h I L) =
  (if x1 < 0 then
    ev_ri (-1) (ev_mk h I L)
  else
    (if 60 < x1 then
      ev_ri (-1) (ev_mk h I L)
    else
      (if x2 < 2 then
        ev_ri (-1) (ev_mk h I L)
      else
        (if 9 < x2 then
          ev_ri (-1) (ev_mk h I L)
        else
          (if x3 < 2 then
            ev_ri (-1) (ev_mk h I L)
          else
            (if 9 < x3 then
              ev_ri (-1) (ev_mk h I L)
            else
              (if x1 = 0 then
                ev_ri (-2) (ev_mk h I L)
              else
                ev_at d M_SL_game 50 [.float 0, .int x1, .int x2, .int x3, .long 0, .float 0, .long 0, .float 0, .int 2, .float 0, .float 0, .float 0, .float 0] [] (ev_mk h I L)))))))) := 
  (ev_eq true (ev_call true d) M_SL_game 0 [.ref 0, .int x1, .int x2, .int x3, .float 0, .float 0, .float 0, .float 0, .float 0, .float 0, .float 0, .float 0, .float 0] [] (ev_mk h I L)).trans rfl
set_option maxRecDepth 100000 in
theorem e_SL_game_50 (d : Nat) (x1 x2 x3 x8 : Int32) (x4 x6 : Int64) (h : Bool × Nat × Nat) (I : Nat → Nat → Int32) (L : Nat → Nat → Int64) : ev_at d M_SL_game 50 [.float 0, .int x1, .int x2, .int x3, .long x4, .float 0, .long x6, .float 0, .int x8, .float 0, .float 0, .float 0, .float 0] [] (ev_mk h I L) =
  (if x8 < x1 then
    ev_cI (ev_do d M_SL_winningTake [.int x8, .int x2, .long x6] (ev_mk h I L)) (fun v2 s1 =>
      (if 0 < v2 then
        ev_at d M_SL_game 72 [.float 0, .int x1, .int x2, .int x3, .long x4, .float 0, .long x6, .float 0, .int x8, .float 0, .float 0, .float 0, .float 0] [.long 1] (ev_mk s1.1.2 s1.2.1 s1.2.2.1)
      else
        ev_at d M_SL_game 72 [.float 0, .int x1, .int x2, .int x3, .long x4, .float 0, .long x6, .float 0, .int x8, .float 0, .float 0, .float 0, .float 0] [.long 0] (ev_mk s1.1.2 s1.2.1 s1.2.2.1)))
  else
    ev_cI (ev_do d M_SL_winningTake [.int x1, .int x2, .long x6] (ev_mk h I L)) (fun v4 s3 =>
      ev_ri v4 (ev_mk s3.1.2 s3.2.1 s3.2.2.1))) := 
  (ev_eq true (ev_call true d) M_SL_game 50 [.float 0, .int x1, .int x2, .int x3, .long x4, .float 0, .long x6, .float 0, .int x8, .float 0, .float 0, .float 0, .float 0] [] (ev_mk h I L)).trans rfl
set_option maxRecDepth 100000 in
theorem e_SL_game_72 (d : Nat) (x1 x2 x3 x8 : Int32) (x4 x6 y0 : Int64) (h : Bool × Nat × Nat) (I : Nat → Nat → Int32) (L : Nat → Nat → Int64) : ev_at d M_SL_game 72 [.float 0, .int x1, .int x2, .int x3, .long x4, .float 0, .long x6, .float 0, .int x8, .float 0, .float 0, .float 0, .float 0] [.long y0] (ev_mk h I L) =
  ev_cI (ev_do d M_SL_winningTake [.int x8, .int x3, .long x4] (ev_mk h I L)) (fun v2 s1 =>
    (if 0 < v2 then
      ev_at d M_SL_game 90 [.float 0, .int x1, .int x2, .int x3, .long x4, .float 0, .long x6, .float 0, .int x8, .long y0, .float 0, .float 0, .float 0] [.long 1] (ev_mk s1.1.2 s1.2.1 s1.2.2.1)
    else
      ev_at d M_SL_game 90 [.float 0, .int x1, .int x2, .int x3, .long x4, .float 0, .long x6, .float 0, .int x8, .long y0, .float 0, .float 0, .float 0] [.long 0] (ev_mk s1.1.2 s1.2.1 s1.2.2.1))) := 
  (ev_eq true (ev_call true d) M_SL_game 72 [.float 0, .int x1, .int x2, .int x3, .long x4, .float 0, .long x6, .float 0, .int x8, .float 0, .float 0, .float 0, .float 0] [.long y0] (ev_mk h I L)).trans rfl
set_option maxRecDepth 100000 in
theorem e_SL_game_90 (d : Nat) (x1 x2 x3 x8 : Int32) (x4 x6 x9 y0 : Int64) (h : Bool × Nat × Nat) (I : Nat → Nat → Int32) (L : Nat → Nat → Int64) : ev_at d M_SL_game 90 [.float 0, .int x1, .int x2, .int x3, .long x4, .float 0, .long x6, .float 0, .int x8, .long x9, .float 0, .float 0, .float 0] [.long y0] (ev_mk h I L) =
  ev_at d M_SL_game 50 [.float 0, .int x1, .int x2, .int x3, .long (x4 ||| (x9 <<< (x8.toInt64 &&& 63))), .float 0, .long (x6 ||| (y0 <<< (x8.toInt64 &&& 63))), .float 0, .int (x8 + 1), .float 0, .float 0, .float 0, .float 0] [] (ev_mk h I L) := 
  (ev_eq true (ev_call true d) M_SL_game 90 [.float 0, .int x1, .int x2, .int x3, .long x4, .float 0, .long x6, .float 0, .int x8, .long x9, .float 0, .float 0, .float 0] [.long y0] (ev_mk h I L)).trans rfl
set_option maxRecDepth 100000 in
theorem e_SL_isBest_0 (d : Nat) (x0 x1 x2 : Int32) (h : Bool × Nat × Nat) (I : Nat → Nat → Int32) (L : Nat → Nat → Int64) : ev_do (d + 1) M_SL_isBest [.int x0, .int x1, .int x2] (ev_mk h I L) =
  ev_cI (ev_do d M_SL_gainOf [.int x0, .int x1, .int x2] (ev_mk h I L)) (fun v2 s1 =>
    ev_at d M_SL_isBest 10 [.float 0, .int x1, .int x2, .int v2, .int 0] [] (ev_mk s1.1.2 s1.2.1 s1.2.2.1)) := 
  (ev_eq true (ev_call true d) M_SL_isBest 0 [.int x0, .int x1, .int x2, .float 0, .float 0] [] (ev_mk h I L)).trans rfl
set_option maxRecDepth 100000 in
theorem e_SL_isBest_10 (d : Nat) (x1 x2 x3 x4 : Int32) (h : Bool × Nat × Nat) (I : Nat → Nat → Int32) (L : Nat → Nat → Int64) : ev_at d M_SL_isBest 10 [.float 0, .int x1, .int x2, .int x3, .int x4] [] (ev_mk h I L) =
  (if 9 < x4 then
    ev_ri 1 (ev_mk h I L)
  else
    ev_cI (ev_do d M_SL_gainOf [.int x4, .int x1, .int x2] (ev_mk h I L)) (fun v2 s1 =>
      (if x3 < v2 then
        ev_ri 0 (ev_mk s1.1.2 s1.2.1 s1.2.2.1)
      else
        ev_at d M_SL_isBest 10 [.float 0, .int x1, .int x2, .int x3, .int (x4 + 1)] [] (ev_mk s1.1.2 s1.2.1 s1.2.2.1)))) := 
  (ev_eq true (ev_call true d) M_SL_isBest 10 [.float 0, .int x1, .int x2, .int x3, .int x4] [] (ev_mk h I L)).trans rfl
set_option maxRecDepth 100000 in
theorem e_SL_isLetter_0 (d : Nat) (x0 : Int32) (h : Bool × Nat × Nat) (I : Nat → Nat → Int32) (L : Nat → Nat → Int64) : ev_do (d + 1) M_SL_isLetter [.int x0] (ev_mk h I L) =
  (if x0 < 0 then
    ev_ri 0 (ev_mk h I L)
  else
    (if x0 < 8 then
      ev_ri 1 (ev_mk h I L)
    else
      ev_ri 0 (ev_mk h I L))) := 
  (ev_eq true (ev_call true d) M_SL_isLetter 0 [.int x0] [] (ev_mk h I L)).trans rfl
set_option maxRecDepth 100000 in
theorem e_SL_isSet_0 (d : Nat) (x0 : Int32) (h : Bool × Nat × Nat) (I : Nat → Nat → Int32) (L : Nat → Nat → Int64) : ev_do (d + 1) M_SL_isSet [.int x0] (ev_mk h I L) =
  (if x0 < 0 then
    ev_ri 0 (ev_mk h I L)
  else
    (if 255 < x0 then
      ev_ri 0 (ev_mk h I L)
    else
      ev_ri 1 (ev_mk h I L))) := 
  (ev_eq true (ev_call true d) M_SL_isSet 0 [.int x0] [] (ev_mk h I L)).trans rfl
set_option maxRecDepth 100000 in
theorem e_SL_joins_0 (d : Nat) (x1 x2 : Int32) (h : Bool × Nat × Nat) (I : Nat → Nat → Int32) (L : Nat → Nat → Int64) : ev_do (d + 1) M_SL_joins [.ref 0, .int x1, .int x2] (ev_mk h I L) =
  ev_cI (ev_do d M_Book_hasBoth [.ref 5, .int x1, .int x2] (ev_mk h I L)) (fun v2 s1 =>
    (if v2 = 0 then
      ev_ri (-1) (ev_mk s1.1.2 s1.2.1 s1.2.2.1)
    else
      ev_at d M_SL_joins 19 [.ref 0, .int x1, .int x2, .int (-1), .int 0] [] (ev_mk s1.1.2 s1.2.1 s1.2.2.1))) := 
  (ev_eq true (ev_call true d) M_SL_joins 0 [.ref 0, .int x1, .int x2, .float 0, .float 0] [] (ev_mk h I L)).trans rfl
set_option maxRecDepth 100000 in
theorem e_SL_joins_19 (d : Nat) (x1 x2 x3 x4 : Int32) (h : Bool × Nat × Nat) (I : Nat → Nat → Int32) (L : Nat → Nat → Int64) : ev_at d M_SL_joins 19 [.ref 0, .int x1, .int x2, .int x3, .int x4] [] (ev_mk h I L) =
  (if x4 < 256 then
    (if x3 = (-1) then
      ev_at d M_SL_joins 44 [.ref 0, .int x1, .int x2, .int x3, .int x4] [] (ev_mk h I L)
    else
      ev_cI (ev_do d M_Int_bitCount [.int x4] (ev_mk h I L)) (fun v2 s1 =>
        ev_cI (ev_do d M_Int_bitCount [.int x3] (ev_mk s1.1.2 s1.2.1 s1.2.2.1)) (fun v4 s3 =>
          (if v2 < v4 then
            ev_at d M_SL_joins 44 [.ref 0, .int x1, .int x2, .int x3, .int x4] [] (ev_mk s3.1.2 s3.2.1 s3.2.2.1)
          else
            ev_at d M_SL_joins 19 [.ref 0, .int x1, .int x2, .int x3, .int (x4 + 1)] [] (ev_mk s3.1.2 s3.2.1 s3.2.2.1)))))
  else
    (if x3 = (-1) then
      ev_ri (-2) (ev_mk h I L)
    else
      ev_cI (ev_do d M_SL_tellSet [.ref 0, .int x3] (ev_mk h I L)) (fun v6 s5 =>
        ev_ri v6 (ev_mk s5.1.2 s5.2.1 s5.2.2.1)))) := 
  (ev_eq true (ev_call true d) M_SL_joins 19 [.ref 0, .int x1, .int x2, .int x3, .int x4] [] (ev_mk h I L)).trans rfl
set_option maxRecDepth 100000 in
theorem e_SL_joins_44 (d : Nat) (x1 x2 x3 x4 : Int32) (h : Bool × Nat × Nat) (I : Nat → Nat → Int32) (L : Nat → Nat → Int64) : ev_at d M_SL_joins 44 [.ref 0, .int x1, .int x2, .int x3, .int x4] [] (ev_mk h I L) =
  ev_cI (ev_do d M_Book_areOne [.ref 5, .ref 17, .int x1, .int x2, .int x4] (ev_mk h I L)) (fun v2 s1 =>
    (if v2 = 0 then
      ev_at d M_SL_joins 19 [.ref 0, .int x1, .int x2, .int x3, .int (x4 + 1)] [] (ev_mk s1.1.2 s1.2.1 s1.2.2.1)
    else
      ev_at d M_SL_joins 19 [.ref 0, .int x1, .int x2, .int x4, .int (x4 + 1)] [] (ev_mk s1.1.2 s1.2.1 s1.2.2.1))) := 
  (ev_eq true (ev_call true d) M_SL_joins 44 [.ref 0, .int x1, .int x2, .int x3, .int x4] [] (ev_mk h I L)).trans rfl
set_option maxRecDepth 100000 in
theorem e_SL_keep_0 (d : Nat) (x1 : Int32) (h : Bool × Nat × Nat) (I : Nat → Nat → Int32) (L : Nat → Nat → Int64) : ev_do (d + 1) M_SL_keep [.ref 0, .int x1] (ev_mk h I L) =
  ev_cI (ev_do d M_Past_keepUnder [.ref 25, .int x1, .ref 17] (ev_mk h I L)) (fun v2 s1 =>
    (if ev_fit .boolean v2 then ev_ri v2 (ev_mk s1.1.2 s1.2.1 s1.2.2.1) else none)) := 
  (ev_eq true (ev_call true d) M_SL_keep 0 [.ref 0, .int x1] [] (ev_mk h I L)).trans rfl
set_option maxRecDepth 100000 in
theorem e_SL_kinds_0 (d : Nat) (x1 : Int32) (h : Bool × Nat × Nat) (I : Nat → Nat → Int32) (L : Nat → Nat → Int64) : ev_do (d + 1) M_SL_kinds [.ref 0, .int x1] (ev_mk h I L) =
  ev_cI (ev_do d M_SL_isSet [.int x1] (ev_mk h I L)) (fun v2 s1 =>
    (if v2 = 0 then
      ev_ri (-1) (ev_mk s1.1.2 s1.2.1 s1.2.2.1)
    else
      ev_cV (ev_do d M_Book_spellAll [.ref 5, .ref 17, .int x1, .ref 133] (ev_mk s1.1.2 s1.2.1 s1.2.2.1)) (fun s3 =>
        ev_at d M_SL_kinds 37 [.ref 0, .float 0, .int 0, .int 0, .float 0] [] (ev_mk s3.1.2 (ev_up s3.2.1 3 1 0) s3.2.2.1)))) := 
  (ev_eq true (ev_call true d) M_SL_kinds 0 [.ref 0, .int x1, .float 0, .float 0, .float 0] [] (ev_mk h I L)).trans rfl
set_option maxRecDepth 100000 in
theorem e_SL_kinds_37 (d : Nat) (x2 x3 : Int32) (h : Bool × Nat × Nat) (I : Nat → Nat → Int32) (L : Nat → Nat → Int64) : ev_at d M_SL_kinds 37 [.ref 0, .float 0, .int x2, .int x3, .float 0] [] (ev_mk h I L) =
  (if x3 < (I 5 3) then
    ev_cI (ev_do d M_SL_firstLike [.ref 0, .int x3] (ev_mk h I L)) (fun v2 s1 =>
      (if v2 = x3 then
        ev_at d M_SL_kinds 67 [.ref 0, .float 0, .float 0, .int x3, .int v2] [.int 1, .int x2] (ev_mk s1.1.2 s1.2.1 s1.2.2.1)
      else
        ev_at d M_SL_kinds 67 [.ref 0, .float 0, .float 0, .int x3, .int v2] [.int 0, .int x2] (ev_mk s1.1.2 s1.2.1 s1.2.2.1)))
  else
    ev_ri x2 (ev_mk h I L)) := 
  (ev_eq true (ev_call true d) M_SL_kinds 37 [.ref 0, .float 0, .int x2, .int x3, .float 0] [] (ev_mk h I L)).trans rfl
set_option maxRecDepth 100000 in
theorem e_SL_kinds_67 (d : Nat) (x3 x4 y0 y1 : Int32) (h : Bool × Nat × Nat) (I : Nat → Nat → Int32) (L : Nat → Nat → Int64) : ev_at d M_SL_kinds 67 [.ref 0, .float 0, .float 0, .int x3, .int x4] [.int y0, .int y1] (ev_mk h I L) =
  ev_cV (ev_do d M_Row_tell [.ref 3, .long x4.toInt64] (ev_mk h I L)) (fun s1 =>
    ev_at d M_SL_kinds 37 [.ref 0, .float 0, .int (y1 + y0), .int (x3 + 1), .float 0] [] (ev_mk s1.1.2 s1.2.1 s1.2.2.1)) := 
  (ev_eq true (ev_call true d) M_SL_kinds 67 [.ref 0, .float 0, .float 0, .int x3, .int x4] [.int y0, .int y1] (ev_mk h I L)).trans rfl
set_option maxRecDepth 100000 in
theorem e_SL_law_0 (d : Nat) (h : Bool × Nat × Nat) (I : Nat → Nat → Int32) (L : Nat → Nat → Int64) : ev_do (d + 1) M_SL_law [.ref 0] (ev_mk h I L) =
  ev_cI (ev_do d M_Rule_read [.ref 105, .ref 1] (ev_mk h I L)) (fun v2 s1 =>
    (if v2 = (-1) then
      ev_cI (ev_do d M_Union_strikers [.ref 109, .ref 101, .ref 17] (ev_mk s1.1.2 (ev_up (ev_up s1.2.1 1 1 0) 3 1 0) s1.2.2.1)) (fun v4 s3 =>
        ev_cV (ev_do d M_Row_tell [.ref 3, .long v4.toInt64] (ev_mk s3.1.2 s3.2.1 s3.2.2.1)) (fun s5 =>
          ev_at d M_SL_law 64 [.ref 0, .float 0, .int 0] [] (ev_mk s5.1.2 s5.2.1 s5.2.2.1)))
    else
      ev_ri ((-10000) - v2) (ev_mk s1.1.2 (ev_up s1.2.1 1 1 0) s1.2.2.1))) := 
  (ev_eq true (ev_call true d) M_SL_law 0 [.ref 0, .float 0, .float 0] [] (ev_mk h I L)).trans rfl
set_option maxRecDepth 100000 in
theorem e_SL_law_64 (d : Nat) (x2 : Int32) (h : Bool × Nat × Nat) (I : Nat → Nat → Int32) (L : Nat → Nat → Int64) : ev_at d M_SL_law 64 [.ref 0, .float 0, .int x2] [] (ev_mk h I L) =
  (if x2 < 8 then
    (if ev_in x2 8 then
      ev_cI (ev_do d M_Union_grudge [.ref 109, .ref 105, .ref 17, .int x2, .int (I 20 x2.toNatClampNeg)] (ev_mk h I L)) (fun v2 s1 =>
        ev_cV (ev_do d M_Row_tell [.ref 3, .long v2.toInt64] (ev_mk s1.1.2 s1.2.1 s1.2.2.1)) (fun s3 =>
          ev_at d M_SL_law 64 [.ref 0, .float 0, .int (x2 + 1)] [] (ev_mk s3.1.2 s3.2.1 s3.2.2.1)))
    else none)
  else
    ev_cI (ev_do d M_Union_strikers [.ref 109, .ref 105, .ref 17] (ev_mk h I L)) (fun v5 s4 =>
      ev_ri v5 (ev_mk s4.1.2 s4.2.1 s4.2.2.1))) := 
  (ev_eq true (ev_call true d) M_SL_law 64 [.ref 0, .float 0, .int x2] [] (ev_mk h I L)).trans rfl
set_option maxRecDepth 100000 in
theorem e_SL_letter_0 (d : Nat) (x1 x2 : Int32) (h : Bool × Nat × Nat) (I : Nat → Nat → Int32) (L : Nat → Nat → Int64) : ev_do (d + 1) M_SL_letter [.ref 0, .int x1, .int x2] (ev_mk h I L) =
  ev_cI (ev_do d M_SL_isLetter [.int x1] (ev_mk h I L)) (fun v2 s1 =>
    (if v2 = 0 then
      ev_at d M_SL_letter 16 [.float 0, .float 0, .float 0] [] (ev_mk s1.1.2 s1.2.1 s1.2.2.1)
    else
      (if x2 < 0 then
        ev_at d M_SL_letter 16 [.float 0, .float 0, .float 0] [] (ev_mk s1.1.2 s1.2.1 s1.2.2.1)
      else
        (if 5 < x2 then
          ev_at d M_SL_letter 16 [.float 0, .float 0, .float 0] [] (ev_mk s1.1.2 s1.2.1 s1.2.2.1)
        else
          ev_cV (ev_do d M_Union_tally [.ref 109, .ref 17] (ev_mk s1.1.2 s1.2.1 s1.2.2.1)) (fun s3 =>
            (if x2 = 0 then
              (if ev_in x1 8 then
                ev_ri (s3.2.1 19 x1.toNatClampNeg) (ev_mk s3.1.2 s3.2.1 s3.2.2.1)
              else none)
            else (if x2 = 1 then
              (if ev_in x1 8 then
                ev_ri (s3.2.1 20 x1.toNatClampNeg) (ev_mk s3.1.2 s3.2.1 s3.2.2.1)
              else none)
            else (if x2 = 2 then
              (if ev_in x1 8 then
                ev_ri (s3.2.1 112 x1.toNatClampNeg) (ev_mk s3.1.2 s3.2.1 s3.2.2.1)
              else none)
            else (if x2 = 3 then
              (if ev_in x1 8 then
                ev_ri (s3.2.1 113 x1.toNatClampNeg) (ev_mk s3.1.2 s3.2.1 s3.2.2.1)
              else none)
            else (if x2 = 4 then
              ev_ri (((s3.2.1 17 3) >>> (x1 &&& 31)) &&& 1) (ev_mk s3.1.2 s3.2.1 s3.2.2.1)
            else (if ev_in x1 8 then
                ev_cI (ev_do d M_Union_grudge [.ref 109, .ref 101, .ref 17, .int x1, .int (s3.2.1 20 x1.toNatClampNeg)] (ev_mk s3.1.2 s3.2.1 s3.2.2.1)) (fun v5 s4 =>
                  ev_ri v5 (ev_mk s4.1.2 s4.2.1 s4.2.2.1))
              else none))))))))))) := 
  (ev_eq true (ev_call true d) M_SL_letter 0 [.ref 0, .int x1, .int x2] [] (ev_mk h I L)).trans rfl
set_option maxRecDepth 100000 in
theorem e_SL_letter_16 (d : Nat) (h : Bool × Nat × Nat) (I : Nat → Nat → Int32) (L : Nat → Nat → Int64) : ev_at d M_SL_letter 16 [.float 0, .float 0, .float 0] [] (ev_mk h I L) =
  some (none, ev_mk (false, h.2.1 + 1, h.2.2 + 6) I L) := 
  (ev_eq true (ev_call true d) M_SL_letter 16 [.float 0, .float 0, .float 0] [] (ev_mk h I L)).trans rfl
set_option maxRecDepth 100000 in
theorem e_SL_looks_0 (d : Nat) (x1 x2 : Int32) (h : Bool × Nat × Nat) (I : Nat → Nat → Int32) (L : Nat → Nat → Int64) : ev_do (d + 1) M_SL_looks [.ref 0, .int x1, .int x2] (ev_mk h I L) =
  ev_cI (ev_do d M_Book_has [.ref 5, .int x1] (ev_mk h I L)) (fun v2 s1 =>
    (if v2 = 0 then
      ev_ri (-1) (ev_mk s1.1.2 s1.2.1 s1.2.2.1)
    else
      ev_cI (ev_do d M_SL_isSet [.int x2] (ev_mk s1.1.2 s1.2.1 s1.2.2.1)) (fun v4 s3 =>
        (if v4 = 0 then
          ev_ri (-1) (ev_mk s3.1.2 s3.2.1 s3.2.2.1)
        else
          ev_cI (ev_do d M_Book_gone [.ref 5, .ref 17, .int x1, .int x2] (ev_mk s3.1.2 s3.2.1 s3.2.2.1)) (fun v6 s5 =>
            ev_at d M_SL_looks 45 [.ref 0, .int x1, .float 0, .int v6, .int 0] [] (ev_mk s5.1.2 (ev_up s5.2.1 3 1 0) s5.2.2.1)))))) := 
  (ev_eq true (ev_call true d) M_SL_looks 0 [.ref 0, .int x1, .int x2, .float 0, .float 0] [] (ev_mk h I L)).trans rfl
set_option maxRecDepth 100000 in
theorem e_SL_looks_45 (d : Nat) (x1 x3 x4 : Int32) (h : Bool × Nat × Nat) (I : Nat → Nat → Int32) (L : Nat → Nat → Int64) : ev_at d M_SL_looks 45 [.ref 0, .int x1, .float 0, .int x3, .int x4] [] (ev_mk h I L) =
  (if ev_in x1 8 then
    (if x4 < (I 15 x1.toNatClampNeg) then
      (if ((x3 >>> (x4 &&& 31)) &&& 1) = 0 then
        (if ev_in x1 8 then
          ev_aI (ev_mk h I L) (ev_rv (ev_R0 6 x1.toNatClampNeg)) x4 (fun v1 =>
            ev_cV (ev_do d M_Row_tell [.ref 3, .long v1.toInt64] (ev_mk h I L)) (fun s2 =>
              ev_at d M_SL_looks 45 [.ref 0, .int x1, .float 0, .int x3, .int (x4 + 1)] [] (ev_mk s2.1.2 s2.2.1 s2.2.2.1)))
        else none)
      else
        ev_at d M_SL_looks 45 [.ref 0, .int x1, .float 0, .int x3, .int (x4 + 1)] [] (ev_mk h I L))
    else
      ev_ri (I 3 1) (ev_mk h I L))
  else none) := 
  (ev_eq true (ev_call true d) M_SL_looks 45 [.ref 0, .int x1, .float 0, .int x3, .int x4] [] (ev_mk h I L)).trans rfl
set_option maxRecDepth 100000 in
theorem e_SL_misread_0 (d : Nat) (x1 x2 x3 : Int32) (h : Bool × Nat × Nat) (I : Nat → Nat → Int32) (L : Nat → Nat → Int64) : ev_do (d + 1) M_SL_misread [.ref 0, .int x1, .int x2, .int x3] (ev_mk h I L) =
  ev_cI (ev_do d M_Book_hasBoth [.ref 5, .int x1, .int x2] (ev_mk h I L)) (fun v2 s1 =>
    (if v2 = 0 then
      ev_ri (-1) (ev_mk s1.1.2 s1.2.1 s1.2.2.1)
    else
      (if x3 < 0 then
        ev_ri (-1) (ev_mk s1.1.2 s1.2.1 s1.2.2.1)
      else
        (if 10 < x3 then
          ev_ri (-1) (ev_mk s1.1.2 s1.2.1 s1.2.2.1)
        else
          ev_at d M_SL_misread 30 [.ref 0, .int x1, .int x2, .int x3, .long 0, .float 0, .int 0] [] (ev_mk s1.1.2 s1.2.1 s1.2.2.1))))) := 
  (ev_eq true (ev_call true d) M_SL_misread 0 [.ref 0, .int x1, .int x2, .int x3, .float 0, .float 0, .float 0] [] (ev_mk h I L)).trans rfl
set_option maxRecDepth 100000 in
theorem e_SL_misread_30 (d : Nat) (x1 x2 x3 x6 : Int32) (x4 : Int64) (h : Bool × Nat × Nat) (I : Nat → Nat → Int32) (L : Nat → Nat → Int64) : ev_at d M_SL_misread 30 [.ref 0, .int x1, .int x2, .int x3, .long x4, .float 0, .int x6] [] (ev_mk h I L) =
  (if x6 < 256 then
    ev_cI (ev_do d M_Book_areOne [.ref 5, .ref 17, .int x1, .int x2, .int x6] (ev_mk h I L)) (fun v2 s1 =>
      (if v2 = 0 then
        ev_at d M_SL_misread 30 [.ref 0, .int x1, .int x2, .int x3, .long x4, .float 0, .int (x6 + 1)] [] (ev_mk s1.1.2 s1.2.1 s1.2.2.1)
      else
        ev_cL (ev_do d M_SL_chanceOf [.int x6, .int x3] (ev_mk s1.1.2 s1.2.1 s1.2.2.1)) (fun v4 s3 =>
          ev_at d M_SL_misread 30 [.ref 0, .int x1, .int x2, .int x3, .long (x4 + v4), .float 0, .int (x6 + 1)] [] (ev_mk s3.1.2 s3.2.1 s3.2.2.1))))
  else
    ev_cL (ev_do d M_SL_raised [.long 10, .int 8] (ev_mk h I L)) (fun v6 s5 =>
      ev_cV (ev_do d M_Row_tellFraction [.ref 3, .long x4, .long v6] (ev_mk s5.1.2 s5.2.1 s5.2.2.1)) (fun s7 =>
        ev_ri 0 (ev_mk s7.1.2 s7.2.1 s7.2.2.1)))) := 
  (ev_eq true (ev_call true d) M_SL_misread 30 [.ref 0, .int x1, .int x2, .int x3, .long x4, .float 0, .int x6] [] (ev_mk h I L)).trans rfl
set_option maxRecDepth 100000 in
theorem e_SL_most_0 (d : Nat) (h : Bool × Nat × Nat) (I : Nat → Nat → Int32) (L : Nat → Nat → Int64) : ev_do (d + 1) M_SL_most [.ref 0] (ev_mk h I L) =
  ev_cI (ev_do d M_Book_unsaidLetters [.ref 5, .ref 17] (ev_mk h I L)) (fun v2 s1 =>
    ev_at d M_SL_most 16 [.ref 0, .int v2, .int 0, .int 0] [] (ev_mk s1.1.2 s1.2.1 s1.2.2.1)) := 
  (ev_eq true (ev_call true d) M_SL_most 0 [.ref 0, .float 0, .float 0, .float 0] [] (ev_mk h I L)).trans rfl
set_option maxRecDepth 100000 in
theorem e_SL_most_16 (d : Nat) (x1 x2 x3 : Int32) (h : Bool × Nat × Nat) (I : Nat → Nat → Int32) (L : Nat → Nat → Int64) : ev_at d M_SL_most 16 [.ref 0, .int x1, .int x2, .int x3] [] (ev_mk h I L) =
  (if x3 < 256 then
    (if (x3 &&& (x1 ^^^ (-1))) = 0 then
      ev_cI (ev_do d M_Int_bitCount [.int x3] (ev_mk h I L)) (fun v2 s1 =>
        ev_cI (ev_do d M_Int_bitCount [.int x2] (ev_mk s1.1.2 s1.2.1 s1.2.2.1)) (fun v4 s3 =>
          (if v4 < v2 then
            ev_cI (ev_do d M_SL_tellsApart [.ref 0, .int x3, .int 255] (ev_mk s3.1.2 s3.2.1 s3.2.2.1)) (fun v6 s5 =>
              (if v6 = 0 then
                ev_at d M_SL_most 16 [.ref 0, .int x1, .int x2, .int (x3 + 1)] [] (ev_mk s5.1.2 s5.2.1 s5.2.2.1)
              else
                ev_at d M_SL_most 16 [.ref 0, .int x1, .int x3, .int (x3 + 1)] [] (ev_mk s5.1.2 s5.2.1 s5.2.2.1)))
          else
            ev_at d M_SL_most 16 [.ref 0, .int x1, .int x2, .int (x3 + 1)] [] (ev_mk s3.1.2 s3.2.1 s3.2.2.1))))
    else
      ev_at d M_SL_most 16 [.ref 0, .int x1, .int x2, .int (x3 + 1)] [] (ev_mk h I L))
  else
    ev_cI (ev_do d M_SL_tellSet [.ref 0, .int x2] (ev_mk h I L)) (fun v8 s7 =>
      ev_ri v8 (ev_mk s7.1.2 s7.2.1 s7.2.2.1))) := 
  (ev_eq true (ev_call true d) M_SL_most 16 [.ref 0, .int x1, .int x2, .int x3] [] (ev_mk h I L)).trans rfl
set_option maxRecDepth 100000 in
theorem e_SL_must_0 (d : Nat) (x1 : Int32) (h : Bool × Nat × Nat) (I : Nat → Nat → Int32) (L : Nat → Nat → Int64) : ev_do (d + 1) M_SL_must [.ref 0, .int x1] (ev_mk h I L) =
  (if x1 < 0 then
    ev_ri (-1) (ev_mk h I L)
  else
    (if x1 < (1 <<< ((I 5 3) &&& 31)) then
      ev_at d M_SL_must 25 [.ref 0, .int x1, .int 255, .int 0] [] (ev_mk h I L)
    else
      ev_ri (-1) (ev_mk h I L))) := 
  (ev_eq true (ev_call true d) M_SL_must 0 [.ref 0, .int x1, .float 0, .float 0] [] (ev_mk h I L)).trans rfl
set_option maxRecDepth 100000 in
theorem e_SL_must_25 (d : Nat) (x1 x2 x3 : Int32) (h : Bool × Nat × Nat) (I : Nat → Nat → Int32) (L : Nat → Nat → Int64) : ev_at d M_SL_must 25 [.ref 0, .int x1, .int x2, .int x3] [] (ev_mk h I L) =
  (if x3 < 256 then
    ev_cI (ev_do d M_Int_bitCount [.int x3] (ev_mk h I L)) (fun v2 s1 =>
      ev_cI (ev_do d M_Int_bitCount [.int x2] (ev_mk s1.1.2 s1.2.1 s1.2.2.1)) (fun v4 s3 =>
        (if v2 < v4 then
          ev_cI (ev_do d M_SL_tellsApart [.ref 0, .int (255 ^^^ x3), .int x1] (ev_mk s3.1.2 s3.2.1 s3.2.2.1)) (fun v6 s5 =>
            (if v6 = 0 then
              ev_at d M_SL_must 25 [.ref 0, .int x1, .int x2, .int (x3 + 1)] [] (ev_mk s5.1.2 s5.2.1 s5.2.2.1)
            else
              ev_at d M_SL_must 25 [.ref 0, .int x1, .int x3, .int (x3 + 1)] [] (ev_mk s5.1.2 s5.2.1 s5.2.2.1)))
        else
          ev_at d M_SL_must 25 [.ref 0, .int x1, .int x2, .int (x3 + 1)] [] (ev_mk s3.1.2 s3.2.1 s3.2.2.1))))
  else
    ev_cI (ev_do d M_SL_tellSet [.ref 0, .int x2] (ev_mk h I L)) (fun v8 s7 =>
      ev_ri v8 (ev_mk s7.1.2 s7.2.1 s7.2.2.1))) := 
  (ev_eq true (ev_call true d) M_SL_must 25 [.ref 0, .int x1, .int x2, .int x3] [] (ev_mk h I L)).trans rfl
set_option maxRecDepth 100000 in
theorem e_SL_mutes_0 (d : Nat) (x1 x2 : Int32) (h : Bool × Nat × Nat) (I : Nat → Nat → Int32) (L : Nat → Nat → Int64) : ev_do (d + 1) M_SL_mutes [.ref 0, .int x1, .int x2] (ev_mk h I L) =
  ev_cV (ev_do d M_State_copy [.ref 21, .ref 17] (ev_mk h I L)) (fun s1 =>
    ev_cI (ev_do d M_Book_mute [.ref 5, .ref 17, .int x1, .int x2] (ev_mk s1.1.2 s1.2.1 s1.2.2.1)) (fun v3 s2 =>
      ev_cI (ev_do d M_SL_rememberIfDone [.ref 0, .int v3] (ev_mk s2.1.2 s2.2.1 s2.2.2.1)) (fun v5 s4 =>
        ev_ri v5 (ev_mk s4.1.2 s4.2.1 s4.2.2.1)))) := 
  (ev_eq true (ev_call true d) M_SL_mutes 0 [.ref 0, .int x1, .int x2] [] (ev_mk h I L)).trans rfl
set_option maxRecDepth 100000 in
theorem e_SL_neverMeet_0 (d : Nat) (x1 : Int32) (h : Bool × Nat × Nat) (I : Nat → Nat → Int32) (L : Nat → Nat → Int64) : ev_do (d + 1) M_SL_neverMeet [.ref 0, .int x1] (ev_mk h I L) =
  ev_at d M_SL_neverMeet 2 [.ref 0, .int x1, .int 0, .float 0] [] (ev_mk h I L) := 
  (ev_eq true (ev_call true d) M_SL_neverMeet 0 [.ref 0, .int x1, .float 0, .float 0] [] (ev_mk h I L)).trans rfl
set_option maxRecDepth 100000 in
theorem e_SL_neverMeet_2 (d : Nat) (x1 x2 : Int32) (h : Bool × Nat × Nat) (I : Nat → Nat → Int32) (L : Nat → Nat → Int64) : ev_at d M_SL_neverMeet 2 [.ref 0, .int x1, .int x2, .float 0] [] (ev_mk h I L) =
  (if x2 < (I 5 3) then
    ev_at d M_SL_neverMeet 17 [.ref 0, .int x1, .int x2, .int (x2 + 1)] [] (ev_mk h I L)
  else
    ev_ri 1 (ev_mk h I L)) := 
  (ev_eq true (ev_call true d) M_SL_neverMeet 2 [.ref 0, .int x1, .int x2, .float 0] [] (ev_mk h I L)).trans rfl
set_option maxRecDepth 100000 in
theorem e_SL_neverMeet_17 (d : Nat) (x1 x2 x3 : Int32) (h : Bool × Nat × Nat) (I : Nat → Nat → Int32) (L : Nat → Nat → Int64) : ev_at d M_SL_neverMeet 17 [.ref 0, .int x1, .int x2, .int x3] [] (ev_mk h I L) =
  (if x3 < (I 5 3) then
    (if (((x1 >>> (x2 &&& 31)) &&& (x1 >>> (x3 &&& 31))) &&& 1) = 1 then
      (if ev_in ((x2 * 8) + x3) 64 then
        (if 0 < (I 134 (((x2 * 8) + x3).toNatClampNeg)) then
          ev_ri 0 (ev_mk h I L)
        else
          ev_at d M_SL_neverMeet 17 [.ref 0, .int x1, .int x2, .int (x3 + 1)] [] (ev_mk h I L))
      else none)
    else
      ev_at d M_SL_neverMeet 17 [.ref 0, .int x1, .int x2, .int (x3 + 1)] [] (ev_mk h I L))
  else
    ev_at d M_SL_neverMeet 2 [.ref 0, .int x1, .int (x2 + 1), .float 0] [] (ev_mk h I L)) := 
  (ev_eq true (ev_call true d) M_SL_neverMeet 17 [.ref 0, .int x1, .int x2, .int x3] [] (ev_mk h I L)).trans rfl
set_option maxRecDepth 100000 in
theorem e_SL_neverTaken_0 (d : Nat) (x1 : Int32) (h : Bool × Nat × Nat) (I : Nat → Nat → Int32) (L : Nat → Nat → Int64) : ev_do (d + 1) M_SL_neverTaken [.ref 0, .int x1] (ev_mk h I L) =
  ev_at d M_SL_neverTaken 2 [.ref 0, .int x1, .int 0] [] (ev_mk h I L) := 
  (ev_eq true (ev_call true d) M_SL_neverTaken 0 [.ref 0, .int x1, .float 0] [] (ev_mk h I L)).trans rfl
set_option maxRecDepth 100000 in
theorem e_SL_neverTaken_2 (d : Nat) (x1 x2 : Int32) (h : Bool × Nat × Nat) (I : Nat → Nat → Int32) (L : Nat → Nat → Int64) : ev_at d M_SL_neverTaken 2 [.ref 0, .int x1, .int x2] [] (ev_mk h I L) =
  (if x2 < 256 then
    (if ev_in x2 256 then
      (if ev_in (x1 &&& (I 136 x2.toNatClampNeg)) 256 then
        (if ev_in x2 256 then
          (if (I 137 ((x1 &&& (I 136 x2.toNatClampNeg)).toNatClampNeg)) = (I 138 x2.toNatClampNeg) then
            ev_ri 0 (ev_mk h I L)
          else
            ev_at d M_SL_neverTaken 2 [.ref 0, .int x1, .int (x2 + 1)] [] (ev_mk h I L))
        else none)
      else none)
    else none)
  else
    ev_ri 1 (ev_mk h I L)) := 
  (ev_eq true (ev_call true d) M_SL_neverTaken 2 [.ref 0, .int x1, .int x2] [] (ev_mk h I L)).trans rfl
set_option maxRecDepth 100000 in
theorem e_SL_next_0 (d : Nat) (h : Bool × Nat × Nat) (I : Nat → Nat → Int32) (L : Nat → Nat → Int64) : ev_do (d + 1) M_SL_next [.ref 0] (ev_mk h I L) =
  ev_cI (ev_do d M_Book_unsaidLetters [.ref 5, .ref 17] (ev_mk h I L)) (fun v2 s1 =>
    ev_cV (ev_do d M_Arr_fill [.ref 134, .int 0] (ev_mk s1.1.2 s1.2.1 s1.2.2.1)) (fun s3 =>
      ev_at d M_SL_next 24 [.ref 0, .int v2, .int 0, .int 0] [] (ev_mk s3.1.2 s3.2.1 s3.2.2.1))) := 
  (ev_eq true (ev_call true d) M_SL_next 0 [.ref 0, .float 0, .float 0, .float 0] [] (ev_mk h I L)).trans rfl
set_option maxRecDepth 100000 in
theorem e_SL_next_24 (d : Nat) (x1 x2 x3 : Int32) (h : Bool × Nat × Nat) (I : Nat → Nat → Int32) (L : Nat → Nat → Int64) : ev_at d M_SL_next 24 [.ref 0, .int x1, .int x2, .int x3] [] (ev_mk h I L) =
  (if x3 < 256 then
    (if (x3 &&& (x1 ^^^ (-1))) = 0 then
      ev_cI (ev_do d M_SL_agrees [.ref 0, .int x3] (ev_mk h I L)) (fun v2 s1 =>
        (if v2 = 0 then
          ev_at d M_SL_next 24 [.ref 0, .int x1, .int x2, .int (x3 + 1)] [] (ev_mk s1.1.2 s1.2.1 s1.2.2.1)
        else
          ev_cV (ev_do d M_SL_countPairsThatAreOne [.ref 0, .int x3] (ev_mk s1.1.2 s1.2.1 s1.2.2.1)) (fun s3 =>
            ev_at d M_SL_next 24 [.ref 0, .int x1, .int (x2 + 1), .int (x3 + 1)] [] (ev_mk s3.1.2 s3.2.1 s3.2.2.1))))
    else
      ev_at d M_SL_next 24 [.ref 0, .int x1, .int x2, .int (x3 + 1)] [] (ev_mk h I L))
  else
    (if x2 = 0 then
      ev_ri (-2) (ev_mk h I L)
    else
      (if (I 5 3) < 2 then
        ev_ri (-2) (ev_mk h I L)
      else
        ev_cI (ev_do d M_SL_tellBestLook [.ref 0, .int x2] (ev_mk h I L)) (fun v5 s4 =>
          ev_ri v5 (ev_mk s4.1.2 s4.2.1 s4.2.2.1))))) := 
  (ev_eq true (ev_call true d) M_SL_next 24 [.ref 0, .int x1, .int x2, .int x3] [] (ev_mk h I L)).trans rfl
set_option maxRecDepth 100000 in
theorem e_SL_noticed_0 (d : Nat) (x1 x2 x3 : Int32) (h : Bool × Nat × Nat) (I : Nat → Nat → Int32) (L : Nat → Nat → Int64) : ev_do (d + 1) M_SL_noticed [.ref 0, .int x1, .int x2, .int x3] (ev_mk h I L) =
  ev_cI (ev_do d M_Book_hasBoth [.ref 5, .int x1, .int x2] (ev_mk h I L)) (fun v2 s1 =>
    (if v2 = 0 then
      ev_ri (-1) (ev_mk s1.1.2 s1.2.1 s1.2.2.1)
    else
      (if x3 < 0 then
        ev_ri (-1) (ev_mk s1.1.2 s1.2.1 s1.2.2.1)
      else
        (if 1 < x3 then
          ev_ri (-1) (ev_mk s1.1.2 s1.2.1 s1.2.2.1)
        else
          ev_cI (ev_do d M_Notices_hasRoom [.ref 129] (ev_mk s1.1.2 s1.2.1 s1.2.2.1)) (fun v4 s3 =>
            (if v4 = 0 then
              ev_ri (-1) (ev_mk s3.1.2 s3.2.1 s3.2.2.1)
            else
              ev_cV (ev_do d M_Notices_take [.ref 129, .int x1, .int x2, .int x3] (ev_mk s3.1.2 s3.2.1 s3.2.2.1)) (fun s5 =>
                ev_ri (s5.2.1 129 3) (ev_mk s5.1.2 s5.2.1 s5.2.2.1)))))))) := 
  (ev_eq true (ev_call true d) M_SL_noticed 0 [.ref 0, .int x1, .int x2, .int x3] [] (ev_mk h I L)).trans rfl
set_option maxRecDepth 100000 in
theorem e_SL_offer_0 (d : Nat) (x1 x2 : Int32) (h : Bool × Nat × Nat) (I : Nat → Nat → Int32) (L : Nat → Nat → Int64) : ev_do (d + 1) M_SL_offer [.ref 0, .int x1, .int x2] (ev_mk h I L) =
  ev_cV (ev_do d M_State_copy [.ref 21, .ref 17] (ev_mk h I L)) (fun s1 =>
    ev_cI (ev_do d M_State_putOffer [.ref 17, .int x1, .int x2] (ev_mk s1.1.2 s1.2.1 s1.2.2.1)) (fun v3 s2 =>
      ev_cI (ev_do d M_SL_rememberIfDone [.ref 0, .int v3] (ev_mk s2.1.2 s2.2.1 s2.2.2.1)) (fun v5 s4 =>
        ev_ri v5 (ev_mk s4.1.2 s4.2.1 s4.2.2.1)))) := 
  (ev_eq true (ev_call true d) M_SL_offer 0 [.ref 0, .int x1, .int x2] [] (ev_mk h I L)).trans rfl
set_option maxRecDepth 100000 in
theorem e_SL_oneWith_0 (d : Nat) (x1 : Int32) (h : Bool × Nat × Nat) (I : Nat → Nat → Int32) (L : Nat → Nat → Int64) : ev_do (d + 1) M_SL_oneWith [.ref 0, .int x1] (ev_mk h I L) =
  ev_cV (ev_do d M_Book_spellAll [.ref 5, .ref 17, .int (I 17 3), .ref 133] (ev_mk h I L)) (fun s1 =>
    ev_at d M_SL_oneWith 26 [.ref 0, .int x1, .int 0, .int 0] [] (ev_mk s1.1.2 s1.2.1 s1.2.2.1)) := 
  (ev_eq true (ev_call true d) M_SL_oneWith 0 [.ref 0, .int x1, .float 0, .float 0] [] (ev_mk h I L)).trans rfl
set_option maxRecDepth 100000 in
theorem e_SL_oneWith_26 (d : Nat) (x1 x2 x3 : Int32) (h : Bool × Nat × Nat) (I : Nat → Nat → Int32) (L : Nat → Nat → Int64) : ev_at d M_SL_oneWith 26 [.ref 0, .int x1, .int x2, .int x3] [] (ev_mk h I L) =
  (if x3 < (I 5 3) then
    (if x3 = x1 then
      ev_at d M_SL_oneWith 26 [.ref 0, .int x1, .int x2, .int (x3 + 1)] [] (ev_mk h I L)
    else
      (if ev_in x3 8 then
        (if ev_in x1 8 then
          (if (I 133 x3.toNatClampNeg) = (I 133 x1.toNatClampNeg) then
            ev_at d M_SL_oneWith 26 [.ref 0, .int x1, .int (x2 ||| (1 <<< (x3 &&& 31))), .int (x3 + 1)] [] (ev_mk h I L)
          else
            ev_at d M_SL_oneWith 26 [.ref 0, .int x1, .int x2, .int (x3 + 1)] [] (ev_mk h I L))
        else none)
      else none))
  else
    ev_ri x2 (ev_mk h I L)) := 
  (ev_eq true (ev_call true d) M_SL_oneWith 26 [.ref 0, .int x1, .int x2, .int x3] [] (ev_mk h I L)).trans rfl
set_option maxRecDepth 100000 in
theorem e_SL_parts_0 (d : Nat) (x1 x2 : Int32) (h : Bool × Nat × Nat) (I : Nat → Nat → Int32) (L : Nat → Nat → Int64) : ev_do (d + 1) M_SL_parts [.ref 0, .int x1, .int x2] (ev_mk h I L) =
  ev_cI (ev_do d M_Book_hasBoth [.ref 5, .int x1, .int x2] (ev_mk h I L)) (fun v2 s1 =>
    (if v2 = 0 then
      ev_ri (-1) (ev_mk s1.1.2 s1.2.1 s1.2.2.1)
    else
      (if ev_in x1 8 then
        ev_at d M_SL_parts 31 [.ref 0, .int x1, .int x2, .int ((1 <<< ((s1.2.1 15 x1.toNatClampNeg) &&& 31)) - 1), .int 0, .float 0, .float 0] [] (ev_mk s1.1.2 s1.2.1 s1.2.2.1)
      else none))) := 
  (ev_eq true (ev_call true d) M_SL_parts 0 [.ref 0, .int x1, .int x2, .float 0, .float 0, .float 0, .float 0] [] (ev_mk h I L)).trans rfl
set_option maxRecDepth 100000 in
theorem e_SL_parts_31 (d : Nat) (x1 x2 x3 x4 : Int32) (h : Bool × Nat × Nat) (I : Nat → Nat → Int32) (L : Nat → Nat → Int64) : ev_at d M_SL_parts 31 [.ref 0, .int x1, .int x2, .int x3, .int x4, .float 0, .float 0] [] (ev_mk h I L) =
  (if x4 < 256 then
    ev_cI (ev_do d M_Book_placesOf [.ref 5, .int x1, .int x4] (ev_mk h I L)) (fun v2 s1 =>
      (if ev_in x4 256 then
        ev_cI (ev_do d M_Book_bare [.ref 5, .int x1, .int x4] (ev_mk s1.1.2 (ev_up s1.2.1 136 x4.toNatClampNeg v2) s1.2.2.1)) (fun v4 s3 =>
          (if ev_in x4 256 then
            ev_cI (ev_do d M_Book_spell [.ref 5, .ref 17, .int x2, .int x4] (ev_mk s3.1.2 (ev_up s3.2.1 137 x4.toNatClampNeg v4) s3.2.2.1)) (fun v6 s5 =>
              (if ev_in x4 256 then
                ev_at d M_SL_parts 31 [.ref 0, .int x1, .int x2, .int x3, .int (x4 + 1), .float 0, .float 0] [] (ev_mk s5.1.2 (ev_up s5.2.1 138 x4.toNatClampNeg v6) s5.2.2.1)
              else none))
          else none))
      else none))
  else
    ev_at d M_SL_parts 106 [.ref 0, .int x1, .float 0, .int x3, .int (-1), .int 0, .float 0] [] (ev_mk h I L)) := 
  (ev_eq true (ev_call true d) M_SL_parts 31 [.ref 0, .int x1, .int x2, .int x3, .int x4, .float 0, .float 0] [] (ev_mk h I L)).trans rfl
set_option maxRecDepth 100000 in
theorem e_SL_parts_106 (d : Nat) (x1 x3 x4 x5 : Int32) (h : Bool × Nat × Nat) (I : Nat → Nat → Int32) (L : Nat → Nat → Int64) : ev_at d M_SL_parts 106 [.ref 0, .int x1, .float 0, .int x3, .int x4, .int x5, .float 0] [] (ev_mk h I L) =
  (if x3 < x5 then
    (if x4 = (-1) then
      ev_ri (-2) (ev_mk h I L)
    else
      ev_cI (ev_do d M_SL_tellSet [.ref 0, .int x4] (ev_mk h I L)) (fun v2 s1 =>
        ev_ri v2 (ev_mk s1.1.2 s1.2.1 s1.2.2.1)))
  else
    (if ev_in x1 8 then
      (if x4 = (-1) then
        ev_at d M_SL_parts 145 [.ref 0, .int x1, .float 0, .int x3, .int x4, .int x5, .int ((I 18 x1.toNatClampNeg) ^^^ x5)] [] (ev_mk h I L)
      else
        ev_cI (ev_do d M_Int_bitCount [.int x5] (ev_mk h I L)) (fun v4 s3 =>
          ev_cI (ev_do d M_Int_bitCount [.int x4] (ev_mk s3.1.2 s3.2.1 s3.2.2.1)) (fun v6 s5 =>
            (if v4 < v6 then
              ev_at d M_SL_parts 145 [.ref 0, .int x1, .float 0, .int x3, .int x4, .int x5, .int ((I 18 x1.toNatClampNeg) ^^^ x5)] [] (ev_mk s5.1.2 s5.2.1 s5.2.2.1)
            else
              ev_at d M_SL_parts 106 [.ref 0, .int x1, .float 0, .int x3, .int x4, .int (x5 + 1), .float 0] [] (ev_mk s5.1.2 s5.2.1 s5.2.2.1)))))
    else none)) := 
  (ev_eq true (ev_call true d) M_SL_parts 106 [.ref 0, .int x1, .float 0, .int x3, .int x4, .int x5, .float 0] [] (ev_mk h I L)).trans rfl
set_option maxRecDepth 100000 in
theorem e_SL_parts_145 (d : Nat) (x1 x3 x4 x5 x6 : Int32) (h : Bool × Nat × Nat) (I : Nat → Nat → Int32) (L : Nat → Nat → Int64) : ev_at d M_SL_parts 145 [.ref 0, .int x1, .float 0, .int x3, .int x4, .int x5, .int x6] [] (ev_mk h I L) =
  (if x6 = x3 then
    ev_at d M_SL_parts 106 [.ref 0, .int x1, .float 0, .int x3, .int x4, .int (x5 + 1), .float 0] [] (ev_mk h I L)
  else
    ev_cI (ev_do d M_SL_neverTaken [.ref 0, .int x6] (ev_mk h I L)) (fun v2 s1 =>
      (if v2 = 0 then
        ev_at d M_SL_parts 106 [.ref 0, .int x1, .float 0, .int x3, .int x4, .int (x5 + 1), .float 0] [] (ev_mk s1.1.2 s1.2.1 s1.2.2.1)
      else
        ev_at d M_SL_parts 106 [.ref 0, .int x1, .float 0, .int x3, .int x5, .int (x5 + 1), .float 0] [] (ev_mk s1.1.2 s1.2.1 s1.2.2.1)))) := 
  (ev_eq true (ev_call true d) M_SL_parts 145 [.ref 0, .int x1, .float 0, .int x3, .int x4, .int x5, .int x6] [] (ev_mk h I L)).trans rfl
set_option maxRecDepth 100000 in
theorem e_SL_power_0 (d : Nat) (x1 : Int32) (h : Bool × Nat × Nat) (I : Nat → Nat → Int32) (L : Nat → Nat → Int64) : ev_do (d + 1) M_SL_power [.ref 0, .int x1] (ev_mk h I L) =
  ev_cI (ev_do d M_SL_isLetter [.int x1] (ev_mk h I L)) (fun v2 s1 =>
    (if v2 = 0 then
      ev_ri (-1) (ev_mk s1.1.2 s1.2.1 s1.2.2.1)
    else
      ev_cV (ev_do d M_Union_tally [.ref 109, .ref 17] (ev_mk s1.1.2 s1.2.1 s1.2.2.1)) (fun s3 =>
        ev_at d M_SL_power 45 [.ref 0, .int x1, .int 0, .int 0, .int 0, .float 0] [] (ev_mk s3.1.2 (ev_cp s3.2.1 112 135 0 0 8) s3.2.2.1)))) := 
  (ev_eq true (ev_call true d) M_SL_power 0 [.ref 0, .int x1, .float 0, .float 0, .float 0, .float 0] [] (ev_mk h I L)).trans rfl
set_option maxRecDepth 100000 in
theorem e_SL_power_45 (d : Nat) (x1 x2 x3 x4 : Int32) (h : Bool × Nat × Nat) (I : Nat → Nat → Int32) (L : Nat → Nat → Int64) : ev_at d M_SL_power 45 [.ref 0, .int x1, .int x2, .int x3, .int x4, .float 0] [] (ev_mk h I L) =
  (if x4 < 8 then
    ev_cI (ev_do d M_SL_setsTurnedBy [.ref 0, .int x4] (ev_mk h I L)) (fun v2 s1 =>
      (if x4 = x1 then
        ev_at d M_SL_power 72 [.ref 0, .int x1, .float 0, .int x3, .int x4, .int v2] [.int v2] (ev_mk s1.1.2 s1.2.1 s1.2.2.1)
      else
        ev_at d M_SL_power 72 [.ref 0, .int x1, .float 0, .int x3, .int x4, .int v2] [.int x2] (ev_mk s1.1.2 s1.2.1 s1.2.2.1)))
  else
    ev_cV (ev_do d M_Row_tellFraction [.ref 3, .long x2.toInt64, .long x3.toInt64] (ev_mk h I L)) (fun s3 =>
      ev_ri x2 (ev_mk s3.1.2 s3.2.1 s3.2.2.1))) := 
  (ev_eq true (ev_call true d) M_SL_power 45 [.ref 0, .int x1, .int x2, .int x3, .int x4, .float 0] [] (ev_mk h I L)).trans rfl
set_option maxRecDepth 100000 in
theorem e_SL_power_72 (d : Nat) (x1 x3 x4 x5 y0 : Int32) (h : Bool × Nat × Nat) (I : Nat → Nat → Int32) (L : Nat → Nat → Int64) : ev_at d M_SL_power 72 [.ref 0, .int x1, .float 0, .int x3, .int x4, .int x5] [.int y0] (ev_mk h I L) =
  ev_at d M_SL_power 45 [.ref 0, .int x1, .int y0, .int (x3 + x5), .int (x4 + 1), .float 0] [] (ev_mk h I L) := 
  (ev_eq true (ev_call true d) M_SL_power 72 [.ref 0, .int x1, .float 0, .int x3, .int x4, .int x5] [.int y0] (ev_mk h I L)).trans rfl
set_option maxRecDepth 100000 in
theorem e_SL_priceStrikers_0 (d : Nat) (h : Bool × Nat × Nat) (I : Nat → Nat → Int32) (L : Nat → Nat → Int64) : ev_do (d + 1) M_SL_priceStrikers [.ref 0] (ev_mk h I L) =
  ev_cV (ev_do d M_Union_tally [.ref 109, .ref 17] (ev_mk h I L)) (fun s1 =>
    ev_at d M_SL_priceStrikers 15 [.ref 0, .int 0, .int 0] [] (ev_mk s1.1.2 s1.2.1 s1.2.2.1)) := 
  (ev_eq true (ev_call true d) M_SL_priceStrikers 0 [.ref 0, .float 0, .float 0] [] (ev_mk h I L)).trans rfl
set_option maxRecDepth 100000 in
theorem e_SL_priceStrikers_15 (d : Nat) (x1 x2 : Int32) (h : Bool × Nat × Nat) (I : Nat → Nat → Int32) (L : Nat → Nat → Int64) : ev_at d M_SL_priceStrikers 15 [.ref 0, .int x1, .int x2] [] (ev_mk h I L) =
  (if x2 < 8 then
    (if ev_in x2 8 then
      (if (I 112 x2.toNatClampNeg) = 0 then
        ev_at d M_SL_priceStrikers 58 [.ref 0, .int x1, .int x2] [.int 0, .int x2, .ref 135] (ev_mk h I L)
      else
        ev_cI (ev_do d M_Union_priceOf [.ref 109, .ref 101, .ref 17, .int x2] (ev_mk h I L)) (fun v2 s1 =>
          ev_at d M_SL_priceStrikers 58 [.ref 0, .int x1, .int x2] [.int v2, .int x2, .ref 135] (ev_mk s1.1.2 s1.2.1 s1.2.2.1)))
    else none)
  else
    ev_ri x1 (ev_mk h I L)) := 
  (ev_eq true (ev_call true d) M_SL_priceStrikers 15 [.ref 0, .int x1, .int x2] [] (ev_mk h I L)).trans rfl
set_option maxRecDepth 100000 in
theorem e_SL_priceStrikers_58 (d : Nat) (x1 x2 y0 y1 : Int32) (h : Bool × Nat × Nat) (I : Nat → Nat → Int32) (L : Nat → Nat → Int64) : ev_at d M_SL_priceStrikers 58 [.ref 0, .int x1, .int x2] [.int y0, .int y1, .ref 135] (ev_mk h I L) =
  (if ev_in y1 8 then
    (if ev_in x2 8 then
      (if 0 < ((ev_up I 135 y1.toNatClampNeg y0) 135 x2.toNatClampNeg) then
        ev_at d M_SL_priceStrikers 15 [.ref 0, .int (x1 ||| (1 <<< (x2 &&& 31))), .int (x2 + 1)] [] (ev_mk h (ev_up I 135 y1.toNatClampNeg y0) L)
      else
        ev_at d M_SL_priceStrikers 15 [.ref 0, .int x1, .int (x2 + 1)] [] (ev_mk h (ev_up I 135 y1.toNatClampNeg y0) L))
    else none)
  else none) := 
  (ev_eq true (ev_call true d) M_SL_priceStrikers 58 [.ref 0, .int x1, .int x2] [.int y0, .int y1, .ref 135] (ev_mk h I L)).trans rfl
set_option maxRecDepth 100000 in
theorem e_SL_raised_0 (d : Nat) (x1 : Int32) (x0 : Int64) (h : Bool × Nat × Nat) (I : Nat → Nat → Int32) (L : Nat → Nat → Int64) : ev_do (d + 1) M_SL_raised [.long x0, .int x1] (ev_mk h I L) =
  ev_at d M_SL_raised 5 [.long x0, .float 0, .int x1, .long 1, .float 0, .int 0] [] (ev_mk h I L) := 
  (ev_eq true (ev_call true d) M_SL_raised 0 [.long x0, .float 0, .int x1, .float 0, .float 0, .float 0] [] (ev_mk h I L)).trans rfl
set_option maxRecDepth 100000 in
theorem e_SL_raised_5 (d : Nat) (x2 x5 : Int32) (x0 x3 : Int64) (h : Bool × Nat × Nat) (I : Nat → Nat → Int32) (L : Nat → Nat → Int64) : ev_at d M_SL_raised 5 [.long x0, .float 0, .int x2, .long x3, .float 0, .int x5] [] (ev_mk h I L) =
  (if x5 < x2 then
    ev_at d M_SL_raised 5 [.long x0, .float 0, .int x2, .long (x3 * x0), .float 0, .int (x5 + 1)] [] (ev_mk h I L)
  else
    ev_rl x3 (ev_mk h I L)) := 
  (ev_eq true (ev_call true d) M_SL_raised 5 [.long x0, .float 0, .int x2, .long x3, .float 0, .int x5] [] (ev_mk h I L)).trans rfl
set_option maxRecDepth 100000 in
theorem e_SL_rememberIfDone_0 (d : Nat) (x1 : Int32) (h : Bool × Nat × Nat) (I : Nat → Nat → Int32) (L : Nat → Nat → Int64) : ev_do (d + 1) M_SL_rememberIfDone [.ref 0, .int x1] (ev_mk h I L) =
  (if x1 < 0 then
    ev_ri x1 (ev_mk h I L)
  else
    ev_cV (ev_do d M_Past_remember [.ref 25, .ref 21] (ev_mk h I L)) (fun s1 =>
      ev_ri x1 (ev_mk s1.1.2 s1.2.1 s1.2.2.1))) := 
  (ev_eq true (ev_call true d) M_SL_rememberIfDone 0 [.ref 0, .int x1] [] (ev_mk h I L)).trans rfl
set_option maxRecDepth 100000 in
theorem e_SL_rests_0 (d : Nat) (x1 : Int32) (h : Bool × Nat × Nat) (I : Nat → Nat → Int32) (L : Nat → Nat → Int64) : ev_do (d + 1) M_SL_rests [.ref 0, .int x1] (ev_mk h I L) =
  (if x1 < 0 then
    ev_ri (-1) (ev_mk h I L)
  else
    (if 20 < x1 then
      ev_ri (-1) (ev_mk h I L)
    else
      ev_at d M_SL_rests 24 [.ref 0, .int x1, .int 0, .int 0, .float 0] [] (ev_mk h (ev_up I 3 1 0) L))) := 
  (ev_eq true (ev_call true d) M_SL_rests 0 [.ref 0, .int x1, .float 0, .float 0, .float 0] [] (ev_mk h I L)).trans rfl
set_option maxRecDepth 100000 in
theorem e_SL_rests_24 (d : Nat) (x1 x2 x3 : Int32) (h : Bool × Nat × Nat) (I : Nat → Nat → Int32) (L : Nat → Nat → Int64) : ev_at d M_SL_rests 24 [.ref 0, .int x1, .int x2, .int x3, .float 0] [] (ev_mk h I L) =
  (if 9 < x3 then
    ev_ri x2 (ev_mk h I L)
  else
    ev_at d M_SL_rests 33 [.ref 0, .int x1, .int x2, .int x3, .int 0] [] (ev_mk h I L)) := 
  (ev_eq true (ev_call true d) M_SL_rests 24 [.ref 0, .int x1, .int x2, .int x3, .float 0] [] (ev_mk h I L)).trans rfl
set_option maxRecDepth 100000 in
theorem e_SL_rests_33 (d : Nat) (x1 x2 x3 x4 : Int32) (h : Bool × Nat × Nat) (I : Nat → Nat → Int32) (L : Nat → Nat → Int64) : ev_at d M_SL_rests 33 [.ref 0, .int x1, .int x2, .int x3, .int x4] [] (ev_mk h I L) =
  (if 9 < x4 then
    ev_at d M_SL_rests 24 [.ref 0, .int x1, .int x2, .int (x3 + 1), .float 0] [] (ev_mk h I L)
  else
    ev_cI (ev_do d M_SL_isBest [.int x3, .int x4, .int x1] (ev_mk h I L)) (fun v2 s1 =>
      (if v2 = 0 then
        ev_at d M_SL_rests 33 [.ref 0, .int x1, .int x2, .int x3, .int (x4 + 1)] [] (ev_mk s1.1.2 s1.2.1 s1.2.2.1)
      else
        ev_cI (ev_do d M_SL_isBest [.int x4, .int x3, .int x1] (ev_mk s1.1.2 s1.2.1 s1.2.2.1)) (fun v4 s3 =>
          (if v4 = 0 then
            ev_at d M_SL_rests 33 [.ref 0, .int x1, .int x2, .int x3, .int (x4 + 1)] [] (ev_mk s3.1.2 s3.2.1 s3.2.2.1)
          else
            (if x2 = 0 then
              ev_cV (ev_do d M_Row_tellTwo [.ref 3, .long x3.toInt64, .long x4.toInt64] (ev_mk s3.1.2 s3.2.1 s3.2.2.1)) (fun s5 =>
                ev_at d M_SL_rests 33 [.ref 0, .int x1, .int (x2 + 1), .int x3, .int (x4 + 1)] [] (ev_mk s5.1.2 s5.2.1 s5.2.2.1))
            else
              ev_at d M_SL_rests 33 [.ref 0, .int x1, .int (x2 + 1), .int x3, .int (x4 + 1)] [] (ev_mk s3.1.2 s3.2.1 s3.2.2.1))))))) := 
  (ev_eq true (ev_call true d) M_SL_rests 33 [.ref 0, .int x1, .int x2, .int x3, .int x4] [] (ev_mk h I L)).trans rfl
set_option maxRecDepth 100000 in
theorem e_SL_row_0 (d : Nat) (x1 : Int32) (h : Bool × Nat × Nat) (I : Nat → Nat → Int32) (L : Nat → Nat → Int64) : ev_do (d + 1) M_SL_row [.ref 0, .int x1] (ev_mk h I L) =
  (if x1 < 0 then
    ev_at d M_SL_row 15 [.float 0, .float 0] [] (ev_mk h I L)
  else
    (if x1 < (I 3 1) then
      (if ev_in x1 9 then
        ev_rl (L 4 x1.toNatClampNeg) (ev_mk h I L)
      else none)
    else
      ev_at d M_SL_row 15 [.float 0, .float 0] [] (ev_mk h I L))) := 
  (ev_eq true (ev_call true d) M_SL_row 0 [.ref 0, .int x1] [] (ev_mk h I L)).trans rfl
set_option maxRecDepth 100000 in
theorem e_SL_row_15 (d : Nat) (h : Bool × Nat × Nat) (I : Nat → Nat → Int32) (L : Nat → Nat → Int64) : ev_at d M_SL_row 15 [.float 0, .float 0] [] (ev_mk h I L) =
  some (none, ev_mk (false, h.2.1 + 1, h.2.2 + 6) I L) := 
  (ev_eq true (ev_call true d) M_SL_row 15 [.float 0, .float 0] [] (ev_mk h I L)).trans rfl
set_option maxRecDepth 100000 in
theorem e_SL_rule_0 (d : Nat) (h : Bool × Nat × Nat) (I : Nat → Nat → Int32) (L : Nat → Nat → Int64) : ev_do (d + 1) M_SL_rule [.ref 0] (ev_mk h I L) =
  ev_cI (ev_do d M_Rule_read [.ref 105, .ref 1] (ev_mk h I L)) (fun v2 s1 =>
    (if v2 = (-1) then
      ev_cV (ev_do d M_Rule_copy [.ref 101, .ref 105] (ev_mk s1.1.2 (ev_up s1.2.1 1 1 0) s1.2.2.1)) (fun s3 =>
        ev_ri 0 (ev_mk s3.1.2 s3.2.1 s3.2.2.1))
    else
      ev_ri ((-1) - v2) (ev_mk s1.1.2 (ev_up s1.2.1 1 1 0) s1.2.2.1))) := 
  (ev_eq true (ev_call true d) M_SL_rule 0 [.ref 0, .float 0] [] (ev_mk h I L)).trans rfl
set_option maxRecDepth 100000 in
theorem e_SL_safe_0 (d : Nat) (h : Bool × Nat × Nat) (I : Nat → Nat → Int32) (L : Nat → Nat → Int64) : ev_do (d + 1) M_SL_safe [.ref 0] (ev_mk h I L) =
  ev_cV (ev_do d M_Arr_fill [.ref 134, .int 0] (ev_mk h I L)) (fun s1 =>
    ev_at d M_SL_safe 10 [.ref 0, .int 0, .float 0] [] (ev_mk s1.1.2 s1.2.1 s1.2.2.1)) := 
  (ev_eq true (ev_call true d) M_SL_safe 0 [.ref 0, .float 0, .float 0] [] (ev_mk h I L)).trans rfl
set_option maxRecDepth 100000 in
theorem e_SL_safe_10 (d : Nat) (x1 : Int32) (h : Bool × Nat × Nat) (I : Nat → Nat → Int32) (L : Nat → Nat → Int64) : ev_at d M_SL_safe 10 [.ref 0, .int x1, .float 0] [] (ev_mk h I L) =
  (if x1 < 256 then
    ev_cV (ev_do d M_SL_countPairsThatAreOne [.ref 0, .int x1] (ev_mk h I L)) (fun s1 =>
      ev_at d M_SL_safe 10 [.ref 0, .int (x1 + 1), .float 0] [] (ev_mk s1.1.2 s1.2.1 s1.2.2.1))
  else
    ev_at d M_SL_safe 32 [.ref 0, .int 0, .int 0] [] (ev_mk h I L)) := 
  (ev_eq true (ev_call true d) M_SL_safe 10 [.ref 0, .int x1, .float 0] [] (ev_mk h I L)).trans rfl
set_option maxRecDepth 100000 in
theorem e_SL_safe_32 (d : Nat) (x1 x2 : Int32) (h : Bool × Nat × Nat) (I : Nat → Nat → Int32) (L : Nat → Nat → Int64) : ev_at d M_SL_safe 32 [.ref 0, .int x1, .int x2] [] (ev_mk h I L) =
  (if x2 < (1 <<< ((I 5 3) &&& 31)) then
    ev_cI (ev_do d M_Int_bitCount [.int x2] (ev_mk h I L)) (fun v2 s1 =>
      ev_cI (ev_do d M_Int_bitCount [.int x1] (ev_mk s1.1.2 s1.2.1 s1.2.2.1)) (fun v4 s3 =>
        (if v4 < v2 then
          ev_cI (ev_do d M_SL_neverMeet [.ref 0, .int x2] (ev_mk s3.1.2 s3.2.1 s3.2.2.1)) (fun v6 s5 =>
            (if v6 = 0 then
              ev_at d M_SL_safe 32 [.ref 0, .int x1, .int (x2 + 1)] [] (ev_mk s5.1.2 s5.2.1 s5.2.2.1)
            else
              ev_at d M_SL_safe 32 [.ref 0, .int x2, .int (x2 + 1)] [] (ev_mk s5.1.2 s5.2.1 s5.2.2.1)))
        else
          ev_at d M_SL_safe 32 [.ref 0, .int x1, .int (x2 + 1)] [] (ev_mk s3.1.2 s3.2.1 s3.2.2.1))))
  else
    ev_cI (ev_do d M_SL_tellSet [.ref 0, .int x1] (ev_mk h I L)) (fun v8 s7 =>
      ev_ri v8 (ev_mk s7.1.2 s7.2.1 s7.2.2.1))) := 
  (ev_eq true (ev_call true d) M_SL_safe 32 [.ref 0, .int x1, .int x2] [] (ev_mk h I L)).trans rfl
set_option maxRecDepth 100000 in
theorem e_SL_setsTurnedBy_0 (d : Nat) (x1 : Int32) (h : Bool × Nat × Nat) (I : Nat → Nat → Int32) (L : Nat → Nat → Int64) : ev_do (d + 1) M_SL_setsTurnedBy [.ref 0, .int x1] (ev_mk h I L) =
  ev_cI (ev_do d M_SL_sumOver [.ref 0, .int 255] (ev_mk h I L)) (fun v2 s1 =>
    ev_at d M_SL_setsTurnedBy 13 [.ref 0, .int x1, .int v2, .int 0, .int 0, .float 0, .float 0] [] (ev_mk s1.1.2 s1.2.1 s1.2.2.1)) := 
  (ev_eq true (ev_call true d) M_SL_setsTurnedBy 0 [.ref 0, .int x1, .float 0, .float 0, .float 0, .float 0, .float 0] [] (ev_mk h I L)).trans rfl
set_option maxRecDepth 100000 in
theorem e_SL_setsTurnedBy_13 (d : Nat) (x1 x2 x3 x4 : Int32) (h : Bool × Nat × Nat) (I : Nat → Nat → Int32) (L : Nat → Nat → Int64) : ev_at d M_SL_setsTurnedBy 13 [.ref 0, .int x1, .int x2, .int x3, .int x4, .float 0, .float 0] [] (ev_mk h I L) =
  (if x4 < 256 then
    (if ((x4 >>> (x1 &&& 31)) &&& 1) = 0 then
      ev_cI (ev_do d M_SL_sumOver [.ref 0, .int x4] (ev_mk h I L)) (fun v2 s1 =>
        (if x2 < (2 * v2) then
          ev_at d M_SL_setsTurnedBy 66 [.ref 0, .int x1, .int x2, .int x3, .int x4, .float 0, .float 0] [.int 0] (ev_mk s1.1.2 s1.2.1 s1.2.2.1)
        else
          (if ev_in x1 8 then
            (if x2 < (2 * (v2 + (s1.2.1 135 x1.toNatClampNeg))) then
              ev_at d M_SL_setsTurnedBy 66 [.ref 0, .int x1, .int x2, .int x3, .int x4, .float 0, .float 0] [.int 1] (ev_mk s1.1.2 s1.2.1 s1.2.2.1)
            else
              ev_at d M_SL_setsTurnedBy 66 [.ref 0, .int x1, .int x2, .int x3, .int x4, .float 0, .float 0] [.int 0] (ev_mk s1.1.2 s1.2.1 s1.2.2.1))
          else none)))
    else
      ev_at d M_SL_setsTurnedBy 13 [.ref 0, .int x1, .int x2, .int x3, .int (x4 + 1), .float 0, .float 0] [] (ev_mk h I L))
  else
    ev_ri x3 (ev_mk h I L)) := 
  (ev_eq true (ev_call true d) M_SL_setsTurnedBy 13 [.ref 0, .int x1, .int x2, .int x3, .int x4, .float 0, .float 0] [] (ev_mk h I L)).trans rfl
set_option maxRecDepth 100000 in
theorem e_SL_setsTurnedBy_66 (d : Nat) (x1 x2 x3 x4 y0 : Int32) (h : Bool × Nat × Nat) (I : Nat → Nat → Int32) (L : Nat → Nat → Int64) : ev_at d M_SL_setsTurnedBy 66 [.ref 0, .int x1, .int x2, .int x3, .int x4, .float 0, .float 0] [.int y0] (ev_mk h I L) =
  (if y0 = 0 then
    ev_at d M_SL_setsTurnedBy 13 [.ref 0, .int x1, .int x2, .int (x3 + 0), .int (x4 + 1), .float 0, .float 0] [] (ev_mk h I L)
  else
    ev_at d M_SL_setsTurnedBy 13 [.ref 0, .int x1, .int x2, .int (x3 + 1), .int (x4 + 1), .float 0, .float 0] [] (ev_mk h I L)) := 
  (ev_eq true (ev_call true d) M_SL_setsTurnedBy 66 [.ref 0, .int x1, .int x2, .int x3, .int x4, .float 0, .float 0] [.int y0] (ev_mk h I L)).trans rfl
set_option maxRecDepth 100000 in
theorem e_SL_shared_0 (d : Nat) (x1 x2 : Int32) (h : Bool × Nat × Nat) (I : Nat → Nat → Int32) (L : Nat → Nat → Int64) : ev_do (d + 1) M_SL_shared [.ref 0, .int x1, .int x2] (ev_mk h I L) =
  ev_cI (ev_do d M_Book_hasBoth [.ref 5, .int x1, .int x2] (ev_mk h I L)) (fun v2 s1 =>
    (if v2 = 0 then
      ev_ri (-1) (ev_mk s1.1.2 s1.2.1 s1.2.2.1)
    else
      ev_cI (ev_do d M_Measure_inCommon [.ref 114, .ref 17, .int x1, .int x2, .int 0] (ev_mk s1.1.2 (ev_up s1.2.1 3 1 0) s1.2.2.1)) (fun v4 s3 =>
        ev_cV (ev_do d M_Row_tell [.ref 3, .long v4.toInt64] (ev_mk s3.1.2 s3.2.1 s3.2.2.1)) (fun s5 =>
          ev_cI (ev_do d M_Measure_inCommon [.ref 114, .ref 17, .int x1, .int x2, .int (s5.2.1 17 3)] (ev_mk s5.1.2 s5.2.1 s5.2.2.1)) (fun v7 s6 =>
            ev_ri v7 (ev_mk s6.1.2 s6.2.1 s6.2.2.1)))))) := 
  (ev_eq true (ev_call true d) M_SL_shared 0 [.ref 0, .int x1, .int x2] [] (ev_mk h I L)).trans rfl
set_option maxRecDepth 100000 in
theorem e_SL_sheet_0 (d : Nat) (x1 x2 x3 x4 : Int32) (h : Bool × Nat × Nat) (I : Nat → Nat → Int32) (L : Nat → Nat → Int64) : ev_do (d + 1) M_SL_sheet [.ref 0, .int x1, .int x2, .int x3, .int x4] (ev_mk h I L) =
  (if x1 < 0 then
    ev_ri (-1) (ev_mk h I L)
  else
    (if 3 < x1 then
      ev_ri (-1) (ev_mk h I L)
    else
      (if 8 < x2 then
        ev_ri (-1) (ev_mk h I L)
      else
        (if x1 = 3 then
          ev_cV (ev_do d M_Arr_fill [.ref 19, .int 0] (ev_mk h I L)) (fun s1 =>
            ev_ri (-3) (ev_mk s1.1.2 s1.2.1 s1.2.2.1))
        else
          (if x2 < 0 then
            ev_ri (-2) (ev_mk h I L)
          else
            ev_at d M_SL_sheet 46 [.ref 0, .int x1, .int x2, .int x3, .int x4, .int 0, .float 0] [] (ev_mk h I L)))))) := 
  (ev_eq true (ev_call true d) M_SL_sheet 0 [.ref 0, .int x1, .int x2, .int x3, .int x4, .float 0, .float 0] [] (ev_mk h I L)).trans rfl
set_option maxRecDepth 100000 in
theorem e_SL_sheet_46 (d : Nat) (x1 x2 x3 x4 x5 : Int32) (h : Bool × Nat × Nat) (I : Nat → Nat → Int32) (L : Nat → Nat → Int64) : ev_at d M_SL_sheet 46 [.ref 0, .int x1, .int x2, .int x3, .int x4, .int x5, .float 0] [] (ev_mk h I L) =
  (if x5 < 8 then
    (if x5 < x2 then
      ev_cI (ev_do d M_SL_cutTo [.int x1, .int (x3 + (x5 * x4))] (ev_mk h I L)) (fun v2 s1 =>
        ev_at d M_SL_sheet 74 [.ref 0, .int x1, .int x2, .int x3, .int x4, .int x5, .float 0] [.int v2] (ev_mk s1.1.2 s1.2.1 s1.2.2.1))
    else
      ev_at d M_SL_sheet 74 [.ref 0, .int x1, .int x2, .int x3, .int x4, .int x5, .float 0] [.int 0] (ev_mk h I L))
  else
    ev_cI (ev_do d M_State_moodsTogether [.ref 17] (ev_mk h I L)) (fun v4 s3 =>
      ev_ri v4 (ev_mk s3.1.2 s3.2.1 s3.2.2.1))) := 
  (ev_eq true (ev_call true d) M_SL_sheet 46 [.ref 0, .int x1, .int x2, .int x3, .int x4, .int x5, .float 0] [] (ev_mk h I L)).trans rfl
set_option maxRecDepth 100000 in
theorem e_SL_sheet_74 (d : Nat) (x1 x2 x3 x4 x5 y0 : Int32) (h : Bool × Nat × Nat) (I : Nat → Nat → Int32) (L : Nat → Nat → Int64) : ev_at d M_SL_sheet 74 [.ref 0, .int x1, .int x2, .int x3, .int x4, .int x5, .float 0] [.int y0] (ev_mk h I L) =
  (if ev_in x5 8 then
    ev_at d M_SL_sheet 46 [.ref 0, .int x1, .int x2, .int x3, .int x4, .int (x5 + 1), .float 0] [] (ev_mk h (ev_up I 19 x5.toNatClampNeg (if 0 < (if y0 < 9 then y0 else 9) then (if y0 < 9 then y0 else 9) else 0)) L)
  else none) := 
  (ev_eq true (ev_call true d) M_SL_sheet 74 [.ref 0, .int x1, .int x2, .int x3, .int x4, .int x5, .float 0] [.int y0] (ev_mk h I L)).trans rfl
set_option maxRecDepth 100000 in
theorem e_SL_sign_0 (d : Nat) (x1 : Int32) (h : Bool × Nat × Nat) (I : Nat → Nat → Int32) (L : Nat → Nat → Int64) : ev_do (d + 1) M_SL_sign [.ref 0, .int x1] (ev_mk h I L) =
  ev_cI (ev_do d M_Text_takeFour [.ref 1, .int x1] (ev_mk h I L)) (fun v2 s1 =>
    (if v2 = 0 then
      ev_ri (-1) (ev_mk s1.1.2 s1.2.1 s1.2.2.1)
    else
      ev_ri (s1.2.1 1 1) (ev_mk s1.1.2 s1.2.1 s1.2.2.1))) := 
  (ev_eq true (ev_call true d) M_SL_sign 0 [.ref 0, .int x1] [] (ev_mk h I L)).trans rfl
set_option maxRecDepth 100000 in
theorem e_SL_stirs_0 (d : Nat) (x1 x2 : Int32) (h : Bool × Nat × Nat) (I : Nat → Nat → Int32) (L : Nat → Nat → Int64) : ev_do (d + 1) M_SL_stirs [.ref 0, .int x1, .int x2] (ev_mk h I L) =
  ev_cV (ev_do d M_State_copy [.ref 21, .ref 17] (ev_mk h I L)) (fun s1 =>
    ev_cI (ev_do d M_State_stir [.ref 17, .int x1, .int x2] (ev_mk s1.1.2 s1.2.1 s1.2.2.1)) (fun v3 s2 =>
      ev_cI (ev_do d M_SL_rememberIfDone [.ref 0, .int v3] (ev_mk s2.1.2 s2.2.1 s2.2.2.1)) (fun v5 s4 =>
        ev_ri v5 (ev_mk s4.1.2 s4.2.1 s4.2.2.1)))) := 
  (ev_eq true (ev_call true d) M_SL_stirs 0 [.ref 0, .int x1, .int x2] [] (ev_mk h I L)).trans rfl
set_option maxRecDepth 100000 in
theorem e_SL_sum_0 (d : Nat) {k0 : Nat} (hk0 : k0 = 19 ∨ k0 = 20 ∨ k0 = 23 ∨ k0 = 112 ∨ k0 = 113) (h : Bool × Nat × Nat) (I : Nat → Nat → Int32) (L : Nat → Nat → Int64) : ev_do (d + 1) M_SL_sum [.ref k0] (ev_mk h I L) =
  ev_at d M_SL_sum 10 [.float 0, .int 0, .ref k0, .int 8, .int 0, .float 0] [] (ev_mk h I L) := by
  rcases hk0 with rfl | rfl | rfl | rfl | rfl <;> exact (ev_eq true (ev_call true d) M_SL_sum 0 _ _ (ev_mk h I L)).trans rfl
set_option maxRecDepth 100000 in
theorem e_SL_sum_10 (d : Nat) (x1 x3 x4 : Int32) {k0 : Nat} (hk0 : k0 = 19 ∨ k0 = 20 ∨ k0 = 23 ∨ k0 = 112 ∨ k0 = 113) (h : Bool × Nat × Nat) (I : Nat → Nat → Int32) (L : Nat → Nat → Int64) : ev_at d M_SL_sum 10 [.float 0, .int x1, .ref k0, .int x3, .int x4, .float 0] [] (ev_mk h I L) =
  (if x4 < x3 then
    (if ev_in x4 8 then
      ev_at d M_SL_sum 10 [.float 0, .int (x1 + (I k0 x4.toNatClampNeg)), .ref k0, .int x3, .int (x4 + 1), .float 0] [] (ev_mk h I L)
    else none)
  else
    ev_ri x1 (ev_mk h I L)) := by
  rcases hk0 with rfl | rfl | rfl | rfl | rfl <;> exact (ev_eq true (ev_call true d) M_SL_sum 10 _ _ (ev_mk h I L)).trans rfl
set_option maxRecDepth 100000 in
theorem e_SL_sumOver_0 (d : Nat) (x1 : Int32) (h : Bool × Nat × Nat) (I : Nat → Nat → Int32) (L : Nat → Nat → Int64) : ev_do (d + 1) M_SL_sumOver [.ref 0, .int x1] (ev_mk h I L) =
  ev_at d M_SL_sumOver 4 [.ref 0, .int x1, .int 0, .int 0] [] (ev_mk h I L) := 
  (ev_eq true (ev_call true d) M_SL_sumOver 0 [.ref 0, .int x1, .float 0, .float 0] [] (ev_mk h I L)).trans rfl
set_option maxRecDepth 100000 in
theorem e_SL_sumOver_4 (d : Nat) (x1 x2 x3 : Int32) (h : Bool × Nat × Nat) (I : Nat → Nat → Int32) (L : Nat → Nat → Int64) : ev_at d M_SL_sumOver 4 [.ref 0, .int x1, .int x2, .int x3] [] (ev_mk h I L) =
  (if x3 < 8 then
    (if ((x1 >>> (x3 &&& 31)) &&& 1) = 1 then
      (if ev_in x3 8 then
        ev_at d M_SL_sumOver 4 [.ref 0, .int x1, .int (x2 + (I 135 x3.toNatClampNeg)), .int (x3 + 1)] [] (ev_mk h I L)
      else none)
    else
      ev_at d M_SL_sumOver 4 [.ref 0, .int x1, .int (x2 + 0), .int (x3 + 1)] [] (ev_mk h I L))
  else
    ev_ri x2 (ev_mk h I L)) := 
  (ev_eq true (ev_call true d) M_SL_sumOver 4 [.ref 0, .int x1, .int x2, .int x3] [] (ev_mk h I L)).trans rfl
set_option maxRecDepth 100000 in
theorem e_SL_tellBestLook_0 (d : Nat) (x1 : Int32) (h : Bool × Nat × Nat) (I : Nat → Nat → Int32) (L : Nat → Nat → Int64) : ev_do (d + 1) M_SL_tellBestLook [.ref 0, .int x1] (ev_mk h I L) =
  ev_at d M_SL_tellBestLook 6 [.ref 0, .int x1, .int (x1 + 1), .int 0, .float 0, .float 0, .float 0] [] (ev_mk h I L) := 
  (ev_eq true (ev_call true d) M_SL_tellBestLook 0 [.ref 0, .int x1, .float 0, .float 0, .float 0, .float 0, .float 0] [] (ev_mk h I L)).trans rfl
set_option maxRecDepth 100000 in
theorem e_SL_tellBestLook_6 (d : Nat) (x1 x2 x3 : Int32) (h : Bool × Nat × Nat) (I : Nat → Nat → Int32) (L : Nat → Nat → Int64) : ev_at d M_SL_tellBestLook 6 [.ref 0, .int x1, .int x2, .int x3, .float 0, .float 0, .float 0] [] (ev_mk h I L) =
  (if x3 < (I 5 3) then
    ev_at d M_SL_tellBestLook 22 [.ref 0, .int x1, .int x2, .int x3, .int (x3 + 1), .float 0, .float 0] [] (ev_mk h I L)
  else
    ev_ri x2 (ev_mk h I L)) := 
  (ev_eq true (ev_call true d) M_SL_tellBestLook 6 [.ref 0, .int x1, .int x2, .int x3, .float 0, .float 0, .float 0] [] (ev_mk h I L)).trans rfl
set_option maxRecDepth 100000 in
theorem e_SL_tellBestLook_22 (d : Nat) (x1 x2 x3 x4 : Int32) (h : Bool × Nat × Nat) (I : Nat → Nat → Int32) (L : Nat → Nat → Int64) : ev_at d M_SL_tellBestLook 22 [.ref 0, .int x1, .int x2, .int x3, .int x4, .float 0, .float 0] [] (ev_mk h I L) =
  (if x4 < (I 5 3) then
    (if ev_in ((x3 * 8) + x4) 64 then
      (if (if (I 134 (((x3 * 8) + x4).toNatClampNeg)) < (x1 - (I 134 (((x3 * 8) + x4).toNatClampNeg))) then (x1 - (I 134 (((x3 * 8) + x4).toNatClampNeg))) else (I 134 (((x3 * 8) + x4).toNatClampNeg))) < x2 then
        ev_cV (ev_do d M_Row_tellTwo [.ref 3, .long x3.toInt64, .long x4.toInt64] (ev_mk h I L)) (fun s1 =>
          ev_at d M_SL_tellBestLook 22 [.ref 0, .int x1, .int (if (I 134 (((x3 * 8) + x4).toNatClampNeg)) < (x1 - (I 134 (((x3 * 8) + x4).toNatClampNeg))) then (x1 - (I 134 (((x3 * 8) + x4).toNatClampNeg))) else (I 134 (((x3 * 8) + x4).toNatClampNeg))), .int x3, .int (x4 + 1), .float 0, .float 0] [] (ev_mk s1.1.2 s1.2.1 s1.2.2.1))
      else
        ev_at d M_SL_tellBestLook 22 [.ref 0, .int x1, .int x2, .int x3, .int (x4 + 1), .float 0, .float 0] [] (ev_mk h I L))
    else none)
  else
    ev_at d M_SL_tellBestLook 6 [.ref 0, .int x1, .int x2, .int (x3 + 1), .float 0, .float 0, .float 0] [] (ev_mk h I L)) := 
  (ev_eq true (ev_call true d) M_SL_tellBestLook 22 [.ref 0, .int x1, .int x2, .int x3, .int x4, .float 0, .float 0] [] (ev_mk h I L)).trans rfl
set_option maxRecDepth 100000 in
theorem e_SL_tellFirstFallen_0 (d : Nat) (h : Bool × Nat × Nat) (I : Nat → Nat → Int32) (L : Nat → Nat → Int64) : ev_do (d + 1) M_SL_tellFirstFallen [.ref 0] (ev_mk h I L) =
  ev_cV (ev_do d M_Book_spellAll [.ref 5, .ref 21, .int (I 21 3), .ref 133] (ev_mk h I L)) (fun s1 =>
    ev_at d M_SL_tellFirstFallen 24 [.ref 0, .int 0, .float 0] [] (ev_mk s1.1.2 s1.2.1 s1.2.2.1)) := 
  (ev_eq true (ev_call true d) M_SL_tellFirstFallen 0 [.ref 0, .float 0, .float 0] [] (ev_mk h I L)).trans rfl
set_option maxRecDepth 100000 in
theorem e_SL_tellFirstFallen_24 (d : Nat) (x1 : Int32) (h : Bool × Nat × Nat) (I : Nat → Nat → Int32) (L : Nat → Nat → Int64) : ev_at d M_SL_tellFirstFallen 24 [.ref 0, .int x1, .float 0] [] (ev_mk h I L) =
  (if x1 < (I 5 3) then
    ev_at d M_SL_tellFirstFallen 39 [.ref 0, .int x1, .int (x1 + 1)] [] (ev_mk h I L)
  else
    ev_rn (ev_mk h I L)) := 
  (ev_eq true (ev_call true d) M_SL_tellFirstFallen 24 [.ref 0, .int x1, .float 0] [] (ev_mk h I L)).trans rfl
set_option maxRecDepth 100000 in
theorem e_SL_tellFirstFallen_39 (d : Nat) (x1 x2 : Int32) (h : Bool × Nat × Nat) (I : Nat → Nat → Int32) (L : Nat → Nat → Int64) : ev_at d M_SL_tellFirstFallen 39 [.ref 0, .int x1, .int x2] [] (ev_mk h I L) =
  (if x2 < (I 5 3) then
    (if ev_in x1 8 then
      (if ev_in x2 8 then
        (if (I 133 x1.toNatClampNeg) = (I 133 x2.toNatClampNeg) then
          ev_cI (ev_do d M_Book_areTwins [.ref 5, .int x1, .int x2] (ev_mk h I L)) (fun v2 s1 =>
            (if v2 = 0 then
              ev_cV (ev_do d M_Row_tellTwo [.ref 3, .long x1.toInt64, .long x2.toInt64] (ev_mk s1.1.2 s1.2.1 s1.2.2.1)) (fun s3 =>
                ev_rn (ev_mk s3.1.2 s3.2.1 s3.2.2.1))
            else
              ev_at d M_SL_tellFirstFallen 39 [.ref 0, .int x1, .int (x2 + 1)] [] (ev_mk s1.1.2 s1.2.1 s1.2.2.1)))
        else
          ev_at d M_SL_tellFirstFallen 39 [.ref 0, .int x1, .int (x2 + 1)] [] (ev_mk h I L))
      else none)
    else none)
  else
    ev_at d M_SL_tellFirstFallen 24 [.ref 0, .int (x1 + 1), .float 0] [] (ev_mk h I L)) := 
  (ev_eq true (ev_call true d) M_SL_tellFirstFallen 39 [.ref 0, .int x1, .int x2] [] (ev_mk h I L)).trans rfl
set_option maxRecDepth 100000 in
theorem e_SL_tellSet_0 (d : Nat) (x1 : Int32) (h : Bool × Nat × Nat) (I : Nat → Nat → Int32) (L : Nat → Nat → Int64) : ev_do (d + 1) M_SL_tellSet [.ref 0, .int x1] (ev_mk h I L) =
  ev_cV (ev_do d M_Row_tell [.ref 3, .long x1.toInt64] (ev_mk h (ev_up I 3 1 0) L)) (fun s1 =>
    ev_cI (ev_do d M_Int_bitCount [.int x1] (ev_mk s1.1.2 s1.2.1 s1.2.2.1)) (fun v3 s2 =>
      ev_ri v3 (ev_mk s2.1.2 s2.2.1 s2.2.2.1))) := 
  (ev_eq true (ev_call true d) M_SL_tellSet 0 [.ref 0, .int x1] [] (ev_mk h I L)).trans rfl
set_option maxRecDepth 100000 in
theorem e_SL_tellsApart_0 (d : Nat) (x1 x2 : Int32) (h : Bool × Nat × Nat) (I : Nat → Nat → Int32) (L : Nat → Nat → Int64) : ev_do (d + 1) M_SL_tellsApart [.ref 0, .int x1, .int x2] (ev_mk h I L) =
  ev_cV (ev_do d M_Book_spellAll [.ref 5, .ref 17, .int x1, .ref 133] (ev_mk h I L)) (fun s1 =>
    ev_at d M_SL_tellsApart 18 [.ref 0, .float 0, .int x2, .int 0, .float 0] [] (ev_mk s1.1.2 s1.2.1 s1.2.2.1)) := 
  (ev_eq true (ev_call true d) M_SL_tellsApart 0 [.ref 0, .int x1, .int x2, .float 0, .float 0] [] (ev_mk h I L)).trans rfl
set_option maxRecDepth 100000 in
theorem e_SL_tellsApart_18 (d : Nat) (x2 x3 : Int32) (h : Bool × Nat × Nat) (I : Nat → Nat → Int32) (L : Nat → Nat → Int64) : ev_at d M_SL_tellsApart 18 [.ref 0, .float 0, .int x2, .int x3, .float 0] [] (ev_mk h I L) =
  (if x3 < (I 5 3) then
    ev_at d M_SL_tellsApart 34 [.ref 0, .float 0, .int x2, .int x3, .int (x3 + 1)] [] (ev_mk h I L)
  else
    ev_ri 1 (ev_mk h I L)) := 
  (ev_eq true (ev_call true d) M_SL_tellsApart 18 [.ref 0, .float 0, .int x2, .int x3, .float 0] [] (ev_mk h I L)).trans rfl
set_option maxRecDepth 100000 in
theorem e_SL_tellsApart_34 (d : Nat) (x2 x3 x4 : Int32) (h : Bool × Nat × Nat) (I : Nat → Nat → Int32) (L : Nat → Nat → Int64) : ev_at d M_SL_tellsApart 34 [.ref 0, .float 0, .int x2, .int x3, .int x4] [] (ev_mk h I L) =
  (if x4 < (I 5 3) then
    (if (((x2 >>> (x3 &&& 31)) &&& (x2 >>> (x4 &&& 31))) &&& 1) = 1 then
      (if ev_in x3 8 then
        (if ev_in x4 8 then
          (if (I 133 x3.toNatClampNeg) = (I 133 x4.toNatClampNeg) then
            ev_cI (ev_do d M_Book_areTwins [.ref 5, .int x3, .int x4] (ev_mk h I L)) (fun v2 s1 =>
              (if v2 = 0 then
                ev_ri 0 (ev_mk s1.1.2 s1.2.1 s1.2.2.1)
              else
                ev_at d M_SL_tellsApart 34 [.ref 0, .float 0, .int x2, .int x3, .int (x4 + 1)] [] (ev_mk s1.1.2 s1.2.1 s1.2.2.1)))
          else
            ev_at d M_SL_tellsApart 34 [.ref 0, .float 0, .int x2, .int x3, .int (x4 + 1)] [] (ev_mk h I L))
        else none)
      else none)
    else
      ev_at d M_SL_tellsApart 34 [.ref 0, .float 0, .int x2, .int x3, .int (x4 + 1)] [] (ev_mk h I L))
  else
    ev_at d M_SL_tellsApart 18 [.ref 0, .float 0, .int x2, .int (x3 + 1), .float 0] [] (ev_mk h I L)) := 
  (ev_eq true (ev_call true d) M_SL_tellsApart 34 [.ref 0, .float 0, .int x2, .int x3, .int x4] [] (ev_mk h I L)).trans rfl
set_option maxRecDepth 100000 in
theorem e_SL_undo_0 (d : Nat) (h : Bool × Nat × Nat) (I : Nat → Nat → Int32) (L : Nat → Nat → Int64) : ev_do (d + 1) M_SL_undo [.ref 0] (ev_mk h I L) =
  ev_cI (ev_do d M_Past_bringBack [.ref 25, .ref 17] (ev_mk h I L)) (fun v2 s1 =>
    (if v2 = 0 then
      ev_ri (-1) (ev_mk s1.1.2 s1.2.1 s1.2.2.1)
    else
      ev_ri (s1.2.1 25 4) (ev_mk s1.1.2 s1.2.1 s1.2.2.1))) := 
  (ev_eq true (ev_call true d) M_SL_undo 0 [.ref 0] [] (ev_mk h I L)).trans rfl
set_option maxRecDepth 100000 in
theorem e_SL_when_0 (d : Nat) (x1 : Int32) (h : Bool × Nat × Nat) (I : Nat → Nat → Int32) (L : Nat → Nat → Int64) : ev_do (d + 1) M_SL_when [.ref 0, .int x1] (ev_mk h I L) =
  ev_cI (ev_do d M_SL_isLetter [.int x1] (ev_mk h I L)) (fun v2 s1 =>
    (if v2 = 0 then
      ev_ri (-1) (ev_mk s1.1.2 s1.2.1 s1.2.2.1)
    else
      ev_cV (ev_do d M_State_copy [.ref 21, .ref 17] (ev_mk s1.1.2 s1.2.1 s1.2.2.1)) (fun s3 =>
        ev_at d M_SL_when 28 [.ref 0, .int x1, .int (-2), .int 0, .int 1] [] (ev_mk s3.1.2 s3.2.1 s3.2.2.1)))) := 
  (ev_eq true (ev_call true d) M_SL_when 0 [.ref 0, .int x1, .float 0, .float 0, .float 0] [] (ev_mk h I L)).trans rfl
set_option maxRecDepth 100000 in
theorem e_SL_when_28 (d : Nat) (x1 x2 x3 x4 : Int32) (h : Bool × Nat × Nat) (I : Nat → Nat → Int32) (L : Nat → Nat → Int64) : ev_at d M_SL_when 28 [.ref 0, .int x1, .int x2, .int x3, .int x4] [] (ev_mk h I L) =
  (if 99 < x4 then
    (if x2 = (-2) then
      ev_ri x2 (ev_mk h I L)
    else
      ev_cV (ev_do d M_Row_tell [.ref 3, .long x3.toInt64] (ev_mk h (ev_up I 3 1 0) L)) (fun s1 =>
        ev_ri x2 (ev_mk s1.1.2 s1.2.1 s1.2.2.1)))
  else
    ev_cI (ev_do d M_Union_passDay [.ref 109, .ref 101, .ref 21] (ev_mk h I L)) (fun v3 s2 =>
      (if (((s2.2.1 21 3) >>> (x1 &&& 31)) &&& 1) = 1 then
        (if x2 = (-2) then
          ev_at d M_SL_when 28 [.ref 0, .int x1, .int x4, .int (x3 + 1), .int (x4 + 1)] [] (ev_mk s2.1.2 s2.2.1 s2.2.2.1)
        else
          ev_at d M_SL_when 28 [.ref 0, .int x1, .int x2, .int (x3 + 1), .int (x4 + 1)] [] (ev_mk s2.1.2 s2.2.1 s2.2.2.1))
      else
        ev_at d M_SL_when 28 [.ref 0, .int x1, .int x2, .int x3, .int (x4 + 1)] [] (ev_mk s2.1.2 s2.2.1 s2.2.2.1)))) := 
  (ev_eq true (ev_call true d) M_SL_when 28 [.ref 0, .int x1, .int x2, .int x3, .int x4] [] (ev_mk h I L)).trans rfl
set_option maxRecDepth 100000 in
theorem e_SL_winningTake_0 (d : Nat) (x0 x1 : Int32) (x2 : Int64) (h : Bool × Nat × Nat) (I : Nat → Nat → Int32) (L : Nat → Nat → Int64) : ev_do (d + 1) M_SL_winningTake [.int x0, .int x1, .long x2] (ev_mk h I L) =
  (if 1 < x0 then
    (if (lg_cmp ((x2 >>> ((x0 - 1).toInt64 &&& 63)) &&& 1) 0) = 0 then
      ev_ri 1 (ev_mk h I L)
    else
      ev_at d M_SL_winningTake 19 [.int x0, .int x1, .long x2, .float 0] [] (ev_mk h I L))
  else
    ev_at d M_SL_winningTake 19 [.int x0, .int x1, .long x2, .float 0] [] (ev_mk h I L)) := 
  (ev_eq true (ev_call true d) M_SL_winningTake 0 [.int x0, .int x1, .long x2, .float 0] [] (ev_mk h I L)).trans rfl
set_option maxRecDepth 100000 in
theorem e_SL_winningTake_19 (d : Nat) (x0 x1 : Int32) (x2 : Int64) (h : Bool × Nat × Nat) (I : Nat → Nat → Int32) (L : Nat → Nat → Int64) : ev_at d M_SL_winningTake 19 [.int x0, .int x1, .long x2, .float 0] [] (ev_mk h I L) =
  (if x1 < x0 then
    (if (lg_cmp ((x2 >>> ((x0 - x1).toInt64 &&& 63)) &&& 1) 0) = 0 then
      ev_ri x1 (ev_mk h I L)
    else
      ev_ri 0 (ev_mk h I L))
  else
    ev_ri 0 (ev_mk h I L)) := 
  (ev_eq true (ev_call true d) M_SL_winningTake 19 [.int x0, .int x1, .long x2, .float 0] [] (ev_mk h I L)).trans rfl
set_option maxRecDepth 100000 in
theorem e_SL_word_0 (d : Nat) (x1 x2 : Int32) (h : Bool × Nat × Nat) (I : Nat → Nat → Int32) (L : Nat → Nat → Int64) : ev_do (d + 1) M_SL_word [.ref 0, .int x1, .int x2] (ev_mk h I L) =
  ev_cI (ev_do d M_Book_has [.ref 5, .int x1] (ev_mk h I L)) (fun v2 s1 =>
    (if v2 = 0 then
      ev_at d M_SL_word 20 [.float 0, .float 0, .float 0] [] (ev_mk s1.1.2 s1.2.1 s1.2.2.1)
    else
      (if x2 < 0 then
        ev_at d M_SL_word 20 [.float 0, .float 0, .float 0] [] (ev_mk s1.1.2 s1.2.1 s1.2.2.1)
      else
        (if 4 < x2 then
          ev_at d M_SL_word 20 [.float 0, .float 0, .float 0] [] (ev_mk s1.1.2 s1.2.1 s1.2.2.1)
        else
          (if x2 = 0 then
            (if ev_in x1 8 then
              ev_ri (s1.2.1 15 x1.toNatClampNeg) (ev_mk s1.1.2 s1.2.1 s1.2.2.1)
            else none)
          else (if x2 = 1 then
            (if ev_in x1 8 then
              ev_cI (ev_do d M_Book_gone [.ref 5, .ref 17, .int x1, .int (s1.2.1 17 3)] (ev_mk s1.1.2 s1.2.1 s1.2.2.1)) (fun v4 s3 =>
                ev_cI (ev_do d M_Int_bitCount [.int v4] (ev_mk s3.1.2 s3.2.1 s3.2.2.1)) (fun v6 s5 =>
                  ev_ri ((s1.2.1 15 x1.toNatClampNeg) - v6) (ev_mk s5.1.2 s5.2.1 s5.2.2.1)))
            else none)
          else (if x2 = 2 then
            ev_cI (ev_do d M_Book_lettersAt [.ref 5, .int x1, .int 255] (ev_mk s1.1.2 s1.2.1 s1.2.2.1)) (fun v8 s7 =>
              ev_ri v8 (ev_mk s7.1.2 s7.2.1 s7.2.2.1))
          else (if x2 = 3 then
            (if ev_in x1 8 then
              ev_cI (ev_do d M_Book_lettersAt [.ref 5, .int x1, .int (s1.2.1 18 x1.toNatClampNeg)] (ev_mk s1.1.2 s1.2.1 s1.2.2.1)) (fun v10 s9 =>
                ev_ri v10 (ev_mk s9.1.2 s9.2.1 s9.2.2.1))
            else none)
          else ev_cI (ev_do d M_SL_oneWith [.ref 0, .int x1] (ev_mk s1.1.2 s1.2.1 s1.2.2.1)) (fun v12 s11 =>
              ev_ri v12 (ev_mk s11.1.2 s11.2.1 s11.2.2.1)))))))))) := 
  (ev_eq true (ev_call true d) M_SL_word 0 [.ref 0, .int x1, .int x2] [] (ev_mk h I L)).trans rfl
set_option maxRecDepth 100000 in
theorem e_SL_word_20 (d : Nat) (h : Bool × Nat × Nat) (I : Nat → Nat → Int32) (L : Nat → Nat → Int64) : ev_at d M_SL_word 20 [.float 0, .float 0, .float 0] [] (ev_mk h I L) =
  some (none, ev_mk (false, h.2.1 + 1, h.2.2 + 6) I L) := 
  (ev_eq true (ev_call true d) M_SL_word 20 [.float 0, .float 0, .float 0] [] (ev_mk h I L)).trans rfl
set_option maxRecDepth 100000 in
theorem e_SL_words_0 (d : Nat) (h : Bool × Nat × Nat) (I : Nat → Nat → Int32) (L : Nat → Nat → Int64) : ev_do (d + 1) M_SL_words [.ref 0] (ev_mk h I L) =
  (if (I 1 1) = 0 then
    ev_ri 0 (ev_mk h I L)
  else
    ev_cI (ev_do d M_Book_faultIn [.ref 5, .ref 1] (ev_mk h I L)) (fun v2 s1 =>
      (if v2 = (-1) then
        ev_cI (ev_do d M_Book_takeLines [.ref 5, .ref 1, .ref 17] (ev_mk s1.1.2 s1.2.1 s1.2.2.1)) (fun v4 s3 =>
          ev_cV (ev_do d M_Past_forgetAll [.ref 25] (ev_mk s3.1.2 s3.2.1 s3.2.2.1)) (fun s5 =>
            ev_at d M_SL_words 54 [.ref 0, .int v2, .int v4] [] (ev_mk s5.1.2 s5.2.1 s5.2.2.1)))
      else
        ev_at d M_SL_words 54 [.ref 0, .int v2, .int 0] [] (ev_mk s1.1.2 s1.2.1 s1.2.2.1)))) := 
  (ev_eq true (ev_call true d) M_SL_words 0 [.ref 0, .float 0, .float 0] [] (ev_mk h I L)).trans rfl
set_option maxRecDepth 100000 in
theorem e_SL_words_54 (d : Nat) (x1 x2 : Int32) (h : Bool × Nat × Nat) (I : Nat → Nat → Int32) (L : Nat → Nat → Int64) : ev_at d M_SL_words 54 [.ref 0, .int x1, .int x2] [] (ev_mk h I L) =
  (if x1 = (-1) then
    ev_ri x2 (ev_mk h (ev_up I 1 1 0) L)
  else
    ev_ri ((-1) - x1) (ev_mk h (ev_up I 1 1 0) L)) := 
  (ev_eq true (ev_call true d) M_SL_words 54 [.ref 0, .int x1, .int x2] [] (ev_mk h I L)).trans rfl
set_option maxRecDepth 100000 in
theorem e_SL_year_0 (d : Nat) (h : Bool × Nat × Nat) (I : Nat → Nat → Int32) (L : Nat → Nat → Int64) : ev_do (d + 1) M_SL_year [.ref 0] (ev_mk h I L) =
  ev_cI (ev_do d M_Acts_faultIn [.ref 1] (ev_mk h I L)) (fun v2 s1 =>
    (if v2 = (-1) then
      ev_cV (ev_do d M_State_copy [.ref 21, .ref 17] (ev_mk s1.1.2 s1.2.1 s1.2.2.1)) (fun s3 =>
        ev_at d M_SL_year 43 [.ref 0, .float 0, .int 0, .int 0, .int 0] [] (ev_mk s3.1.2 s3.2.1 s3.2.2.1))
    else
      ev_ri ((-1) - v2) (ev_mk s1.1.2 (ev_up s1.2.1 1 1 0) s1.2.2.1))) := 
  (ev_eq true (ev_call true d) M_SL_year 0 [.ref 0, .float 0, .float 0, .float 0, .float 0] [] (ev_mk h I L)).trans rfl
set_option maxRecDepth 100000 in
theorem e_SL_year_43 (d : Nat) (x2 x3 x4 : Int32) (h : Bool × Nat × Nat) (I : Nat → Nat → Int32) (L : Nat → Nat → Int64) : ev_at d M_SL_year 43 [.ref 0, .float 0, .int x2, .int x3, .int x4] [] (ev_mk h I L) =
  (if x4 < (I 1 1) then
    (if x3 = 0 then
      ev_cI (ev_do d M_SL_doAct [.ref 0, .int x4] (ev_mk h I L)) (fun v2 s1 =>
        (if v2 < 0 then
          ev_at d M_SL_year 73 [.ref 0, .float 0, .int x2, .float 0, .int x4] [.int 1] (ev_mk s1.1.2 s1.2.1 s1.2.2.1)
        else
          ev_at d M_SL_year 73 [.ref 0, .float 0, .int x2, .float 0, .int x4] [.int 0] (ev_mk s1.1.2 s1.2.1 s1.2.2.1)))
    else
      ev_at d M_SL_year 110 [.ref 0, .float 0, .int x2, .int x3, .float 0] [] (ev_mk h I L))
  else
    ev_at d M_SL_year 110 [.ref 0, .float 0, .int x2, .int x3, .float 0] [] (ev_mk h I L)) := 
  (ev_eq true (ev_call true d) M_SL_year 43 [.ref 0, .float 0, .int x2, .int x3, .int x4] [] (ev_mk h I L)).trans rfl
set_option maxRecDepth 100000 in
theorem e_SL_year_73 (d : Nat) (x2 x4 y0 : Int32) (h : Bool × Nat × Nat) (I : Nat → Nat → Int32) (L : Nat → Nat → Int64) : ev_at d M_SL_year 73 [.ref 0, .float 0, .int x2, .float 0, .int x4] [.int y0] (ev_mk h I L) =
  (if y0 = 0 then
    ev_at d M_SL_year 84 [.ref 0, .float 0, .float 0, .int y0, .int x4] [.int 1, .int x2] (ev_mk h I L)
  else
    ev_at d M_SL_year 84 [.ref 0, .float 0, .float 0, .int y0, .int x4] [.int 0, .int x2] (ev_mk h I L)) := 
  (ev_eq true (ev_call true d) M_SL_year 73 [.ref 0, .float 0, .int x2, .float 0, .int x4] [.int y0] (ev_mk h I L)).trans rfl
set_option maxRecDepth 100000 in
theorem e_SL_year_84 (d : Nat) (x3 x4 y0 y1 : Int32) (h : Bool × Nat × Nat) (I : Nat → Nat → Int32) (L : Nat → Nat → Int64) : ev_at d M_SL_year 84 [.ref 0, .float 0, .float 0, .int x3, .int x4] [.int y0, .int y1] (ev_mk h I L) =
  ev_cI (ev_do d M_Text_signAt [.ref 1, .int x4] (ev_mk h I L)) (fun v2 s1 =>
    ev_cI (ev_do d M_Acts_lengthOf [.int v2] (ev_mk s1.1.2 s1.2.1 s1.2.2.1)) (fun v4 s3 =>
      ev_at d M_SL_year 43 [.ref 0, .float 0, .int (y1 + y0), .int x3, .int (x4 + (if 1 < v4 then v4 else 1))] [] (ev_mk s3.1.2 s3.2.1 s3.2.2.1))) := 
  (ev_eq true (ev_call true d) M_SL_year 84 [.ref 0, .float 0, .float 0, .int x3, .int x4] [.int y0, .int y1] (ev_mk h I L)).trans rfl
set_option maxRecDepth 100000 in
theorem e_SL_year_110 (d : Nat) (x2 x3 : Int32) (h : Bool × Nat × Nat) (I : Nat → Nat → Int32) (L : Nat → Nat → Int64) : ev_at d M_SL_year 110 [.ref 0, .float 0, .int x2, .int x3, .float 0] [] (ev_mk h I L) =
  (if 0 < x2 then
    ev_cV (ev_do d M_Past_remember [.ref 25, .ref 21] (ev_mk h (ev_up I 1 1 0) L)) (fun s1 =>
      ev_at d M_SL_year 133 [.ref 0, .float 0, .int x2, .int x3, .float 0] [] (ev_mk s1.1.2 s1.2.1 s1.2.2.1))
  else
    ev_at d M_SL_year 133 [.ref 0, .float 0, .int x2, .int x3, .float 0] [] (ev_mk h (ev_up I 1 1 0) L)) := 
  (ev_eq true (ev_call true d) M_SL_year 110 [.ref 0, .float 0, .int x2, .int x3, .float 0] [] (ev_mk h I L)).trans rfl
set_option maxRecDepth 100000 in
theorem e_SL_year_133 (d : Nat) (x2 x3 : Int32) (h : Bool × Nat × Nat) (I : Nat → Nat → Int32) (L : Nat → Nat → Int64) : ev_at d M_SL_year 133 [.ref 0, .float 0, .int x2, .int x3, .float 0] [] (ev_mk h I L) =
  (if x3 = 0 then
    ev_at d M_SL_year 146 [.ref 0, .float 0, .int x2, .float 0, .float 0] [.long 0, .ref 3] (ev_mk h I L)
  else
    ev_at d M_SL_year 146 [.ref 0, .float 0, .int x2, .float 0, .float 0] [.long 1, .ref 3] (ev_mk h I L)) := 
  (ev_eq true (ev_call true d) M_SL_year 133 [.ref 0, .float 0, .int x2, .int x3, .float 0] [] (ev_mk h I L)).trans rfl
set_option maxRecDepth 100000 in
theorem e_SL_year_146 (d : Nat) (x2 : Int32) (y0 : Int64) (h : Bool × Nat × Nat) (I : Nat → Nat → Int32) (L : Nat → Nat → Int64) : ev_at d M_SL_year 146 [.ref 0, .float 0, .int x2, .float 0, .float 0] [.long y0, .ref 3] (ev_mk h I L) =
  ev_cV (ev_do d M_Row_tellTwo [.ref 3, .long y0, .long ((I 17 3).toInt64)] (ev_mk h I L)) (fun s1 =>
    ev_ri x2 (ev_mk s1.1.2 s1.2.1 s1.2.2.1)) := 
  (ev_eq true (ev_call true d) M_SL_year 146 [.ref 0, .float 0, .int x2, .float 0, .float 0] [.long y0, .ref 3] (ev_mk h I L)).trans rfl
set_option maxRecDepth 100000 in
theorem e_SL_years_0 (d : Nat) (x1 x2 : Int32) (h : Bool × Nat × Nat) (I : Nat → Nat → Int32) (L : Nat → Nat → Int64) : ev_do (d + 1) M_SL_years [.ref 0, .int x1, .int x2] (ev_mk h I L) =
  (if x2 < 1 then
    ev_ri (-1) (ev_mk h I L)
  else
    (if 60 < x2 then
      ev_ri (-1) (ev_mk h I L)
    else
      ev_cV (ev_do d M_State_copy [.ref 21, .ref 17] (ev_mk h I L)) (fun s1 =>
        ev_at d M_SL_years 34 [.ref 0, .float 0, .int x2, .int 0, .int 0, .float 0, .float 0] [] (ev_mk s1.1.2 (ev_up s1.2.1 0 17 x1) s1.2.2.1)))) := 
  (ev_eq true (ev_call true d) M_SL_years 0 [.ref 0, .int x1, .int x2, .float 0, .float 0, .float 0, .float 0] [] (ev_mk h I L)).trans rfl
set_option maxRecDepth 100000 in
theorem e_SL_years_34 (d : Nat) (x2 x3 x4 : Int32) (h : Bool × Nat × Nat) (I : Nat → Nat → Int32) (L : Nat → Nat → Int64) : ev_at d M_SL_years 34 [.ref 0, .float 0, .int x2, .int x3, .int x4, .float 0, .float 0] [] (ev_mk h I L) =
  (if x4 < x2 then
    ev_cI (ev_do d M_SL_draw [.ref 0, .int 4] (ev_mk h I L)) (fun v2 s1 =>
      (if v2 < 2 then
        ev_cI (ev_do d M_Union_passDay [.ref 109, .ref 101, .ref 21] (ev_mk s1.1.2 s1.2.1 s1.2.2.1)) (fun v4 s3 =>
          ev_at d M_SL_years 34 [.ref 0, .float 0, .int x2, .int (x3 + v4), .int (x4 + 1), .float 0, .float 0] [] (ev_mk s3.1.2 s3.2.1 s3.2.2.1))
      else
        (if v2 = 2 then
          ev_cI (ev_do d M_SL_draw [.ref 0, .int 8] (ev_mk s1.1.2 s1.2.1 s1.2.2.1)) (fun v6 s5 =>
            ev_cI (ev_do d M_SL_draw [.ref 0, .int 10] (ev_mk s5.1.2 s5.2.1 s5.2.2.1)) (fun v8 s7 =>
              ev_cI (ev_do d M_State_putOffer [.ref 21, .int v6, .int v8] (ev_mk s7.1.2 s7.2.1 s7.2.2.1)) (fun v10 s9 =>
                ev_at d M_SL_years 34 [.ref 0, .float 0, .int x2, .int x3, .int (x4 + 1), .float 0, .float 0] [] (ev_mk s9.1.2 s9.2.1 s9.2.2.1))))
        else
          (if 0 < (s1.2.1 5 3) then
            ev_cI (ev_do d M_SL_draw [.ref 0, .int (s1.2.1 5 3)] (ev_mk s1.1.2 s1.2.1 s1.2.2.1)) (fun v12 s11 =>
              (if ev_in v12 8 then
                ev_cI (ev_do d M_SL_draw [.ref 0, .int (s11.2.1 15 v12.toNatClampNeg)] (ev_mk s11.1.2 s11.2.1 s11.2.2.1)) (fun v14 s13 =>
                  ev_cI (ev_do d M_Book_mute [.ref 5, .ref 21, .int v12, .int v14] (ev_mk s13.1.2 s13.2.1 s13.2.2.1)) (fun v16 s15 =>
                    ev_at d M_SL_years 34 [.ref 0, .float 0, .int x2, .int x3, .int (x4 + 1), .float 0, .float 0] [] (ev_mk s15.1.2 s15.2.1 s15.2.2.1)))
              else none))
          else
            ev_at d M_SL_years 34 [.ref 0, .float 0, .int x2, .int x3, .int (x4 + 1), .float 0, .float 0] [] (ev_mk s1.1.2 s1.2.1 s1.2.2.1)))))
  else
    ev_cI (ev_do d M_State_moodsTogether [.ref 21] (ev_mk h I L)) (fun v18 s17 =>
      ev_cV (ev_do d M_Row_tellTwo [.ref 3, .long ((I 21 3).toInt64), .long v18.toInt64] (ev_mk s17.1.2 s17.2.1 s17.2.2.1)) (fun s19 =>
        ev_ri x3 (ev_mk s19.1.2 s19.2.1 s19.2.2.1)))) := 
  (ev_eq true (ev_call true d) M_SL_years 34 [.ref 0, .float 0, .int x2, .int x3, .int x4, .float 0, .float 0] [] (ev_mk h I L)).trans rfl
set_option maxRecDepth 100000 in
theorem e_State_copy_0_v0 (d : Nat) (h : Bool × Nat × Nat) (I : Nat → Nat → Int32) (L : Nat → Nat → Int64) : ev_do (d + 1) M_State_copy [.ref 21, .ref 17] (ev_mk h I L) =
  ev_rn (ev_mk h (ev_up (ev_up (ev_up (ev_cp (ev_cp (ev_cp I 18 22 0 0 8) 19 23 0 0 8) 20 24 0 0 8) 21 3 ((ev_cp (ev_cp (ev_cp I 18 22 0 0 8) 19 23 0 0 8) 20 24 0 0 8) 17 3)) 21 4 ((ev_cp (ev_cp (ev_cp I 18 22 0 0 8) 19 23 0 0 8) 20 24 0 0 8) 17 4)) 21 5 ((ev_cp (ev_cp (ev_cp I 18 22 0 0 8) 19 23 0 0 8) 20 24 0 0 8) 17 5)) L) := 
  (ev_eq true (ev_call true d) M_State_copy 0 [.ref 21, .ref 17] [] (ev_mk h I L)).trans rfl
set_option maxRecDepth 100000 in
theorem e_State_copy_0_v1 (d : Nat) {k0 : Nat} (hk0 : k0 = 29 ∨ k0 = 33 ∨ k0 = 37 ∨ k0 = 41 ∨ k0 = 45 ∨ k0 = 49 ∨ k0 = 53 ∨ k0 = 57 ∨ k0 = 61 ∨ k0 = 65 ∨ k0 = 69 ∨ k0 = 73 ∨ k0 = 77 ∨ k0 = 81 ∨ k0 = 85 ∨ k0 = 89 ∨ k0 = 93 ∨ k0 = 97) {k1 : Nat} (hk1 : k1 = 17 ∨ k1 = 21) (h : Bool × Nat × Nat) (I : Nat → Nat → Int32) (L : Nat → Nat → Int64) : ev_do (d + 1) M_State_copy [.ref k0, .ref k1] (ev_mk h I L) =
  ev_rn (ev_mk h (ev_up (ev_up (ev_up (ev_cp (ev_cp (ev_cp I (k1 + 1) (k0 + 1) 0 0 8) (k1 + 2) (k0 + 2) 0 0 8) (k1 + 3) (k0 + 3) 0 0 8) k0 3 ((ev_cp (ev_cp (ev_cp I (k1 + 1) (k0 + 1) 0 0 8) (k1 + 2) (k0 + 2) 0 0 8) (k1 + 3) (k0 + 3) 0 0 8) k1 3)) k0 4 ((ev_cp (ev_cp (ev_cp I (k1 + 1) (k0 + 1) 0 0 8) (k1 + 2) (k0 + 2) 0 0 8) (k1 + 3) (k0 + 3) 0 0 8) k1 4)) k0 5 ((ev_cp (ev_cp (ev_cp I (k1 + 1) (k0 + 1) 0 0 8) (k1 + 2) (k0 + 2) 0 0 8) (k1 + 3) (k0 + 3) 0 0 8) k1 5)) L) := by
  rcases hk0 with rfl | rfl | rfl | rfl | rfl | rfl | rfl | rfl | rfl | rfl | rfl | rfl | rfl | rfl | rfl | rfl | rfl | rfl <;> rcases hk1 with rfl | rfl <;> exact (ev_eq true (ev_call true d) M_State_copy 0 _ _ (ev_mk h I L)).trans rfl
set_option maxRecDepth 100000 in
theorem e_State_copy_0_v2 (d : Nat) {k1 : Nat} (hk1 : k1 = 29 ∨ k1 = 33 ∨ k1 = 37 ∨ k1 = 41 ∨ k1 = 45 ∨ k1 = 49 ∨ k1 = 53 ∨ k1 = 57 ∨ k1 = 61 ∨ k1 = 65 ∨ k1 = 69 ∨ k1 = 73 ∨ k1 = 77 ∨ k1 = 81 ∨ k1 = 85 ∨ k1 = 89 ∨ k1 = 93 ∨ k1 = 97) (h : Bool × Nat × Nat) (I : Nat → Nat → Int32) (L : Nat → Nat → Int64) : ev_do (d + 1) M_State_copy [.ref 17, .ref k1] (ev_mk h I L) =
  ev_rn (ev_mk h (ev_up (ev_up (ev_up (ev_cp (ev_cp (ev_cp I (k1 + 1) 18 0 0 8) (k1 + 2) 19 0 0 8) (k1 + 3) 20 0 0 8) 17 3 ((ev_cp (ev_cp (ev_cp I (k1 + 1) 18 0 0 8) (k1 + 2) 19 0 0 8) (k1 + 3) 20 0 0 8) k1 3)) 17 4 ((ev_cp (ev_cp (ev_cp I (k1 + 1) 18 0 0 8) (k1 + 2) 19 0 0 8) (k1 + 3) 20 0 0 8) k1 4)) 17 5 ((ev_cp (ev_cp (ev_cp I (k1 + 1) 18 0 0 8) (k1 + 2) 19 0 0 8) (k1 + 3) 20 0 0 8) k1 5)) L) := by
  rcases hk1 with rfl | rfl | rfl | rfl | rfl | rfl | rfl | rfl | rfl | rfl | rfl | rfl | rfl | rfl | rfl | rfl | rfl | rfl <;> exact (ev_eq true (ev_call true d) M_State_copy 0 _ _ (ev_mk h I L)).trans rfl
set_option maxRecDepth 100000 in
theorem e_State_moodsTogether_0 (d : Nat) {k0 : Nat} (hk0 : k0 = 17 ∨ k0 = 21) (h : Bool × Nat × Nat) (I : Nat → Nat → Int32) (L : Nat → Nat → Int64) : ev_do (d + 1) M_State_moodsTogether [.ref k0] (ev_mk h I L) =
  ev_cI (ev_do d M_SL_sum [.ref (k0 + 2)] (ev_mk h I L)) (fun v2 s1 =>
    ev_ri v2 (ev_mk s1.1.2 s1.2.1 s1.2.2.1)) := by
  rcases hk0 with rfl | rfl <;> exact (ev_eq true (ev_call true d) M_State_moodsTogether 0 _ _ (ev_mk h I L)).trans rfl
set_option maxRecDepth 100000 in
theorem e_State_putOffer_0 (d : Nat) (x1 x2 : Int32) {k0 : Nat} (hk0 : k0 = 17 ∨ k0 = 21) (h : Bool × Nat × Nat) (I : Nat → Nat → Int32) (L : Nat → Nat → Int64) : ev_do (d + 1) M_State_putOffer [.ref k0, .int x1, .int x2] (ev_mk h I L) =
  ev_cI (ev_do d M_SL_isLetter [.int x1] (ev_mk h I L)) (fun v2 s1 =>
    (if v2 = 0 then
      ev_ri (-1) (ev_mk s1.1.2 s1.2.1 s1.2.2.1)
    else
      (if x2 < 0 then
        ev_ri (-1) (ev_mk s1.1.2 s1.2.1 s1.2.2.1)
      else
        (if 9 < x2 then
          ev_ri (-1) (ev_mk s1.1.2 s1.2.1 s1.2.2.1)
        else
          (if ev_in x1 8 then
            (if ev_in x1 8 then
              ev_ri (s1.2.1 (k0 + 3) x1.toNatClampNeg) (ev_mk s1.1.2 (ev_up s1.2.1 (k0 + 3) x1.toNatClampNeg x2) s1.2.2.1)
            else none)
          else none))))) := by
  rcases hk0 with rfl | rfl <;> exact (ev_eq true (ev_call true d) M_State_putOffer 0 _ _ (ev_mk h I L)).trans rfl
set_option maxRecDepth 100000 in
theorem e_State_stir_0 (d : Nat) (x1 x2 : Int32) (h : Bool × Nat × Nat) (I : Nat → Nat → Int32) (L : Nat → Nat → Int64) : ev_do (d + 1) M_State_stir [.ref 17, .int x1, .int x2] (ev_mk h I L) =
  ev_cI (ev_do d M_SL_isLetter [.int x1] (ev_mk h I L)) (fun v2 s1 =>
    (if v2 = 0 then
      ev_ri (-1) (ev_mk s1.1.2 s1.2.1 s1.2.2.1)
    else
      (if x2 = 0 then
        ev_ri (-1) (ev_mk s1.1.2 s1.2.1 s1.2.2.1)
      else
        (if x2 < (-9) then
          ev_ri (-1) (ev_mk s1.1.2 s1.2.1 s1.2.2.1)
        else
          (if 9 < x2 then
            ev_ri (-1) (ev_mk s1.1.2 s1.2.1 s1.2.2.1)
          else
            (if ev_in x1 8 then
              (if ((s1.2.1 19 x1.toNatClampNeg) + x2) < 0 then
                ev_ri (-2) (ev_mk s1.1.2 s1.2.1 s1.2.2.1)
              else
                (if 9 < ((s1.2.1 19 x1.toNatClampNeg) + x2) then
                  ev_ri (-3) (ev_mk s1.1.2 s1.2.1 s1.2.2.1)
                else
                  (if ev_in x1 8 then
                    ev_ri ((s1.2.1 19 x1.toNatClampNeg) + x2) (ev_mk s1.1.2 (ev_up s1.2.1 19 x1.toNatClampNeg ((s1.2.1 19 x1.toNatClampNeg) + x2)) s1.2.2.1)
                  else none)))
            else none)))))) := 
  (ev_eq true (ev_call true d) M_State_stir 0 [.ref 17, .int x1, .int x2, .float 0] [] (ev_mk h I L)).trans rfl
set_option maxRecDepth 100000 in
theorem e_Str_charAt_0_v0 (d : Nat) (x1 : Int32) (h : Bool × Nat × Nat) (I : Nat → Nat → Int32) (L : Nat → Nat → Int64) : ev_do (d + 1) M_Str_charAt [.ref 900000, .int x1] (ev_mk h I L) =
  ev_cI (ev_do d M_Str_isLatin1 [.ref 900000] (ev_mk h I L)) (fun v2 s1 =>
    (if v2 = 0 then
      none
    else
      ev_cI (ev_do d M_Lat_charAt [.ref 900001, .int x1] (ev_mk s1.1.2 s1.2.1 s1.2.2.1)) (fun v4 s3 =>
        (if ev_fit .char v4 then ev_ri v4 (ev_mk s3.1.2 s3.2.1 s3.2.2.1) else none)))) := 
  (ev_eq true (ev_call true d) M_Str_charAt 0 [.ref 900000, .int x1] [] (ev_mk h I L)).trans rfl
set_option maxRecDepth 100000 in
theorem e_Str_charAt_0_v1 (d : Nat) (x1 : Int32) (h : Bool × Nat × Nat) (I : Nat → Nat → Int32) (L : Nat → Nat → Int64) : ev_do (d + 1) M_Str_charAt [.ref 900002, .int x1] (ev_mk h I L) =
  ev_cI (ev_do d M_Str_isLatin1 [.ref 900002] (ev_mk h I L)) (fun v2 s1 =>
    (if v2 = 0 then
      none
    else
      ev_cI (ev_do d M_Lat_charAt [.ref 900003, .int x1] (ev_mk s1.1.2 s1.2.1 s1.2.2.1)) (fun v4 s3 =>
        (if ev_fit .char v4 then ev_ri v4 (ev_mk s3.1.2 s3.2.1 s3.2.2.1) else none)))) := 
  (ev_eq true (ev_call true d) M_Str_charAt 0 [.ref 900002, .int x1] [] (ev_mk h I L)).trans rfl
set_option maxRecDepth 100000 in
theorem e_Str_charAt_0_v2 (d : Nat) (x1 : Int32) (h : Bool × Nat × Nat) (I : Nat → Nat → Int32) (L : Nat → Nat → Int64) : ev_do (d + 1) M_Str_charAt [.ref 900020, .int x1] (ev_mk h I L) =
  ev_cI (ev_do d M_Str_isLatin1 [.ref 900020] (ev_mk h I L)) (fun v2 s1 =>
    (if v2 = 0 then
      none
    else
      ev_cI (ev_do d M_Lat_charAt [.ref 900021, .int x1] (ev_mk s1.1.2 s1.2.1 s1.2.2.1)) (fun v4 s3 =>
        (if ev_fit .char v4 then ev_ri v4 (ev_mk s3.1.2 s3.2.1 s3.2.2.1) else none)))) := 
  (ev_eq true (ev_call true d) M_Str_charAt 0 [.ref 900020, .int x1] [] (ev_mk h I L)).trans rfl
set_option maxRecDepth 100000 in
theorem e_Str_charAt_0_v3 (d : Nat) (x1 : Int32) (h : Bool × Nat × Nat) (I : Nat → Nat → Int32) (L : Nat → Nat → Int64) : ev_do (d + 1) M_Str_charAt [.ref 900022, .int x1] (ev_mk h I L) =
  ev_cI (ev_do d M_Str_isLatin1 [.ref 900022] (ev_mk h I L)) (fun v2 s1 =>
    (if v2 = 0 then
      none
    else
      ev_cI (ev_do d M_Lat_charAt [.ref 900023, .int x1] (ev_mk s1.1.2 s1.2.1 s1.2.2.1)) (fun v4 s3 =>
        (if ev_fit .char v4 then ev_ri v4 (ev_mk s3.1.2 s3.2.1 s3.2.2.1) else none)))) := 
  (ev_eq true (ev_call true d) M_Str_charAt 0 [.ref 900022, .int x1] [] (ev_mk h I L)).trans rfl
set_option maxRecDepth 100000 in
theorem e_Str_charAt_0_v4 (d : Nat) (x1 : Int32) (h : Bool × Nat × Nat) (I : Nat → Nat → Int32) (L : Nat → Nat → Int64) : ev_do (d + 1) M_Str_charAt [.ref 900012, .int x1] (ev_mk h I L) =
  ev_cI (ev_do d M_Str_isLatin1 [.ref 900012] (ev_mk h I L)) (fun v2 s1 =>
    (if v2 = 0 then
      none
    else
      ev_cI (ev_do d M_Lat_charAt [.ref 900013, .int x1] (ev_mk s1.1.2 s1.2.1 s1.2.2.1)) (fun v4 s3 =>
        (if ev_fit .char v4 then ev_ri v4 (ev_mk s3.1.2 s3.2.1 s3.2.2.1) else none)))) := 
  (ev_eq true (ev_call true d) M_Str_charAt 0 [.ref 900012, .int x1] [] (ev_mk h I L)).trans rfl
set_option maxRecDepth 100000 in
theorem e_Str_charAt_0_v5 (d : Nat) (x1 : Int32) (h : Bool × Nat × Nat) (I : Nat → Nat → Int32) (L : Nat → Nat → Int64) : ev_do (d + 1) M_Str_charAt [.ref 900014, .int x1] (ev_mk h I L) =
  ev_cI (ev_do d M_Str_isLatin1 [.ref 900014] (ev_mk h I L)) (fun v2 s1 =>
    (if v2 = 0 then
      none
    else
      ev_cI (ev_do d M_Lat_charAt [.ref 900015, .int x1] (ev_mk s1.1.2 s1.2.1 s1.2.2.1)) (fun v4 s3 =>
        (if ev_fit .char v4 then ev_ri v4 (ev_mk s3.1.2 s3.2.1 s3.2.2.1) else none)))) := 
  (ev_eq true (ev_call true d) M_Str_charAt 0 [.ref 900014, .int x1] [] (ev_mk h I L)).trans rfl
set_option maxRecDepth 100000 in
theorem e_Str_charAt_0_v6 (d : Nat) (x1 : Int32) (h : Bool × Nat × Nat) (I : Nat → Nat → Int32) (L : Nat → Nat → Int64) : ev_do (d + 1) M_Str_charAt [.ref 900016, .int x1] (ev_mk h I L) =
  ev_cI (ev_do d M_Str_isLatin1 [.ref 900016] (ev_mk h I L)) (fun v2 s1 =>
    (if v2 = 0 then
      none
    else
      ev_cI (ev_do d M_Lat_charAt [.ref 900017, .int x1] (ev_mk s1.1.2 s1.2.1 s1.2.2.1)) (fun v4 s3 =>
        (if ev_fit .char v4 then ev_ri v4 (ev_mk s3.1.2 s3.2.1 s3.2.2.1) else none)))) := 
  (ev_eq true (ev_call true d) M_Str_charAt 0 [.ref 900016, .int x1] [] (ev_mk h I L)).trans rfl
set_option maxRecDepth 100000 in
theorem e_Str_charAt_0_v7 (d : Nat) (x1 : Int32) (h : Bool × Nat × Nat) (I : Nat → Nat → Int32) (L : Nat → Nat → Int64) : ev_do (d + 1) M_Str_charAt [.ref 900018, .int x1] (ev_mk h I L) =
  ev_cI (ev_do d M_Str_isLatin1 [.ref 900018] (ev_mk h I L)) (fun v2 s1 =>
    (if v2 = 0 then
      none
    else
      ev_cI (ev_do d M_Lat_charAt [.ref 900019, .int x1] (ev_mk s1.1.2 s1.2.1 s1.2.2.1)) (fun v4 s3 =>
        (if ev_fit .char v4 then ev_ri v4 (ev_mk s3.1.2 s3.2.1 s3.2.2.1) else none)))) := 
  (ev_eq true (ev_call true d) M_Str_charAt 0 [.ref 900018, .int x1] [] (ev_mk h I L)).trans rfl
set_option maxRecDepth 100000 in
theorem e_Str_checkIndex_0 (d : Nat) (x0 x1 : Int32) (h : Bool × Nat × Nat) (I : Nat → Nat → Int32) (L : Nat → Nat → Int64) : ev_do (d + 1) M_Str_checkIndex [.int x0, .int x1] (ev_mk h I L) =
  ev_cI (ev_do d M_Pre_checkIndex [.int x0, .int x1, .retAddr 0] (ev_mk h I L)) (fun v2 s1 =>
    ev_rn (ev_mk s1.1.2 s1.2.1 s1.2.2.1)) := 
  (ev_eq true (ev_call true d) M_Str_checkIndex 0 [.int x0, .int x1] [] (ev_mk h I L)).trans rfl
set_option maxRecDepth 100000 in
theorem e_Str_coder_0_v0 (d : Nat) (h : Bool × Nat × Nat) (I : Nat → Nat → Int32) (L : Nat → Nat → Int64) : ev_do (d + 1) M_Str_coder [.ref 900000] (ev_mk h I L) =
  (if ev_fit .byte 0 then ev_ri 0 (ev_mk h I L) else none) := 
  (ev_eq true (ev_call true d) M_Str_coder 0 [.ref 900000] [] (ev_mk h I L)).trans rfl
set_option maxRecDepth 100000 in
theorem e_Str_coder_0_v1 (d : Nat) (h : Bool × Nat × Nat) (I : Nat → Nat → Int32) (L : Nat → Nat → Int64) : ev_do (d + 1) M_Str_coder [.ref 900002] (ev_mk h I L) =
  (if ev_fit .byte 0 then ev_ri 0 (ev_mk h I L) else none) := 
  (ev_eq true (ev_call true d) M_Str_coder 0 [.ref 900002] [] (ev_mk h I L)).trans rfl
set_option maxRecDepth 100000 in
theorem e_Str_coder_0_v2 (d : Nat) (h : Bool × Nat × Nat) (I : Nat → Nat → Int32) (L : Nat → Nat → Int64) : ev_do (d + 1) M_Str_coder [.ref 900020] (ev_mk h I L) =
  (if ev_fit .byte 0 then ev_ri 0 (ev_mk h I L) else none) := 
  (ev_eq true (ev_call true d) M_Str_coder 0 [.ref 900020] [] (ev_mk h I L)).trans rfl
set_option maxRecDepth 100000 in
theorem e_Str_coder_0_v3 (d : Nat) (h : Bool × Nat × Nat) (I : Nat → Nat → Int32) (L : Nat → Nat → Int64) : ev_do (d + 1) M_Str_coder [.ref 900022] (ev_mk h I L) =
  (if ev_fit .byte 0 then ev_ri 0 (ev_mk h I L) else none) := 
  (ev_eq true (ev_call true d) M_Str_coder 0 [.ref 900022] [] (ev_mk h I L)).trans rfl
set_option maxRecDepth 100000 in
theorem e_Str_coder_0_v4 (d : Nat) (h : Bool × Nat × Nat) (I : Nat → Nat → Int32) (L : Nat → Nat → Int64) : ev_do (d + 1) M_Str_coder [.ref 900012] (ev_mk h I L) =
  (if ev_fit .byte 0 then ev_ri 0 (ev_mk h I L) else none) := 
  (ev_eq true (ev_call true d) M_Str_coder 0 [.ref 900012] [] (ev_mk h I L)).trans rfl
set_option maxRecDepth 100000 in
theorem e_Str_coder_0_v5 (d : Nat) (h : Bool × Nat × Nat) (I : Nat → Nat → Int32) (L : Nat → Nat → Int64) : ev_do (d + 1) M_Str_coder [.ref 900014] (ev_mk h I L) =
  (if ev_fit .byte 0 then ev_ri 0 (ev_mk h I L) else none) := 
  (ev_eq true (ev_call true d) M_Str_coder 0 [.ref 900014] [] (ev_mk h I L)).trans rfl
set_option maxRecDepth 100000 in
theorem e_Str_coder_0_v6 (d : Nat) (h : Bool × Nat × Nat) (I : Nat → Nat → Int32) (L : Nat → Nat → Int64) : ev_do (d + 1) M_Str_coder [.ref 900016] (ev_mk h I L) =
  (if ev_fit .byte 0 then ev_ri 0 (ev_mk h I L) else none) := 
  (ev_eq true (ev_call true d) M_Str_coder 0 [.ref 900016] [] (ev_mk h I L)).trans rfl
set_option maxRecDepth 100000 in
theorem e_Str_coder_0_v7 (d : Nat) (h : Bool × Nat × Nat) (I : Nat → Nat → Int32) (L : Nat → Nat → Int64) : ev_do (d + 1) M_Str_coder [.ref 900018] (ev_mk h I L) =
  (if ev_fit .byte 0 then ev_ri 0 (ev_mk h I L) else none) := 
  (ev_eq true (ev_call true d) M_Str_coder 0 [.ref 900018] [] (ev_mk h I L)).trans rfl
set_option maxRecDepth 100000 in
theorem e_Str_indexOf_0 (d : Nat) (x1 : Int32) (h : Bool × Nat × Nat) (I : Nat → Nat → Int32) (L : Nat → Nat → Int64) : ev_do (d + 1) M_Str_indexOf [.ref 900002, .int x1] (ev_mk h I L) =
  ev_cI (ev_do d M_Str_indexOf2 [.ref 900002, .int x1, .int 0] (ev_mk h I L)) (fun v2 s1 =>
    ev_ri v2 (ev_mk s1.1.2 s1.2.1 s1.2.2.1)) := 
  (ev_eq true (ev_call true d) M_Str_indexOf 0 [.ref 900002, .int x1] [] (ev_mk h I L)).trans rfl
set_option maxRecDepth 100000 in
theorem e_Str_indexOf2_0 (d : Nat) (x1 x2 : Int32) (h : Bool × Nat × Nat) (I : Nat → Nat → Int32) (L : Nat → Nat → Int64) : ev_do (d + 1) M_Str_indexOf2 [.ref 900002, .int x1, .int x2] (ev_mk h I L) =
  ev_cI (ev_do d M_Str_isLatin1 [.ref 900002] (ev_mk h I L)) (fun v2 s1 =>
    (if v2 = 0 then
      ev_cI (ev_do d M_Str_length [.ref 900002] (ev_mk s1.1.2 s1.2.1 s1.2.2.1)) (fun v4 s3 =>
        none)
    else
      ev_cI (ev_do d M_Str_length [.ref 900002] (ev_mk s1.1.2 s1.2.1 s1.2.2.1)) (fun v6 s5 =>
        ev_cI (ev_do d M_Lat_indexOf [.ref 900003, .int x1, .int x2, .int v6] (ev_mk s5.1.2 s5.2.1 s5.2.2.1)) (fun v8 s7 =>
          ev_ri v8 (ev_mk s7.1.2 s7.2.1 s7.2.2.1))))) := 
  (ev_eq true (ev_call true d) M_Str_indexOf2 0 [.ref 900002, .int x1, .int x2] [] (ev_mk h I L)).trans rfl
set_option maxRecDepth 100000 in
theorem e_Str_isLatin1_0_v0 (d : Nat) (h : Bool × Nat × Nat) (I : Nat → Nat → Int32) (L : Nat → Nat → Int64) : ev_do (d + 1) M_Str_isLatin1 [.ref 900000] (ev_mk h I L) =
  ev_ri 1 (ev_mk h I L) := 
  (ev_eq true (ev_call true d) M_Str_isLatin1 0 [.ref 900000] [] (ev_mk h I L)).trans rfl
set_option maxRecDepth 100000 in
theorem e_Str_isLatin1_0_v1 (d : Nat) (h : Bool × Nat × Nat) (I : Nat → Nat → Int32) (L : Nat → Nat → Int64) : ev_do (d + 1) M_Str_isLatin1 [.ref 900002] (ev_mk h I L) =
  ev_ri 1 (ev_mk h I L) := 
  (ev_eq true (ev_call true d) M_Str_isLatin1 0 [.ref 900002] [] (ev_mk h I L)).trans rfl
set_option maxRecDepth 100000 in
theorem e_Str_isLatin1_0_v2 (d : Nat) (h : Bool × Nat × Nat) (I : Nat → Nat → Int32) (L : Nat → Nat → Int64) : ev_do (d + 1) M_Str_isLatin1 [.ref 900020] (ev_mk h I L) =
  ev_ri 1 (ev_mk h I L) := 
  (ev_eq true (ev_call true d) M_Str_isLatin1 0 [.ref 900020] [] (ev_mk h I L)).trans rfl
set_option maxRecDepth 100000 in
theorem e_Str_isLatin1_0_v3 (d : Nat) (h : Bool × Nat × Nat) (I : Nat → Nat → Int32) (L : Nat → Nat → Int64) : ev_do (d + 1) M_Str_isLatin1 [.ref 900022] (ev_mk h I L) =
  ev_ri 1 (ev_mk h I L) := 
  (ev_eq true (ev_call true d) M_Str_isLatin1 0 [.ref 900022] [] (ev_mk h I L)).trans rfl
set_option maxRecDepth 100000 in
theorem e_Str_isLatin1_0_v4 (d : Nat) (h : Bool × Nat × Nat) (I : Nat → Nat → Int32) (L : Nat → Nat → Int64) : ev_do (d + 1) M_Str_isLatin1 [.ref 900012] (ev_mk h I L) =
  ev_ri 1 (ev_mk h I L) := 
  (ev_eq true (ev_call true d) M_Str_isLatin1 0 [.ref 900012] [] (ev_mk h I L)).trans rfl
set_option maxRecDepth 100000 in
theorem e_Str_isLatin1_0_v5 (d : Nat) (h : Bool × Nat × Nat) (I : Nat → Nat → Int32) (L : Nat → Nat → Int64) : ev_do (d + 1) M_Str_isLatin1 [.ref 900014] (ev_mk h I L) =
  ev_ri 1 (ev_mk h I L) := 
  (ev_eq true (ev_call true d) M_Str_isLatin1 0 [.ref 900014] [] (ev_mk h I L)).trans rfl
set_option maxRecDepth 100000 in
theorem e_Str_isLatin1_0_v6 (d : Nat) (h : Bool × Nat × Nat) (I : Nat → Nat → Int32) (L : Nat → Nat → Int64) : ev_do (d + 1) M_Str_isLatin1 [.ref 900016] (ev_mk h I L) =
  ev_ri 1 (ev_mk h I L) := 
  (ev_eq true (ev_call true d) M_Str_isLatin1 0 [.ref 900016] [] (ev_mk h I L)).trans rfl
set_option maxRecDepth 100000 in
theorem e_Str_isLatin1_0_v7 (d : Nat) (h : Bool × Nat × Nat) (I : Nat → Nat → Int32) (L : Nat → Nat → Int64) : ev_do (d + 1) M_Str_isLatin1 [.ref 900018] (ev_mk h I L) =
  ev_ri 1 (ev_mk h I L) := 
  (ev_eq true (ev_call true d) M_Str_isLatin1 0 [.ref 900018] [] (ev_mk h I L)).trans rfl
set_option maxRecDepth 100000 in
theorem e_Str_length_0_v0 (d : Nat) (h : Bool × Nat × Nat) (I : Nat → Nat → Int32) (L : Nat → Nat → Int64) : ev_do (d + 1) M_Str_length [.ref 900000] (ev_mk h I L) =
  ev_cI (ev_do d M_Str_coder [.ref 900000] (ev_mk h I L)) (fun v2 s1 =>
    ev_ri (7 >>> (v2 &&& 31)) (ev_mk s1.1.2 s1.2.1 s1.2.2.1)) := 
  (ev_eq true (ev_call true d) M_Str_length 0 [.ref 900000] [] (ev_mk h I L)).trans rfl
set_option maxRecDepth 100000 in
theorem e_Str_length_0_v1 (d : Nat) (h : Bool × Nat × Nat) (I : Nat → Nat → Int32) (L : Nat → Nat → Int64) : ev_do (d + 1) M_Str_length [.ref 900002] (ev_mk h I L) =
  ev_cI (ev_do d M_Str_coder [.ref 900002] (ev_mk h I L)) (fun v2 s1 =>
    ev_ri (7 >>> (v2 &&& 31)) (ev_mk s1.1.2 s1.2.1 s1.2.2.1)) := 
  (ev_eq true (ev_call true d) M_Str_length 0 [.ref 900002] [] (ev_mk h I L)).trans rfl
set_option maxRecDepth 100000 in
theorem e_Str_length_0_v2 (d : Nat) (h : Bool × Nat × Nat) (I : Nat → Nat → Int32) (L : Nat → Nat → Int64) : ev_do (d + 1) M_Str_length [.ref 900020] (ev_mk h I L) =
  ev_cI (ev_do d M_Str_coder [.ref 900020] (ev_mk h I L)) (fun v2 s1 =>
    ev_ri (5 >>> (v2 &&& 31)) (ev_mk s1.1.2 s1.2.1 s1.2.2.1)) := 
  (ev_eq true (ev_call true d) M_Str_length 0 [.ref 900020] [] (ev_mk h I L)).trans rfl
set_option maxRecDepth 100000 in
theorem e_Str_length_0_v3 (d : Nat) (h : Bool × Nat × Nat) (I : Nat → Nat → Int32) (L : Nat → Nat → Int64) : ev_do (d + 1) M_Str_length [.ref 900022] (ev_mk h I L) =
  ev_cI (ev_do d M_Str_coder [.ref 900022] (ev_mk h I L)) (fun v2 s1 =>
    ev_ri (8 >>> (v2 &&& 31)) (ev_mk s1.1.2 s1.2.1 s1.2.2.1)) := 
  (ev_eq true (ev_call true d) M_Str_length 0 [.ref 900022] [] (ev_mk h I L)).trans rfl
set_option maxRecDepth 100000 in
theorem e_Str_length_0_v4 (d : Nat) (h : Bool × Nat × Nat) (I : Nat → Nat → Int32) (L : Nat → Nat → Int64) : ev_do (d + 1) M_Str_length [.ref 900012] (ev_mk h I L) =
  ev_cI (ev_do d M_Str_coder [.ref 900012] (ev_mk h I L)) (fun v2 s1 =>
    ev_ri (16 >>> (v2 &&& 31)) (ev_mk s1.1.2 s1.2.1 s1.2.2.1)) := 
  (ev_eq true (ev_call true d) M_Str_length 0 [.ref 900012] [] (ev_mk h I L)).trans rfl
set_option maxRecDepth 100000 in
theorem e_Str_length_0_v5 (d : Nat) (h : Bool × Nat × Nat) (I : Nat → Nat → Int32) (L : Nat → Nat → Int64) : ev_do (d + 1) M_Str_length [.ref 900014] (ev_mk h I L) =
  ev_cI (ev_do d M_Str_coder [.ref 900014] (ev_mk h I L)) (fun v2 s1 =>
    ev_ri (3 >>> (v2 &&& 31)) (ev_mk s1.1.2 s1.2.1 s1.2.2.1)) := 
  (ev_eq true (ev_call true d) M_Str_length 0 [.ref 900014] [] (ev_mk h I L)).trans rfl
set_option maxRecDepth 100000 in
theorem e_Str_length_0_v6 (d : Nat) (h : Bool × Nat × Nat) (I : Nat → Nat → Int32) (L : Nat → Nat → Int64) : ev_do (d + 1) M_Str_length [.ref 900016] (ev_mk h I L) =
  ev_cI (ev_do d M_Str_coder [.ref 900016] (ev_mk h I L)) (fun v2 s1 =>
    ev_ri (2 >>> (v2 &&& 31)) (ev_mk s1.1.2 s1.2.1 s1.2.2.1)) := 
  (ev_eq true (ev_call true d) M_Str_length 0 [.ref 900016] [] (ev_mk h I L)).trans rfl
set_option maxRecDepth 100000 in
theorem e_Str_length_0_v7 (d : Nat) (h : Bool × Nat × Nat) (I : Nat → Nat → Int32) (L : Nat → Nat → Int64) : ev_do (d + 1) M_Str_length [.ref 900018] (ev_mk h I L) =
  ev_cI (ev_do d M_Str_coder [.ref 900018] (ev_mk h I L)) (fun v2 s1 =>
    ev_ri (2 >>> (v2 &&& 31)) (ev_mk s1.1.2 s1.2.1 s1.2.2.1)) := 
  (ev_eq true (ev_call true d) M_Str_length 0 [.ref 900018] [] (ev_mk h I L)).trans rfl
set_option maxRecDepth 100000 in
theorem e_Text_signAt_0 (d : Nat) (x1 : Int32) (h : Bool × Nat × Nat) (I : Nat → Nat → Int32) (L : Nat → Nat → Int64) : ev_do (d + 1) M_Text_signAt [.ref 1, .int x1] (ev_mk h I L) =
  (if x1 < 0 then
    (if ev_fit .char 0 then ev_ri 0 (ev_mk h I L) else none)
  else
    (if x1 < (I 1 1) then
      (if ev_in x1 80 then
        (if ev_fit .char (I 2 x1.toNatClampNeg) then ev_ri (I 2 x1.toNatClampNeg) (ev_mk h I L) else none)
      else none)
    else
      (if ev_fit .char 0 then ev_ri 0 (ev_mk h I L) else none))) := 
  (ev_eq true (ev_call true d) M_Text_signAt 0 [.ref 1, .int x1] [] (ev_mk h I L)).trans rfl
set_option maxRecDepth 100000 in
theorem e_Text_takeFour_0 (d : Nat) (x1 : Int32) (h : Bool × Nat × Nat) (I : Nat → Nat → Int32) (L : Nat → Nat → Int64) : ev_do (d + 1) M_Text_takeFour [.ref 1, .int x1] (ev_mk h I L) =
  (if 76 < (I 1 1) then
    ev_ri 0 (ev_mk h I L)
  else
    ev_at d M_Text_takeFour 14 [.ref 1, .int x1, .int 24] [] (ev_mk h I L)) := 
  (ev_eq true (ev_call true d) M_Text_takeFour 0 [.ref 1, .int x1, .float 0] [] (ev_mk h I L)).trans rfl
set_option maxRecDepth 100000 in
theorem e_Text_takeFour_14 (d : Nat) (x1 x2 : Int32) (h : Bool × Nat × Nat) (I : Nat → Nat → Int32) (L : Nat → Nat → Int64) : ev_at d M_Text_takeFour 14 [.ref 1, .int x1, .int x2] [] (ev_mk h I L) =
  (if x2 < 0 then
    ev_ri 1 (ev_mk h I L)
  else
    (if ev_in (I 1 1) 80 then
      ev_at d M_Text_takeFour 14 [.ref 1, .int x1, .int (x2 + (-8))] [] (ev_mk h (ev_up (ev_up I 2 ((I 1 1).toNatClampNeg) (vp_nar .char (((((x1.toUInt32 >>> (x2.toUInt32 &&& Int32.toUInt32 31)).toInt32) &&& 255).toUInt32 % 65536).toInt32))) 1 1 ((I 1 1) + 1)) L)
    else none)) := 
  (ev_eq true (ev_call true d) M_Text_takeFour 14 [.ref 1, .int x1, .int x2] [] (ev_mk h I L)).trans rfl
set_option maxRecDepth 100000 in
theorem e_Union_grudge_0 (d : Nat) (x3 x4 : Int32) {k1 : Nat} (hk1 : k1 = 101 ∨ k1 = 105) {k2 : Nat} (hk2 : k2 = 17 ∨ k2 = 21) (h : Bool × Nat × Nat) (I : Nat → Nat → Int32) (L : Nat → Nat → Int64) : ev_do (d + 1) M_Union_grudge [.ref 109, .ref k1, .ref k2, .int x3, .int x4] (ev_mk h I L) =
  (if ev_in x3 8 then
    (if ev_in x3 8 then
      (if ev_in x3 8 then
        ev_cI (ev_do d M_Int_bitCount [.int ((ev_up (ev_up (ev_up (ev_up I 111 0 (I (k2 + 2) x3.toNatClampNeg)) 111 1 x4) 111 2 (I 112 x3.toNatClampNeg)) 111 3 (I 113 x3.toNatClampNeg)) k2 3)] (ev_mk h (ev_up (ev_up (ev_up (ev_up I 111 0 (I (k2 + 2) x3.toNatClampNeg)) 111 1 x4) 111 2 (I 112 x3.toNatClampNeg)) 111 3 (I 113 x3.toNatClampNeg)) L)) (fun v2 s1 =>
          ev_cI (ev_do d M_Rule_workOut [.ref k1, .ref 111] (ev_mk s1.1.2 (ev_up (ev_up (ev_up s1.2.1 111 4 v2) 111 5 (((ev_up s1.2.1 111 4 v2) k2 4) - ((ev_up s1.2.1 111 4 v2) k2 4) / 7 * 7)) 111 6 x3) s1.2.2.1)) (fun v4 s3 =>
            ev_ri v4 (ev_mk s3.1.2 s3.2.1 s3.2.2.1)))
      else none)
    else none)
  else none) := by
  rcases hk1 with rfl | rfl <;> rcases hk2 with rfl | rfl <;> exact (ev_eq true (ev_call true d) M_Union_grudge 0 _ _ (ev_mk h I L)).trans rfl
set_option maxRecDepth 100000 in
theorem e_Union_pairsThatFall_0 (d : Nat) (h : Bool × Nat × Nat) (I : Nat → Nat → Int32) (L : Nat → Nat → Int64) : ev_do (d + 1) M_Union_pairsThatFall [.ref 109] (ev_mk h I L) =
  ev_at d M_Union_pairsThatFall 4 [.ref 109, .int 0, .int 0, .float 0] [] (ev_mk h I L) := 
  (ev_eq true (ev_call true d) M_Union_pairsThatFall 0 [.ref 109, .float 0, .float 0, .float 0] [] (ev_mk h I L)).trans rfl
set_option maxRecDepth 100000 in
theorem e_Union_pairsThatFall_4 (d : Nat) (x1 x2 : Int32) (h : Bool × Nat × Nat) (I : Nat → Nat → Int32) (L : Nat → Nat → Int64) : ev_at d M_Union_pairsThatFall 4 [.ref 109, .int x1, .int x2, .float 0] [] (ev_mk h I L) =
  (if x2 < (I 5 3) then
    ev_at d M_Union_pairsThatFall 19 [.ref 109, .int x1, .int x2, .int (x2 + 1)] [] (ev_mk h I L)
  else
    ev_ri x1 (ev_mk h I L)) := 
  (ev_eq true (ev_call true d) M_Union_pairsThatFall 4 [.ref 109, .int x1, .int x2, .float 0] [] (ev_mk h I L)).trans rfl
set_option maxRecDepth 100000 in
theorem e_Union_pairsThatFall_19 (d : Nat) (x1 x2 x3 : Int32) (h : Bool × Nat × Nat) (I : Nat → Nat → Int32) (L : Nat → Nat → Int64) : ev_at d M_Union_pairsThatFall 19 [.ref 109, .int x1, .int x2, .int x3] [] (ev_mk h I L) =
  (if x3 < (I 5 3) then
    (if ev_in x2 8 then
      (if ev_in x3 8 then
        (if (I 110 x2.toNatClampNeg) = (I 110 x3.toNatClampNeg) then
          ev_cI (ev_do d M_Book_areTwins [.ref 5, .int x2, .int x3] (ev_mk h I L)) (fun v2 s1 =>
            (if v2 = 0 then
              ev_at d M_Union_pairsThatFall 19 [.ref 109, .int (x1 + 1), .int x2, .int (x3 + 1)] [] (ev_mk s1.1.2 s1.2.1 s1.2.2.1)
            else
              ev_at d M_Union_pairsThatFall 19 [.ref 109, .int (x1 + 0), .int x2, .int (x3 + 1)] [] (ev_mk s1.1.2 s1.2.1 s1.2.2.1)))
        else
          ev_at d M_Union_pairsThatFall 19 [.ref 109, .int (x1 + 0), .int x2, .int (x3 + 1)] [] (ev_mk h I L))
      else none)
    else none)
  else
    ev_at d M_Union_pairsThatFall 4 [.ref 109, .int x1, .int (x2 + 1), .float 0] [] (ev_mk h I L)) := 
  (ev_eq true (ev_call true d) M_Union_pairsThatFall 19 [.ref 109, .int x1, .int x2, .int x3] [] (ev_mk h I L)).trans rfl
set_option maxRecDepth 100000 in
theorem e_Union_passDay_0 (d : Nat) {k2 : Nat} (hk2 : k2 = 17 ∨ k2 = 21) (h : Bool × Nat × Nat) (I : Nat → Nat → Int32) (L : Nat → Nat → Int64) : ev_do (d + 1) M_Union_passDay [.ref 109, .ref 101, .ref k2] (ev_mk h I L) =
  ev_cI (ev_do d M_Union_strikers [.ref 109, .ref 101, .ref k2] (ev_mk h I L)) (fun v2 s1 =>
    ev_cV (ev_do d M_Book_spellAll [.ref 5, .ref k2, .int v2, .ref 110] (ev_mk s1.1.2 (ev_up s1.2.1 k2 3 v2) s1.2.2.1)) (fun s3 =>
      ev_cI (ev_do d M_Union_pairsThatFall [.ref 109] (ev_mk s3.1.2 s3.2.1 s3.2.2.1)) (fun v5 s4 =>
        ev_at d M_Union_passDay 50 [.ref 109, .float 0, .ref k2, .int v5, .int 0] [] (ev_mk s4.1.2 (ev_up s4.2.1 k2 5 (if ((s4.2.1 k2 5) + v5) < 9999 then ((s4.2.1 k2 5) + v5) else 9999)) s4.2.2.1)))) := by
  rcases hk2 with rfl | rfl <;> exact (ev_eq true (ev_call true d) M_Union_passDay 0 _ _ (ev_mk h I L)).trans rfl
set_option maxRecDepth 100000 in
theorem e_Union_passDay_50 (d : Nat) (x3 x4 : Int32) {k2 : Nat} (hk2 : k2 = 17 ∨ k2 = 21) (h : Bool × Nat × Nat) (I : Nat → Nat → Int32) (L : Nat → Nat → Int64) : ev_at d M_Union_passDay 50 [.ref 109, .float 0, .ref k2, .int x3, .int x4] [] (ev_mk h I L) =
  (if x4 < 8 then
    (if (((I k2 3) >>> (x4 &&& 31)) &&& 1) = 1 then
      (if ev_in x4 8 then
        (if ev_in x4 8 then
          ev_at d M_Union_passDay 50 [.ref 109, .float 0, .ref k2, .int x3, .int (x4 + 1)] [] (ev_mk h (ev_up I (k2 + 2) x4.toNatClampNeg (if 0 < ((I (k2 + 2) x4.toNatClampNeg) - 2) then ((I (k2 + 2) x4.toNatClampNeg) - 2) else 0)) L)
        else none)
      else none)
    else
      (if ev_in x4 8 then
        (if 0 < (I 112 x4.toNatClampNeg) then
          (if ev_in x4 8 then
            (if ev_in x4 8 then
              ev_at d M_Union_passDay 50 [.ref 109, .float 0, .ref k2, .int x3, .int (x4 + 1)] [] (ev_mk h (ev_up I (k2 + 2) x4.toNatClampNeg (if ((I (k2 + 2) x4.toNatClampNeg) + 1) < 9 then ((I (k2 + 2) x4.toNatClampNeg) + 1) else 9)) L)
            else none)
          else none)
        else
          ev_at d M_Union_passDay 50 [.ref 109, .float 0, .ref k2, .int x3, .int (x4 + 1)] [] (ev_mk h I L))
      else none))
  else
    ev_ri x3 (ev_mk h (ev_up I k2 4 ((I k2 4) + 1)) L)) := by
  rcases hk2 with rfl | rfl <;> exact (ev_eq true (ev_call true d) M_Union_passDay 50 _ _ (ev_mk h I L)).trans rfl
set_option maxRecDepth 100000 in
theorem e_Union_passDays_0 (d : Nat) (x3 : Int32) {k2 : Nat} (hk2 : k2 = 17 ∨ k2 = 21) (h : Bool × Nat × Nat) (I : Nat → Nat → Int32) (L : Nat → Nat → Int64) : ev_do (d + 1) M_Union_passDays [.ref 109, .ref 101, .ref k2, .int x3] (ev_mk h I L) =
  ev_at d M_Union_passDays 13 [.ref 109, .ref 101, .ref k2, .int x3, .int 0] [] (ev_mk h (ev_up (ev_up I 109 5 0) 109 6 0) L) := by
  rcases hk2 with rfl | rfl <;> exact (ev_eq true (ev_call true d) M_Union_passDays 0 _ _ (ev_mk h I L)).trans rfl
set_option maxRecDepth 100000 in
theorem e_Union_passDays_13 (d : Nat) (x3 x4 : Int32) {k2 : Nat} (hk2 : k2 = 17 ∨ k2 = 21) (h : Bool × Nat × Nat) (I : Nat → Nat → Int32) (L : Nat → Nat → Int64) : ev_at d M_Union_passDays 13 [.ref 109, .ref 101, .ref k2, .int x3, .int x4] [] (ev_mk h I L) =
  (if x4 < x3 then
    ev_cI (ev_do d M_Union_passDay [.ref 109, .ref 101, .ref k2] (ev_mk h I L)) (fun v2 s1 =>
      (if (s1.2.1 k2 3) = 0 then
        ev_at d M_Union_passDays 13 [.ref 109, .ref 101, .ref k2, .int x3, .int (x4 + 1)] [] (ev_mk s1.1.2 (ev_up (ev_up s1.2.1 109 5 ((I 109 5) + v2)) 109 6 ((s1.2.1 109 6) + 0)) s1.2.2.1)
      else
        ev_at d M_Union_passDays 13 [.ref 109, .ref 101, .ref k2, .int x3, .int (x4 + 1)] [] (ev_mk s1.1.2 (ev_up (ev_up s1.2.1 109 5 ((I 109 5) + v2)) 109 6 ((s1.2.1 109 6) + 1)) s1.2.2.1)))
  else
    ev_rn (ev_mk h I L)) := by
  rcases hk2 with rfl | rfl <;> exact (ev_eq true (ev_call true d) M_Union_passDays 13 _ _ (ev_mk h I L)).trans rfl
set_option maxRecDepth 100000 in
theorem e_Union_priceOf_0 (d : Nat) (x3 : Int32) (h : Bool × Nat × Nat) (I : Nat → Nat → Int32) (L : Nat → Nat → Int64) : ev_do (d + 1) M_Union_priceOf [.ref 109, .ref 101, .ref 17, .int x3] (ev_mk h I L) =
  (if ev_in x3 8 then
    ev_at d M_Union_priceOf 8 [.ref 109, .ref 101, .ref 17, .int x3, .int (I 20 x3.toNatClampNeg)] [] (ev_mk h I L)
  else none) := 
  (ev_eq true (ev_call true d) M_Union_priceOf 0 [.ref 109, .ref 101, .ref 17, .int x3, .float 0] [] (ev_mk h I L)).trans rfl
set_option maxRecDepth 100000 in
theorem e_Union_priceOf_8 (d : Nat) (x3 x4 : Int32) (h : Bool × Nat × Nat) (I : Nat → Nat → Int32) (L : Nat → Nat → Int64) : ev_at d M_Union_priceOf 8 [.ref 109, .ref 101, .ref 17, .int x3, .int x4] [] (ev_mk h I L) =
  (if 9 < x4 then
    ev_ri (-1) (ev_mk h I L)
  else
    ev_cI (ev_do d M_Union_grudge [.ref 109, .ref 101, .ref 17, .int x3, .int x4] (ev_mk h I L)) (fun v2 s1 =>
      (if 0 < v2 then
        ev_at d M_Union_priceOf 8 [.ref 109, .ref 101, .ref 17, .int x3, .int (x4 + 1)] [] (ev_mk s1.1.2 s1.2.1 s1.2.2.1)
      else
        (if ev_in x3 8 then
          ev_ri (x4 - (s1.2.1 20 x3.toNatClampNeg)) (ev_mk s1.1.2 s1.2.1 s1.2.2.1)
        else none)))) := 
  (ev_eq true (ev_call true d) M_Union_priceOf 8 [.ref 109, .ref 101, .ref 17, .int x3, .int x4] [] (ev_mk h I L)).trans rfl
set_option maxRecDepth 100000 in
theorem e_Union_strikers_0 (d : Nat) {k1 : Nat} (hk1 : k1 = 101 ∨ k1 = 105) {k2 : Nat} (hk2 : k2 = 17 ∨ k2 = 21) (h : Bool × Nat × Nat) (I : Nat → Nat → Int32) (L : Nat → Nat → Int64) : ev_do (d + 1) M_Union_strikers [.ref 109, .ref k1, .ref k2] (ev_mk h I L) =
  ev_cV (ev_do d M_Union_tally [.ref 109, .ref k2] (ev_mk h I L)) (fun s1 =>
    ev_at d M_Union_strikers 10 [.ref 109, .ref k1, .ref k2, .int 0, .int 0] [] (ev_mk s1.1.2 s1.2.1 s1.2.2.1)) := by
  rcases hk1 with rfl | rfl <;> rcases hk2 with rfl | rfl <;> exact (ev_eq true (ev_call true d) M_Union_strikers 0 _ _ (ev_mk h I L)).trans rfl
set_option maxRecDepth 100000 in
theorem e_Union_strikers_10 (d : Nat) (x3 x4 : Int32) {k1 : Nat} (hk1 : k1 = 101 ∨ k1 = 105) {k2 : Nat} (hk2 : k2 = 17 ∨ k2 = 21) (h : Bool × Nat × Nat) (I : Nat → Nat → Int32) (L : Nat → Nat → Int64) : ev_at d M_Union_strikers 10 [.ref 109, .ref k1, .ref k2, .int x3, .int x4] [] (ev_mk h I L) =
  (if x4 < 8 then
    (if ev_in x4 8 then
      (if 0 < (I 112 x4.toNatClampNeg) then
        (if ev_in x4 8 then
          ev_cI (ev_do d M_Union_grudge [.ref 109, .ref k1, .ref k2, .int x4, .int (I (k2 + 3) x4.toNatClampNeg)] (ev_mk h I L)) (fun v2 s1 =>
            (if 0 < v2 then
              ev_at d M_Union_strikers 10 [.ref 109, .ref k1, .ref k2, .int (x3 ||| (1 <<< (x4 &&& 31))), .int (x4 + 1)] [] (ev_mk s1.1.2 s1.2.1 s1.2.2.1)
            else
              ev_at d M_Union_strikers 10 [.ref 109, .ref k1, .ref k2, .int x3, .int (x4 + 1)] [] (ev_mk s1.1.2 s1.2.1 s1.2.2.1)))
        else none)
      else
        ev_at d M_Union_strikers 10 [.ref 109, .ref k1, .ref k2, .int x3, .int (x4 + 1)] [] (ev_mk h I L))
    else none)
  else
    ev_ri x3 (ev_mk h I L)) := by
  rcases hk1 with rfl | rfl <;> rcases hk2 with rfl | rfl <;> exact (ev_eq true (ev_call true d) M_Union_strikers 10 _ _ (ev_mk h I L)).trans rfl
set_option maxRecDepth 100000 in
theorem e_Union_tally_0 (d : Nat) {k1 : Nat} (hk1 : k1 = 17 ∨ k1 = 21) (h : Bool × Nat × Nat) (I : Nat → Nat → Int32) (L : Nat → Nat → Int64) : ev_do (d + 1) M_Union_tally [.ref 109, .ref k1] (ev_mk h I L) =
  ev_cV (ev_do d M_Arr_fill [.ref 112, .int 0] (ev_mk h I L)) (fun s1 =>
    ev_cV (ev_do d M_Arr_fill [.ref 113, .int 0] (ev_mk s1.1.2 s1.2.1 s1.2.2.1)) (fun s2 =>
      ev_at d M_Union_tally 18 [.ref 109, .ref k1, .int 0, .float 0, .float 0, .float 0] [] (ev_mk s2.1.2 s2.2.1 s2.2.2.1))) := by
  rcases hk1 with rfl | rfl <;> exact (ev_eq true (ev_call true d) M_Union_tally 0 _ _ (ev_mk h I L)).trans rfl
set_option maxRecDepth 100000 in
theorem e_Union_tally_18 (d : Nat) (x2 : Int32) {k1 : Nat} (hk1 : k1 = 17 ∨ k1 = 21) (h : Bool × Nat × Nat) (I : Nat → Nat → Int32) (L : Nat → Nat → Int64) : ev_at d M_Union_tally 18 [.ref 109, .ref k1, .int x2, .float 0, .float 0, .float 0] [] (ev_mk h I L) =
  (if x2 < (I 5 3) then
    ev_at d M_Union_tally 31 [.ref 109, .ref k1, .int x2, .int 0, .float 0, .float 0] [] (ev_mk h I L)
  else
    ev_rn (ev_mk h I L)) := by
  rcases hk1 with rfl | rfl <;> exact (ev_eq true (ev_call true d) M_Union_tally 18 _ _ (ev_mk h I L)).trans rfl
set_option maxRecDepth 100000 in
theorem e_Union_tally_31 (d : Nat) (x2 x3 : Int32) {k1 : Nat} (hk1 : k1 = 17 ∨ k1 = 21) (h : Bool × Nat × Nat) (I : Nat → Nat → Int32) (L : Nat → Nat → Int64) : ev_at d M_Union_tally 31 [.ref 109, .ref k1, .int x2, .int x3, .float 0, .float 0] [] (ev_mk h I L) =
  (if ev_in x2 8 then
    (if x3 < (I 15 x2.toNatClampNeg) then
      (if ev_in x2 8 then
        ev_aI (ev_mk h I L) (ev_rv (ev_R0 6 x2.toNatClampNeg)) x3 (fun v1 =>
          (if ev_in x2 8 then
            (if ev_in v1 8 then
              (if ev_in v1 8 then
                (if ev_in v1 8 then
                  (if ev_in v1 8 then
                    ev_at d M_Union_tally 31 [.ref 109, .ref k1, .int x2, .int (x3 + 1), .float 0, .float 0] [] (ev_mk h (ev_up (ev_up I 112 v1.toNatClampNeg ((I 112 v1.toNatClampNeg) + (((I (k1 + 1) x2.toNatClampNeg) >>> (x3 &&& 31)) &&& 1))) 113 v1.toNatClampNeg ((I 113 v1.toNatClampNeg) + (1 - (((I (k1 + 1) x2.toNatClampNeg) >>> (x3 &&& 31)) &&& 1)))) L)
                  else none)
                else none)
              else none)
            else none)
          else none))
      else none)
    else
      ev_at d M_Union_tally 18 [.ref 109, .ref k1, .int (x2 + 1), .float 0, .float 0, .float 0] [] (ev_mk h I L))
  else none) := by
  rcases hk1 with rfl | rfl <;> exact (ev_eq true (ev_call true d) M_Union_tally 31 _ _ (ev_mk h I L)).trans rfl
