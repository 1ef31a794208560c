/-! A rule read by the class: things by name. -/
section PD
variable {h : Bool × Nat × Nat} {K : Nat → Nat → Int32} {L : Nat → Nat → Int64}
theorem ixV : ∀ c, c < 256 → ∀ i, i < 7 → decide (([109, 111, 117, 115, 110, 100, 105] : List Int32).getD i 0 = (nI c).toInt8.toInt32) = decide (str0.getD i 0 = c) := by decide +kernel
theorem c_indexOf (d : Nat) {c : Nat} (hc : c < 256) : ev_do (d + 5) M_Str_indexOf [.ref 900002, .int (nI c)] (ev_mk h K L) = ev_ri (enc (ixO str0 c)) (ev_mk h K L) := by
  have e7 : ev_at (d + 1) M_Lat_indexOfChar 7 [.ref 900003, .float 0, .float 0, .int 7, .int (nI c).toInt8.toInt32, .int (nI 0)] [] (ev_mk h K L) = ev_ri (enc (ixO str0 c)) (ev_mk h K L) := by
    refine lpE (σ := Unit) (F := fun i _ => ev_at (d + 1) M_Lat_indexOfChar 7 [.ref 900003, .float 0, .float 0, .int 7, .int (nI c).toInt8.toInt32, .int (nI i)] [] (ev_mk h K L)) (fun i _ => fs (fun i => decide (str0.getD i 0 = c)) i = none) (fun o => o = ev_ri (enc (ixO str0 c)) (ev_mk h K L)) 7 ?_ ?_ 0 (Nat.zero_le _) () rfl
    · intro i _ hi q
      show (∃ s' : Unit, ev_at (d + 1) M_Lat_indexOfChar 7 [.ref 900003, .float 0, .float 0, .int 7, .int (nI c).toInt8.toInt32, .int (nI i)] [] (ev_mk h K L) = ev_at (d + 1) M_Lat_indexOfChar 7 [.ref 900003, .float 0, .float 0, .int 7, .int (nI c).toInt8.toInt32, .int (nI (i + 1))] [] (ev_mk h K L) ∧ _) ∨ ev_at (d + 1) M_Lat_indexOfChar 7 [.ref 900003, .float 0, .float 0, .int 7, .int (nI c).toInt8.toInt32, .int (nI i)] [] (ev_mk h K L) = _
      have hv := decide_eq_decide.mp (ixV c hc i hi)
      rw [e_Lat_indexOfChar_7, if_pos (show nI i < 7 from (q_lt (b := 7) (by omega) (by omega)).mpr hi), q_in (by omega), if_pos (by simp <;> omega), q_cl (by omega), show nI i + 1 = nI (i + 1) from q_add i 1]
      by_cases z : str0.getD i 0 = c
      · refine Or.inr ?_
        rw [if_pos (hv.mpr z), ixO, show str0.length = 7 from rfl, fs_hit q (decide_eq_true z) 7 hi]; rfl
      · rw [if_neg (fun y => z (hv.mp y))]
        exact Or.inl ⟨(), rfl, fs_next q (decide_eq_false z)⟩
    · intro _ q
      show ev_at (d + 1) M_Lat_indexOfChar 7 [.ref 900003, .float 0, .float 0, .int 7, .int (nI c).toInt8.toInt32, .int (nI 7)] [] (ev_mk h K L) = _
      rw [e_Lat_indexOfChar_7, if_neg (by decide), ixO, show str0.length = 7 from rfl, q]; rfl
  rw [e_Str_indexOf_0, e_Str_indexOf2_0, e_Str_isLatin1_0_v1, k_I, k_1, k_2, k_3, if_neg (show ¬ (1 : Int32) = 0 by decide), e_Str_length_0_v1, e_Str_coder_0_v1, if_pos (show ev_fit .byte 0 = true by decide), k_I, k_1, k_2, k_3, k_I, k_1, k_2, k_3, e_Lat_indexOf_0, e_Lat_canEncode_0, if_neg (q_nn (by omega)), if_neg (show ¬ (255 : Int32) < nI c from fun z => absurd ((q_lt (a := 255) (by omega) (by omega)).mp z) (by omega)), k_I, k_1, k_2, k_3, if_neg (show ¬ (1 : Int32) = 0 by decide), show (if (0 : Int32) < 0 then (0 : Int32) else 0) = 0 from rfl, show (7 : Int32) >>> ((0 : Int32) &&& (31 : Int32)) = 7 by decide, show (if (7 : Int32) < 7 then (7 : Int32) else 7) = 7 from rfl, if_pos (show (0 : Int32) < 7 by decide), e_Lat_indexOfChar_0]
  rw [show (.int 0 : Value) = .int (nI 0) from rfl, e7, k_I, k_1, k_2, k_3, k_I, k_1, k_2, k_3, k_I, k_1, k_2, k_3]
end PD
