/-! Promises 2, 3: sign, end. -/
/-- the sign that a call of sign lays down, and where -/
def s_b (v : Int32) (k : Int32) : Int32 := (v >>> ((24 - (8 * k)) &&& 31)) &&& 255
theorem c_SL_end (d : Nat) (x : Int32) (h : Bool × Nat × Nat) (I : Nat → Nat → Int32) (L : Nat → Nat → Int64) : ev_do (d + 1) M_SL_end [.ref 0, .int x] (ev_mk h I L) = if ¬ x < 0 ∧ ¬ I 1 1 < x then ev_ri 1 (ev_mk h (ev_up I 1 1 x) L) else ev_ri 0 (ev_mk h I L) := by
  rw [e_SL_end_0]
  by_cases h1 : x < 0
  · simp [h1]
  · by_cases h2 : I 1 1 < x
    · simp [h1, h2]
    · simp [h1, h2]
theorem c_Mo_end (d : Nat) (x : Int32) (h : Bool × Nat × Nat) (I : Nat → Nat → Int32) (L : Nat → Nat → Int64) : ev_do (d + 2) M_Mo_end [.ref 139, .int x] (ev_mk h I L) = if ¬ x < 0 ∧ ¬ I 139 10 < x then ev_ri 1 (ev_mk h (ev_up (ev_up I 139 0 0) 139 10 x) L) else ev_ri 0 (ev_mk h (ev_up I 139 0 0) L) := by
  rw [e_Mo_end_0]
  have e := c_Mo_in d x 0 (I 139 10) h (ev_up I 139 0 0) L
  have e0 : (0 : Int32).toInt64 = 0 := by decide
  rw [e0] at e
  rw [e, k_I, k_1, k_2, k_3]
  by_cases h1 : ¬ x < 0 ∧ ¬ I 139 10 < x
  · rw [if_pos h1, if_pos h1, if_neg (by decide)]
  · rw [if_neg h1, if_neg h1, if_pos rfl]
/-- a sign of four, as the class cuts it out -/
def t_b (x y : Int32) : Int32 := vp_nar .char (((((x.toUInt32 >>> (y.toUInt32 &&& Int32.toUInt32 31)).toInt32) &&& 255).toUInt32 % 65536).toInt32)
theorem t_byte (z : Int32) : ∃ c, c < 256 ∧ z &&& 255 = nI c := by
  obtain ⟨n, -, rfl⟩ := wb_of32 z
  exact ⟨n % 256, Nat.mod_lt _ (by decide), fa_mask n 8⟩
theorem t_small : ∀ c, c < 256 → vp_nar .char (((nI c).toUInt32 % 65536).toInt32) = nI c := by decide +kernel
theorem t_b_eq (x y : Int32) : t_b x y = ((x.toUInt32 >>> (y.toUInt32 &&& Int32.toUInt32 31)).toInt32) &&& 255 := by
  unfold t_b
  obtain ⟨c, h1, h2⟩ := t_byte ((x.toUInt32 >>> (y.toUInt32 &&& Int32.toUInt32 31)).toInt32)
  rw [h2, t_small c h1]
theorem t_cut (n : Nat) (hn : n ≤ 24) (x : Int32) : ((x.toUInt32 >>> ((nI n).toUInt32 &&& Int32.toUInt32 31)).toInt32) &&& 255 = (x >>> (nI n &&& 31)) &&& 255 := by
  apply b_ext
  intro i hi
  rw [b_and, b_and, b_ushr n (by omega), b_sshr n (by omega) x hi, b_255]
  by_cases h8 : i < 8
  · rw [if_pos (by omega)]
  · simp [h8]
theorem t_s (x : Int32) : t_b x 24 = s_b x 0 ∧ t_b x 16 = s_b x 1 ∧ t_b x 8 = s_b x 2 ∧ t_b x 0 = s_b x 3 := by
  refine ⟨?_, ?_, ?_, ?_⟩
  · rw [t_b_eq]; exact t_cut 24 (by decide) x
  · rw [t_b_eq]; exact t_cut 16 (by decide) x
  · rw [t_b_eq]; exact t_cut 8 (by decide) x
  · rw [t_b_eq]; exact t_cut 0 (by decide) x
theorem s_byte (x k : Int32) : ∃ c, c < 256 ∧ s_b x k = nI c := t_byte _
/-- four signs laid at n: the class's text, its size last -/
def t_four (I : Nat → Nat → Int32) (n : Nat) (x : Int32) : Nat → Nat → Int32 := ev_up (ev_up (ev_up (ev_up (ev_up (ev_up (ev_up (ev_up I 2 n (t_b x 24)) 1 1 (nI (n + 1))) 2 (n + 1) (t_b x 16)) 1 1 (nI (n + 2))) 2 (n + 2) (t_b x 8)) 1 1 (nI (n + 3))) 2 (n + 3) (t_b x 0)) 1 1 (nI (n + 4))
theorem c_Text_take (d : Nat) (x : Int32) (h : Bool × Nat × Nat) (I : Nat → Nat → Int32) (L : Nat → Nat → Int64) {n : Nat} (hn : I 1 1 = nI n) (hn2 : n ≤ 80) : ev_do (d + 1) M_Text_takeFour [.ref 1, .int x] (ev_mk h I L) = if 76 < n then ev_ri 0 (ev_mk h I L) else ev_ri 1 (ev_mk h (t_four I n x) L) := by
  have step : ∀ (J : Nat → Nat → Int32) (m : Nat) (y : Int32), J 1 1 = nI m → m < 80 → ¬ y < 0 → ev_at d M_Text_takeFour 14 [.ref 1, .int x, .int y] [] (ev_mk h J L) = ev_at d M_Text_takeFour 14 [.ref 1, .int x, .int (y + (-8))] [] (ev_mk h (ev_up (ev_up J 2 m (t_b x y)) 1 1 (nI (m + 1))) L) := by
    intro J m y hm hm2 hy
    rw [e_Text_takeFour_14, if_neg hy, hm, q_in (by omega), if_pos (by simpa using hm2), q_cl (by omega)]
    rw [show (1 : Int32) = nI 1 from rfl, q_add]
    rfl
  rw [e_Text_takeFour_0, hn]
  have e76 : (76 : Int32) < nI n ↔ 76 < n := q_lt (a := 76) (by omega) (by omega)
  by_cases h76 : 76 < n
  · rw [if_pos (e76.mpr h76), if_pos h76]
  · rw [if_neg (fun z => h76 (e76.mp z)), if_neg h76]
    rw [step I n 24 hn (by omega) (by decide), step _ (n + 1) (24 + (-8)) (u_at _ _ _ _) (by omega) (by decide), step _ (n + 2) (24 + (-8) + (-8)) (u_at _ _ _ _) (by omega) (by decide), step _ (n + 3) (24 + (-8) + (-8) + (-8)) (u_at _ _ _ _) (by omega) (by decide), e_Text_takeFour_14, if_pos (by decide)]
    rfl
theorem c_SL_sign (d : Nat) (x : Int32) (h : Bool × Nat × Nat) (I : Nat → Nat → Int32) (L : Nat → Nat → Int64) {n : Nat} (hn : I 1 1 = nI n) (hn2 : n ≤ 80) : ev_do (d + 2) M_SL_sign [.ref 0, .int x] (ev_mk h I L) = if 76 < n then ev_ri (-1) (ev_mk h I L) else ev_ri (nI (n + 4)) (ev_mk h (t_four I n x) L) := by
  rw [e_SL_sign_0, c_Text_take d x h I L hn hn2]
  by_cases h76 : 76 < n
  · rw [if_pos h76, if_pos h76, k_I, if_pos rfl]; rfl
  · rw [if_neg h76, if_neg h76, k_I, if_neg (by decide), k_1, k_2, k_3]
    rw [show t_four I n x 1 1 = nI (n + 4) from u_at _ _ _ _]
/-- four signs laid at n: the reference's tape -/
def m_four (I : Nat → Nat → Int32) (n : Nat) (x : Int32) : Nat → Nat → Int32 := ev_up (ev_up (ev_up (ev_up (ev_up (ev_up I 139 0 0) 145 n (s_b x 0)) 145 (n + 1) (s_b x 1)) 145 (n + 2) (s_b x 2)) 145 (n + 3) (s_b x 3)) 139 10 (nI (n + 4))
theorem c_Mo_sign (d : Nat) (x : Int32) (h : Bool × Nat × Nat) (I : Nat → Nat → Int32) (L : Nat → Nat → Int64) {n : Nat} (hn : I 139 10 = nI n) (hn2 : n ≤ 80) : ev_do (d + 1) M_Mo_sign [.ref 139, .int x] (ev_mk h I L) = if 76 < n then ev_ri (-1) (ev_mk h (ev_up I 139 0 0) L) else ev_ri (nI (n + 4)) (ev_mk h (m_four I n x) L) := by
  have step : ∀ (J : Nat → Nat → Int32) (k : Nat), J 139 10 = nI n → k < 4 → n + k < 80 → ev_at d M_Mo_sign 18 [.ref 139, .int x, .int (nI k)] [] (ev_mk h J L) = ev_at d M_Mo_sign 18 [.ref 139, .int x, .int (nI (k + 1))] [] (ev_mk h (ev_up J 145 (n + k) (s_b x (nI k))) L) := by
    intro J k hJ hk hk2
    rw [e_Mo_sign_18, if_pos (show nI k < (4 : Int32) from (q_lt (b := 4) (by omega) (by omega)).mpr hk), hJ, q_add, q_in (by omega), if_pos (by simpa using hk2), q_cl (by omega)]
    rw [show (1 : Int32) = nI 1 from rfl, q_add]
    rfl
  rw [e_Mo_sign_0, hn]
  have e76 : (76 : Int32) < nI n ↔ 76 < n := q_lt (a := 76) (by omega) (by omega)
  by_cases h76 : 76 < n
  · rw [if_pos (e76.mpr h76), if_pos h76]
  · rw [if_neg (fun z => h76 (e76.mp z)), if_neg h76]
    have h0 : (ev_up I 139 0 0) 139 10 = nI n := (u_j (by decide)).trans hn
    have h1 : ∀ (J : Nat → Nat → Int32) (j : Nat) (v : Int32), J 139 10 = nI n → ev_up J 145 j v 139 10 = nI n := fun J j v hJ => (u_c (by decide)).trans hJ
    rw [show (.int 0 : Value) = .int (nI 0) from rfl, step _ 0 h0 (by omega) (by omega), step _ 1 (h1 _ _ _ h0) (by omega) (by omega), step _ 2 (h1 _ _ _ (h1 _ _ _ h0)) (by omega) (by omega), step _ 3 (h1 _ _ _ (h1 _ _ _ (h1 _ _ _ h0))) (by omega) (by omega), e_Mo_sign_18, if_neg (by decide), h1 _ _ _ (h1 _ _ _ (h1 _ _ _ (h1 _ _ _ h0)))]
    rw [show (4 : Int32) = nI 4 from rfl, q_add]
    rfl
