/-! What is done to a state: offers, moods, signs. -/
def upS (s : Nat → Int32) (j : Nat) (v : Int32) : Nat → Int32 := fun k => if k = j then v else s k
theorem upS_at (s : Nat → Int32) (j : Nat) (v : Int32) : upS s j v j = v := if_pos rfl
theorem upS_no {s : Nat → Int32} {j k : Nat} {v : Int32} (h : k ≠ j) : upS s j v k = s k := if_neg h
theorem z_gt {y : Int32} {n : Nat} (hn : n < 2147483647) : nI n < y ↔ ¬ y < nI (n + 1) := by
  rw [Int32.lt_iff_toInt_lt, Int32.lt_iff_toInt_lt, q_ti (by omega), q_ti (by omega)]
  omega
def aOf (s : Nat → Int32) (x y : Int32) : Int32 × (Nat → Int32) := if blw x 8 && blw y 10 then (s (16 + x.toNatClampNeg), upS s (16 + x.toNatClampNeg) y) else (-1, s)
def aSt (s : Nat → Int32) (x y : Int32) : Int32 × (Nat → Int32) := if blw x 8 && (!decide (y < -9) && !decide (9 < y) && !decide (y = 0)) then (if s (8 + x.toNatClampNeg) + y < 0 then (-2, s) else if 9 < s (8 + x.toNatClampNeg) + y then (-3, s) else (s (8 + x.toNatClampNeg) + y, upS s (8 + x.toNatClampNeg) (s (8 + x.toNatClampNeg) + y))) else (-1, s)
def aMu (W : Nat) (len : Nat → Nat) (s : Nat → Int32) (x y : Int32) : Int32 × (Nat → Int32) := if blw x W && blw y (len x.toNatClampNeg) then (if pcn (uO s x.toNatClampNeg ^^^ 2 ^ y.toNatClampNeg) = len x.toNatClampNeg then (-2, s) else (nI (len x.toNatClampNeg - pcn (uO s x.toNatClampNeg ^^^ 2 ^ y.toNatClampNeg)), upS s x.toNatClampNeg (nI (uO s x.toNatClampNeg ^^^ 2 ^ y.toNatClampNeg)))) else (-1, s)
theorem wfS.up {len : Nat → Nat} {s : Nat → Int32} (h : wfS len s) {j a : Nat} (ha : a < bnd len j) (ha2 : a < 2147483648) : wfS len (upS s j (nI a)) := by
  intro k hk hk25
  by_cases e : k = j
  · subst e
    have : upS s k (nI a) k = nI a := upS_at _ _ _
    rw [uO_nI this ha2]
    exact ⟨this, ha⟩
  · have := h k hk hk25
    unfold uO at this ⊢
    rw [upS_no e]
    exact this
theorem bnd_8 {len : Nat → Nat} {j : Nat} (h1 : 8 ≤ j) (h2 : j < 24) : bnd len j = 10 := by
  unfold bnd; rw [if_neg (by omega), if_pos h2]
theorem aOf_wf {len : Nat → Nat} {s : Nat → Int32} (h : wfS len s) (x y : Int32) : wfS len (aOf s x y).2 := by
  unfold aOf
  split
  · rename_i hb
    rw [Bool.and_eq_true] at hb
    obtain ⟨a, ha, rfl⟩ := (blw_iff (by omega)).mp hb.1
    obtain ⟨b, hb', rfl⟩ := (blw_iff (by omega)).mp hb.2
    rw [q_cl (by omega)]
    exact h.up (by rw [bnd_8 (by omega) (by omega)]; exact hb') (by omega)
  · exact h
theorem aSt_wf {len : Nat → Nat} {s : Nat → Int32} (h : wfS len s) (x y : Int32) : wfS len (aSt s x y).2 := by
  unfold aSt
  split
  · rename_i hb
    rw [Bool.and_eq_true] at hb
    obtain ⟨a, ha, rfl⟩ := (blw_iff (by omega)).mp hb.1
    rw [q_cl (by omega)]
    split
    · exact h
    · split
      · exact h
      · rename_i h1 h2
        have h3 : blw (s (8 + a) + y) 10 = true := by
          unfold blw
          have := (z_gt (y := s (8 + a) + y) (n := 9) (by omega))
          rw [decide_eq_true h1, decide_eq_true (Decidable.not_not.mp (fun z => h2 (this.mpr z)))]
          rfl
        obtain ⟨b, hb', hb2⟩ := (blw_iff (by omega)).mp h3
        rw [hb2]
        exact h.up (by rw [bnd_8 (by omega) (by omega)]; exact hb') (by omega)
  · exact h
theorem xor_lt {a n i : Nat} (ha : a < 2 ^ n) (hi : i < n) : a ^^^ 2 ^ i < 2 ^ n := Nat.xor_lt_two_pow ha (Nat.pow_lt_pow_right (by decide) hi)
theorem pcn_len : ∀ n, n ≤ 8 → ∀ u, u < 2 ^ n → pcn u ≤ n := by
  have : ∀ n, n < 9 → ∀ u, u < 2 ^ n → pcn u ≤ n := by decide +kernel
  exact fun n hn => this n (by omega)
theorem pw8 {n : Nat} (h : n ≤ 8) : 2 ^ n ≤ 256 := Nat.pow_le_pow_right (by decide) h
theorem aMu_wf {W : Nat} {len : Nat → Nat} {lt : Nat → Nat → Nat} {s : Nat → Int32} (hB : wfB W len lt) (h : wfS len s) (x y : Int32) : wfS len (aMu W len s x y).2 := by
  unfold aMu
  have hW := hB.1
  split
  · rename_i hb
    rw [Bool.and_eq_true] at hb
    obtain ⟨a, ha, rfl⟩ := (blw_iff (by omega)).mp hb.1
    rw [q_cl (by omega)] at hb ⊢
    have hl := (hB.2 a (by omega)).1
    obtain ⟨b, hb', rfl⟩ := (blw_iff (by omega)).mp hb.2
    rw [q_cl (by omega)]
    have hx := xor_lt (h.u (w := a) (by omega)).2 hb'
    have h8 := pw8 hl
    split
    · exact h
    · exact h.up (by unfold bnd; rw [if_pos (by omega)]; exact hx) (by omega)
  · exact h
section AC
variable {h : Bool × Nat × Nat} {I : Nat → Nat → Int32} {L : Nat → Nat → Int64} {W : Nat} {len : Nat → Nat} {lt : Nat → Nat → Nat}
theorem c_in0 (d : Nat) {x : Int32} {k : Int64} {n : Nat} (hk : k = (nI n).toInt64) (hn : n < 2147483647) : ev_do (d + 1) M_Mo_in [.long x.toInt64, .long 0, .long k] (ev_mk h I L) = ev_ri (fl (blw x (n + 1))) (ev_mk h I L) := by
  have e := c_Mo_in d x 0 (nI n) h I L
  rw [show (0 : Int32).toInt64 = 0 by decide] at e
  rw [hk, e]
  congr 1
  unfold blw
  by_cases h1 : x < 0
  · rw [if_neg (fun z => z.1 h1), decide_eq_false (fun z => z h1)]; rfl
  · by_cases h2 : x < nI (n + 1)
    · rw [if_pos ⟨h1, fun z => (z_gt hn).mp z h2⟩, decide_eq_true h1, decide_eq_true h2]; rfl
    · rw [if_neg (fun z => z.2 ((z_gt hn).mpr h2)), decide_eq_true h1, decide_eq_false h2]; rfl
theorem c_in7 (d : Nat) {x : Int32} : ev_do (d + 1) M_Mo_in [.long x.toInt64, .long 0, .long 7] (ev_mk h I L) = ev_ri (fl (blw x 8)) (ev_mk h I L) := c_in0 d (n := 7) (by decide) (by omega)
theorem c_in9 (d : Nat) {x : Int32} : ev_do (d + 1) M_Mo_in [.long x.toInt64, .long 0, .long 9] (ev_mk h I L) = ev_ri (fl (blw x 10)) (ev_mk h I L) := c_in0 d (n := 9) (by decide) (by omega)
theorem c_in60 (d : Nat) {x : Int32} : ev_do (d + 1) M_Mo_in [.long x.toInt64, .long 0, .long 60] (ev_mk h I L) = ev_ri (fl (blw x 61)) (ev_mk h I L) := c_in0 d (n := 60) (by decide) (by omega)
theorem c_in99 (d : Nat) {x : Int32} : ev_do (d + 1) M_Mo_in [.long x.toInt64, .long 0, .long 99] (ev_mk h I L) = ev_ri (fl (blw x 100)) (ev_mk h I L) := c_in0 d (n := 99) (by decide) (by omega)
theorem c_in255 (d : Nat) {x : Int32} : ev_do (d + 1) M_Mo_in [.long x.toInt64, .long 0, .long 255] (ev_mk h I L) = ev_ri (fl (blw x 256)) (ev_mk h I L) := c_in0 d (n := 255) (by decide) (by omega)
theorem c_in2 (d : Nat) {x : Int32} : ev_do (d + 1) M_Mo_in [.long x.toInt64, .long 0, .long 2] (ev_mk h I L) = ev_ri (fl (blw x 3)) (ev_mk h I L) := c_in0 d (n := 2) (by decide) (by omega)
theorem c_in4 (d : Nat) {x : Int32} : ev_do (d + 1) M_Mo_in [.long x.toInt64, .long 0, .long 4] (ev_mk h I L) = ev_ri (fl (blw x 5)) (ev_mk h I L) := c_in0 d (n := 4) (by decide) (by omega)
theorem c_in5 (d : Nat) {x : Int32} : ev_do (d + 1) M_Mo_in [.long x.toInt64, .long 0, .long 5] (ev_mk h I L) = ev_ri (fl (blw x 6)) (ev_mk h I L) := c_in0 d (n := 5) (by decide) (by omega)
theorem c_in3 (d : Nat) {x : Int32} : ev_do (d + 1) M_Mo_in [.long x.toInt64, .long 0, .long 3] (ev_mk h I L) = ev_ri (fl (blw x 4)) (ev_mk h I L) := c_in0 d (n := 3) (by decide) (by omega)
theorem c_in8 (d : Nat) {x : Int32} : ev_do (d + 1) M_Mo_in [.long x.toInt64, .long 0, .long 8] (ev_mk h I L) = ev_ri (fl (blw x 9)) (ev_mk h I L) := c_in0 d (n := 8) (by decide) (by omega)
theorem c_in10 (d : Nat) {x : Int32} : ev_do (d + 1) M_Mo_in [.long x.toInt64, .long 0, .long 10] (ev_mk h I L) = ev_ri (fl (blw x 11)) (ev_mk h I L) := c_in0 d (n := 10) (by decide) (by omega)
theorem c_in20 (d : Nat) {x : Int32} : ev_do (d + 1) M_Mo_in [.long x.toInt64, .long 0, .long 20] (ev_mk h I L) = ev_ri (fl (blw x 21)) (ev_mk h I L) := c_in0 d (n := 20) (by decide) (by omega)
theorem c_in1 (d : Nat) {x : Int32} : ev_do (d + 1) M_Mo_in [.long x.toInt64, .long 0, .long 1] (ev_mk h I L) = ev_ri (fl (blw x 2)) (ev_mk h I L) := c_in0 d (n := 1) (by decide) (by omega)
theorem c_inm (d : Nat) {x : Int32} {n : Nat} (hn : n < 2147483647) : ev_do (d + 1) M_Mo_in [.long x.toInt64, .long 0, .long ((nI n - 1).toInt64)] (ev_mk h I L) = ev_ri (fl (blw x n)) (ev_mk h I L) := by
  have e := c_Mo_in d x 0 (nI n - 1) h I L
  rw [show (0 : Int32).toInt64 = 0 by decide] at e
  rw [e]
  congr 1
  unfold blw
  by_cases h1 : x < 0
  · rw [if_neg (fun z => z.1 h1), decide_eq_false (fun z => z h1)]; rfl
  · by_cases h2 : x < nI n
    · rw [if_pos ⟨h1, fun z => (m1_le hn h1).mp z h2⟩, decide_eq_true h1, decide_eq_true h2]; rfl
    · rw [if_neg (fun z => z.2 ((m1_le hn h1).mpr h2)), decide_eq_true h1, decide_eq_false h2]; rfl
theorem c_SL_isLetter (d : Nat) {x : Int32} : ev_do (d + 1) M_SL_isLetter [.int x] (ev_mk h I L) = ev_ri (fl (blw x 8)) (ev_mk h I L) := by
  rw [e_SL_isLetter_0]
  unfold blw
  by_cases h1 : x < 0
  · rw [if_pos h1, decide_eq_false (fun z => z h1)]; rfl
  · rw [if_neg h1, decide_eq_true h1]
    by_cases h2 : x < 8
    · rw [if_pos h2, decide_eq_true (show x < nI 8 from h2)]; rfl
    · rw [if_neg h2, decide_eq_false (show ¬ x < nI 8 from h2)]; rfl
theorem c_Mo_isLetter (d : Nat) {x : Int32} : ev_do (d + 2) M_Mo_isLetter [.int x] (ev_mk h I L) = ev_ri (fl (blw x 8)) (ev_mk h I L) := by
  rw [e_Mo_isLetter_0, c_in7, k_I, k_1, k_2, k_3, if_pos (fl_fit _)]
theorem blw_f {x : Int32} {n : Nat} (h : blw x n = false) : x < 0 ∨ (¬ x < 0 ∧ ¬ x < nI n) := by
  unfold blw at h
  by_cases h1 : x < 0
  · exact Or.inl h1
  · refine Or.inr ⟨h1, fun z => ?_⟩
    rw [decide_eq_true h1, decide_eq_true z] at h
    exact absurd h (by decide)
/-- a refusal as the class asks it: below 0, or above the most -/
theorem r_two {α : Type} {x : Int32} {n : Nat} (hn : n < 2147483647) {a b : α} : (if x < 0 then a else if nI n < x then a else b) = if blw x (n + 1) = true then b else a := by
  by_cases h1 : x < 0
  · rw [if_pos h1, if_neg (by unfold blw; rw [decide_eq_false (fun z => z h1)]; simp)]
  · rw [if_neg h1]
    by_cases h2 : x < nI (n + 1)
    · rw [if_neg (fun z => (z_gt hn).mp z h2), if_pos (by unfold blw; rw [decide_eq_true h1, decide_eq_true h2]; rfl)]
    · rw [if_pos ((z_gt hn).mpr h2), if_neg (by unfold blw; rw [decide_eq_true h1, decide_eq_false h2]; simp)]
theorem cSt.upo {c j : Nat} {s : Nat → Int32} {v : Int32} (hS : cSt c I s) (hj : j < 8) : cSt c (ev_up I (c + 3) j v) (upS s (16 + j) v) := by
  obtain ⟨h1, h2, h3, h4⟩ := hS
  refine ⟨fun w hw => ⟨?_, ?_, ?_⟩, ?_, ?_, ?_⟩
  · rw [u_c (by omega), upS_no (by omega)]; exact (h1 w hw).1
  · rw [u_c (by omega), upS_no (by omega)]; exact (h1 w hw).2.1
  · by_cases e : w = j
    · subst e; rw [u_at, upS_at]
    · rw [u_j e, upS_no (by omega)]; exact (h1 w hw).2.2
  · rw [u_c (by omega), upS_no (by omega)]; exact h2
  · rw [u_c (by omega), upS_no (by omega)]; exact h3
  · rw [u_c (by omega), upS_no (by omega)]; exact h4
theorem cSt.upm {c j : Nat} {s : Nat → Int32} {v : Int32} (hS : cSt c I s) (hj : j < 8) : cSt c (ev_up I (c + 2) j v) (upS s (8 + j) v) := by
  obtain ⟨h1, h2, h3, h4⟩ := hS
  refine ⟨fun w hw => ⟨?_, ?_, ?_⟩, ?_, ?_, ?_⟩
  · rw [u_c (by omega), upS_no (by omega)]; exact (h1 w hw).1
  · by_cases e : w = j
    · subst e; rw [u_at, upS_at]
    · rw [u_j e, upS_no (by omega)]; exact (h1 w hw).2.1
  · rw [u_c (by omega), upS_no (by omega)]; exact (h1 w hw).2.2
  · rw [u_c (by omega), upS_no (by omega)]; exact h2
  · rw [u_c (by omega), upS_no (by omega)]; exact h3
  · rw [u_c (by omega), upS_no (by omega)]; exact h4
theorem cSt.upu {c j : Nat} {s : Nat → Int32} {v : Int32} (hS : cSt c I s) (hj : j < 8) : cSt c (ev_up I (c + 1) j v) (upS s j v) := by
  obtain ⟨h1, h2, h3, h4⟩ := hS
  refine ⟨fun w hw => ⟨?_, ?_, ?_⟩, ?_, ?_, ?_⟩
  · by_cases e : w = j
    · subst e; rw [u_at, upS_at]
    · rw [u_j e, upS_no (by omega)]; exact (h1 w hw).1
  · rw [u_c (by omega), upS_no (by omega)]; exact (h1 w hw).2.1
  · rw [u_c (by omega), upS_no (by omega)]; exact (h1 w hw).2.2
  · rw [u_c (by omega), upS_no (by omega)]; exact h2
  · rw [u_c (by omega), upS_no (by omega)]; exact h3
  · rw [u_c (by omega), upS_no (by omega)]; exact h4
theorem mSt.up {c j : Nat} {s : Nat → Int32} {v : Int32} (hS : mSt c 0 I s) : mSt c 0 (ev_up I c j v) (upS s j v) := by
  intro k hk
  rw [Nat.zero_add]
  by_cases e : k = j
  · subst e; rw [u_at, upS_at]
  · have := hS k hk
    rw [Nat.zero_add] at this
    rw [u_j e, upS_no e, this]
theorem mSt.at {c j : Nat} {s : Nat → Int32} (hS : mSt c 0 I s) (hj : j < 27) : I c j = s j := by
  have := hS j hj
  rwa [Nat.zero_add] at this
theorem c_putOffer (d : Nat) {c : Nat} {s : Nat → Int32} {x y : Int32} (hc : c = 17 ∨ c = 21) (hS : cSt c I s) : ∃ I', ev_do (d + 2) M_State_putOffer [.ref c, .int x, .int y] (ev_mk h I L) = ev_ri (aOf s x y).1 (ev_mk h I' L) ∧ exc [c + 3] I I' ∧ cSt c I' (aOf s x y).2 := by
  rw [e_State_putOffer_0 _ _ _ hc, c_SL_isLetter, k_I, k_1, k_2, k_3]
  unfold aOf
  cases hx : blw x 8 with
  | false => exact ⟨I, by rw [if_pos (show fl false = 0 from rfl)]; rfl, exc.rf, hS⟩
  | true =>
    obtain ⟨a, ha, rfl⟩ := (blw_iff (by omega)).mp hx
    rw [if_neg (show ¬ fl true = 0 by decide), show (9 : Int32) = nI 9 from rfl, r_two (by omega)]
    cases hy : blw y (9 + 1) with
    | false => exact ⟨I, by rw [if_neg (by decide)]; rfl, exc.rf, hS⟩
    | true =>
      refine ⟨ev_up I (c + 3) a y, ?_, exc.rf.up (by simp), ?_⟩
      · simp (disch := first | omega | assumption) only [(hS.1 a ha).2.2, Bool.and_self, k_I, k_L, k_V, k_1, k_2, k_3, q_cl, z_in, z_lt_t, z_lt_f, z_eq_t, z_eq_f, q_add, q_sub, q_mul, z_tt, z_bit, z_shl, u_at, u_c, u_j, fa_or, z_fl, z_flf, eq_self, ↓reduceIte, z_0, z_1, z_2, z_3, z_4, z_5, z_6, z_7, z_8, z_9, z_10, z_12, z_15, z_16, z_24, z_27, z_40, z_60, z_79, z_80, z_99, z_255, z_256, z_405, z_432, z_9999, z_1000000]
      · simp (disch := first | omega | assumption) only [Bool.and_self, k_I, k_L, k_V, k_1, k_2, k_3, q_cl, z_in, z_lt_t, z_lt_f, z_eq_t, z_eq_f, q_add, q_sub, q_mul, z_tt, z_bit, z_shl, u_at, u_c, u_j, fa_or, z_fl, z_flf, eq_self, ↓reduceIte, z_0, z_1, z_2, z_3, z_4, z_5, z_6, z_7, z_8, z_9, z_10, z_12, z_15, z_16, z_24, z_27, z_40, z_60, z_79, z_80, z_99, z_255, z_256, z_405, z_432, z_9999, z_1000000]
        exact hS.upo ha
theorem c_Mo_offers (d : Nat) {c : Nat} {s : Nat → Int32} {x y : Int32} (hc : c = 143 ∨ c = 144) (hS : mSt c 0 I s) : ∃ I', ev_do (d + 3) M_Mo_offers [.ref 139, .ref c, .int x, .int y] (ev_mk h I L) = ev_ri (aOf s x y).1 (ev_mk h I' L) ∧ exc [c] I I' ∧ mSt c 0 I' (aOf s x y).2 := by
  rw [e_Mo_offers_0 _ _ _ hc, c_Mo_isLetter, k_I, k_1, k_2, k_3]
  unfold aOf
  cases hx : blw x 8 with
  | false => exact ⟨I, by rw [if_pos (show fl false = 0 from rfl)]; rfl, exc.rf, hS⟩
  | true =>
    obtain ⟨a, ha, rfl⟩ := (blw_iff (by omega)).mp hx
    rw [if_neg (show ¬ fl true = 0 by decide), c_in9, k_I, k_1, k_2, k_3]
    cases hy : blw y 10 with
    | false => exact ⟨I, by rw [if_pos (show fl false = 0 from rfl)]; rfl, exc.rf, hS⟩
    | true =>
      have e16 : (16 : Int32) + nI a = nI (16 + a) := q_add 16 a
      refine ⟨ev_up I c (16 + a) y, ?_, exc.rf.up (by simp), ?_⟩
      · rw [e16]
        simp (disch := first | omega | assumption) only [hS.at (j := 16 + a) (by omega), Bool.and_self, Bool.true_eq_false, k_I, k_L, k_V, k_1, k_2, k_3, q_cl, z_in, z_lt_t, z_lt_f, z_eq_t, z_eq_f, q_add, q_sub, q_mul, z_tt, z_bit, z_shl, u_at, u_c, u_j, fa_or, z_fl, z_flf, eq_self, ↓reduceIte, z_0, z_1, z_2, z_3, z_4, z_5, z_6, z_7, z_8, z_9, z_10, z_12, z_15, z_16, z_24, z_27, z_40, z_60, z_79, z_80, z_99, z_255, z_256, z_405, z_432, z_9999, z_1000000]
      · simp (disch := first | omega | assumption) only [Bool.and_self, k_I, k_L, k_V, k_1, k_2, k_3, q_cl, z_in, z_lt_t, z_lt_f, z_eq_t, z_eq_f, q_add, q_sub, q_mul, z_tt, z_bit, z_shl, u_at, u_c, u_j, fa_or, z_fl, z_flf, eq_self, ↓reduceIte, z_0, z_1, z_2, z_3, z_4, z_5, z_6, z_7, z_8, z_9, z_10, z_12, z_15, z_16, z_24, z_27, z_40, z_60, z_79, z_80, z_99, z_255, z_256, z_405, z_432, z_9999, z_1000000]
        exact hS.up
theorem c_stir (d : Nat) {s : Nat → Int32} {x y : Int32} (hS : cSt 17 I s) : ∃ I', ev_do (d + 2) M_State_stir [.ref 17, .int x, .int y] (ev_mk h I L) = ev_ri (aSt s x y).1 (ev_mk h I' L) ∧ exc [19] I I' ∧ cSt 17 I' (aSt s x y).2 := by
  rw [e_State_stir_0, c_SL_isLetter, k_I, k_1, k_2, k_3]
  unfold aSt
  cases hx : blw x 8 with
  | false => exact ⟨I, by rw [if_pos (show fl false = 0 from rfl)]; rfl, exc.rf, hS⟩
  | true =>
    obtain ⟨a, ha, rfl⟩ := (blw_iff (by omega)).mp hx
    rw [if_neg (show ¬ fl true = 0 by decide), q_in (by omega), q_cl (by omega)]
    have hm := (hS.1 a ha).2.1
    rw [show 17 + 2 = 19 from rfl] at hm
    rw [hm]
    by_cases y0 : y = 0
    · exact ⟨I, by rw [if_pos y0, decide_eq_true y0]; simp, exc.rf, by rw [decide_eq_true y0]; simpa using hS⟩
    · rw [if_neg y0]
      by_cases y1 : y < -9
      · exact ⟨I, by rw [if_pos y1, decide_eq_true y1]; simp, exc.rf, by rw [decide_eq_true y1]; simpa using hS⟩
      · rw [if_neg y1]
        by_cases y2 : 9 < y
        · exact ⟨I, by rw [if_pos y2, decide_eq_true y2]; simp, exc.rf, by rw [decide_eq_true y2]; simpa using hS⟩
        · rw [if_neg y2, if_pos (by simpa using ha), decide_eq_false y0, decide_eq_false y1, decide_eq_false y2]
          rw [if_pos (c := (true && (!false && !false && !false)) = true) rfl]
          by_cases m1 : s (8 + a) + y < 0
          · exact ⟨I, by rw [if_pos m1, if_pos m1], exc.rf, by rw [if_pos m1]; exact hS⟩
          · rw [if_neg m1, if_neg m1]
            by_cases m2 : 9 < s (8 + a) + y
            · exact ⟨I, by rw [if_pos m2, if_pos m2], exc.rf, by rw [if_pos m2]; exact hS⟩
            · rw [if_neg m2, if_neg m2, if_pos (by simpa using ha)]
              exact ⟨_, rfl, exc.rf.up (by simp), hS.upm ha⟩
theorem c_Mo_stirsOne (d : Nat) {s : Nat → Int32} {x y : Int32} (hS : mSt 143 0 I s) : ∃ I', ev_do (d + 3) M_Mo_stirsOne [.ref 139, .int x, .int y] (ev_mk h I L) = ev_ri (aSt s x y).1 (ev_mk h I' L) ∧ exc [143] I I' ∧ mSt 143 0 I' (aSt s x y).2 := by
  rw [e_Mo_stirsOne_0, c_Mo_isLetter, k_I, k_1, k_2, k_3]
  unfold aSt
  cases hx : blw x 8 with
  | false => exact ⟨I, by rw [if_pos (show fl false = 0 from rfl)]; rfl, exc.rf, hS⟩
  | true =>
    obtain ⟨a, ha, rfl⟩ := (blw_iff (by omega)).mp hx
    have e8 : (8 : Int32) + nI a = nI (8 + a) := q_add 8 a
    have e := c_Mo_in (d + 1) y (-9) 9 h I L
    rw [show (-9 : Int32).toInt64 = -9 by decide, show (9 : Int32).toInt64 = 9 by decide] at e
    rw [if_neg (show ¬ fl true = 0 by decide), e, k_I, k_1, k_2, k_3, e8, q_in (by omega), q_cl (by omega), q_cl (by omega), hS.at (j := 8 + a) (by omega)]
    by_cases y1 : y < -9
    · exact ⟨I, by rw [if_neg (c := ¬ y < -9 ∧ ¬ 9 < y) (fun z => z.1 y1), if_pos rfl, decide_eq_true y1]; simp, exc.rf, by rw [decide_eq_true y1]; simpa using hS⟩
    · by_cases y2 : 9 < y
      · exact ⟨I, by rw [if_neg (c := ¬ y < -9 ∧ ¬ 9 < y) (fun z => z.2 y2), if_pos rfl, decide_eq_true y2]; simp, exc.rf, by rw [decide_eq_true y2]; simpa using hS⟩
      · rw [if_pos (c := ¬ y < -9 ∧ ¬ 9 < y) ⟨y1, y2⟩, if_neg (show ¬ (1 : Int32) = 0 by decide)]
        by_cases y0 : y = 0
        · exact ⟨I, by rw [if_pos y0, decide_eq_true y0]; simp, exc.rf, by rw [decide_eq_true y0]; simpa using hS⟩
        · rw [if_neg y0, if_pos (by simp <;> omega), decide_eq_false y0, decide_eq_false y1, decide_eq_false y2, c_in9, k_I, k_1, k_2, k_3]
          rw [if_pos (c := (true && (!false && !false && !false)) = true) rfl]
          by_cases m1 : s (8 + a) + y < 0
          · refine ⟨I, ?_, exc.rf, by rw [if_pos m1]; exact hS⟩
            rw [show blw (s (8 + a) + y) 10 = false by unfold blw; rw [decide_eq_false (fun z => z m1)]; rfl, if_pos (show fl false = 0 from rfl), if_pos m1, if_pos m1]
          · rw [if_neg m1, if_neg m1]
            by_cases m2 : 9 < s (8 + a) + y
            · refine ⟨I, ?_, exc.rf, by rw [if_pos m2]; exact hS⟩
              rw [show blw (s (8 + a) + y) 10 = false by unfold blw; rw [decide_eq_false (p := s (8 + a) + y < nI 10) ((z_gt (n := 9) (by omega)).mp m2), Bool.and_false], if_pos (show fl false = 0 from rfl), if_pos m2]
            · rw [if_neg m2]
              refine ⟨_, ?_, exc.rf.up (by simp), hS.up⟩
              rw [show blw (s (8 + a) + y) 10 = true by unfold blw; rw [decide_eq_true m1, decide_eq_true (p := s (8 + a) + y < nI 10) (Decidable.not_not.mp (fun z => m2 ((z_gt (n := 9) (by omega)).mpr z)))]; rfl, if_neg (show ¬ fl true = 0 by decide), if_pos (by simp <;> omega)]
theorem c_hasSign (d : Nat) (hB : bkC I W len lt) {x y : Int32} : ev_do (d + 2) M_Book_hasSign [.ref 5, .int x, .int y] (ev_mk h I L) = ev_ri (fl (blw x W && blw y (len x.toNatClampNeg))) (ev_mk h I L) := by
  have hW := hB.2.1
  rw [e_Book_hasSign_0, c_Book_has d hB.1, k_I, k_1, k_2, k_3]
  cases hx : blw x W with
  | false => rw [if_pos (show fl false = 0 from rfl)]; rfl
  | true =>
    obtain ⟨a, ha, rfl⟩ := (blw_iff (by omega)).mp hx
    rw [if_neg (show ¬ fl true = 0 by decide), q_in (by omega), if_pos (c := decide (a < 8) = true) (by simp <;> omega), q_cl (by omega), (hB.2.2 a (by omega)).1]
    unfold blw
    by_cases h1 : y < 0
    · rw [if_pos h1, decide_eq_false (fun z => z h1)]; rfl
    · rw [if_neg h1, decide_eq_true h1]
      by_cases h2 : y < nI (len a)
      · rw [if_pos h2, decide_eq_true h2]; rfl
      · rw [if_neg h2, decide_eq_false h2]; rfl
theorem c_mute (d : Nat) (hB : bkC I W len lt) {c : Nat} {s : Nat → Int32} {x y : Int32} (hc : c = 17 ∨ c = 21) (hS : cSt c I s) (hw : wfS len s) : ∃ I', ev_do (d + 3) M_Book_mute [.ref 5, .ref c, .int x, .int y] (ev_mk h I L) = ev_ri (aMu W len s x y).1 (ev_mk h I' L) ∧ exc [c + 1] I I' ∧ cSt c I' (aMu W len s x y).2 := by
  have hW := hB.2.1
  rw [e_Book_mute_0 _ _ _ hc, c_hasSign d hB, k_I, k_1, k_2, k_3]
  unfold aMu
  cases hxy : blw x W && blw y (len x.toNatClampNeg) with
  | false => exact ⟨I, by rw [if_pos (show fl false = 0 from rfl)]; rfl, exc.rf, hS⟩
  | true =>
    rw [Bool.and_eq_true] at hxy
    obtain ⟨a, ha, rfl⟩ := (blw_iff (by omega)).mp hxy.1
    rw [q_cl (by omega)] at hxy ⊢
    obtain ⟨l1, l2, -⟩ := hB.2.2 a (by omega)
    obtain ⟨b, hb, rfl⟩ := (blw_iff (by omega)).mp hxy.2
    have hua := hw.u (w := a) (by omega)
    have hx := xor_lt hua.2 hb
    have h8 := pw8 l2
    have hp := pcn_len (len a) l2 _ hx
    have hI : I (c + 1) a = nI (uO s a) := ((hS.1 a (by omega)).1).trans hua.1
    have esh : (1 : Int32) <<< (nI b &&& 31) = nI (2 ^ b) := z_shl (by omega)
    rw [if_neg (show ¬ fl true = 0 by decide), q_in (by omega), if_pos (by simp <;> omega), if_pos (by simp <;> omega), hI, esh, nx_xor, c_bitCount (d + 1) (by omega), k_I, k_1, k_2, k_3, l1, q_sub hp, q_cl (by omega)]
    have e0 : nI (len a - pcn (uO s a ^^^ 2 ^ b)) = 0 ↔ pcn (uO s a ^^^ 2 ^ b) = len a := (q_eq (b := 0) (by omega) (by omega)).trans (by omega)
    rw [if_pos (c := true = true) rfl]
    by_cases p : pcn (uO s a ^^^ 2 ^ b) = len a
    · exact ⟨I, by rw [if_pos (e0.mpr p), if_pos p], exc.rf, by rw [if_pos p]; exact hS⟩
    · rw [if_neg (fun z => p (e0.mp z)), if_neg p, if_pos (by simp <;> omega)]
      exact ⟨_, rfl, exc.rf.up (by simp), hS.upu (by omega)⟩
theorem c_Mo_mutesOne (d : Nat) (hB : bkM I W len lt) {c : Nat} {s : Nat → Int32} {x y : Int32} (hc : c = 143 ∨ c = 144) (hS : mSt c 0 I s) (hw : wfS len s) : ∃ I', ev_do (d + 3) M_Mo_mutesOne [.ref 139, .ref c, .int x, .int y] (ev_mk h I L) = ev_ri (aMu W len s x y).1 (ev_mk h I' L) ∧ exc [c] I I' ∧ mSt c 0 I' (aMu W len s x y).2 := by
  have hW := hB.2.1
  rw [e_Mo_mutesOne_0 _ _ _ hc, c_Mo_isWord d hB.1 hW, k_I, k_1, k_2, k_3]
  unfold aMu
  cases hx : blw x W with
  | false => exact ⟨I, by rw [if_pos (show fl false = 0 from rfl)]; rfl, exc.rf, hS⟩
  | true =>
    obtain ⟨a, ha, rfl⟩ := (blw_iff (by omega)).mp hx
    obtain ⟨l1, l2, -⟩ := hB.2.2 a (by omega)
    rw [if_neg (show ¬ fl true = 0 by decide), q_in (by omega), if_pos (by simp <;> omega), q_cl (by omega), l1, c_inm (d + 1) (by omega), k_I, k_1, k_2, k_3]
    cases hy : blw y (len a) with
    | false => exact ⟨I, by rw [if_pos (show fl false = 0 from rfl)]; rfl, exc.rf, hS⟩
    | true =>
      obtain ⟨b, hb, rfl⟩ := (blw_iff (by omega)).mp hy
      have hua := hw.u (w := a) (by omega)
      have hx := xor_lt hua.2 hb
      have h8 := pw8 l2
      have hp := pcn_len (len a) l2 _ hx
      have hI : I c a = nI (uO s a) := (hS.at (by omega)).trans hua.1
      have esh : (1 : Int32) <<< (nI b &&& 31) = nI (2 ^ b) := z_shl (by omega)
      have hc142 : (142 : Nat) ≠ c := by omega
      rw [if_neg (show ¬ fl true = 0 by decide), q_in (n := 27) (by omega), if_pos (by simp <;> omega), hI, esh, nx_xor, c_bitCount (d + 1) (by omega), k_I, k_1, k_2, k_3, if_pos (by simp <;> omega), l1, q_cl (by omega), if_pos (c := (true && true) = true) rfl]
      have e0 : nI (pcn (uO s a ^^^ 2 ^ b)) = nI (len a) ↔ pcn (uO s a ^^^ 2 ^ b) = len a := q_eq (by omega) (by omega)
      by_cases p : pcn (uO s a ^^^ 2 ^ b) = len a
      · exact ⟨I, by rw [if_pos (e0.mpr p), if_pos p], exc.rf, by rw [if_pos p]; exact hS⟩
      · rw [if_neg (fun z => p (e0.mp z)), if_neg p, if_pos (by simp <;> omega), if_pos (by simp <;> omega), c_bitCount (d + 1) (by omega), k_I, k_1, k_2, k_3, u_c hc142, l1, q_sub hp]
        exact ⟨_, rfl, exc.rf.up (by simp), hS.up⟩
end AC
