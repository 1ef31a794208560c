/-! Loops, and rows of small numbers for simp. -/
theorem lpE {σ : Type} {F : Nat → σ → Option ev_R} (P : Nat → σ → Prop) (R : Option ev_R → Prop) (n : Nat) (step : ∀ i s, i < n → P i s → (∃ s', F i s = F (i + 1) s' ∧ P (i + 1) s') ∨ R (F i s)) (fin : ∀ s, P n s → R (F n s)) : ∀ i, i ≤ n → ∀ s, P i s → R (F i s) := by
  intro i hi
  obtain ⟨m, hm⟩ := Nat.exists_eq_add_of_le hi
  induction m generalizing i with
  | zero => intro s hs; rw [Nat.add_zero] at hm; subst hm; exact fin s hs
  | succ m ih =>
    intro s hs
    rcases step i s (by omega) hs with ⟨s', h1, h2⟩ | h1
    · rw [h1]; exact ih (i + 1) (by omega) (by omega) s' h2
    · exact h1
theorem lpF {σ : Type} {F : Nat → σ → Option ev_R} (P : Nat → σ → Prop) (n : Nat) (step : ∀ i s, i < n → P i s → ∃ s', F i s = F (i + 1) s' ∧ P (i + 1) s') : ∀ s, P 0 s → ∃ s', F 0 s = F n s' ∧ P n s' := by
  intro s hs
  exact lpE (F := F) P (fun o => ∃ s', o = F n s' ∧ P n s') n (fun i s hi hp => Or.inl (step i s hi hp)) (fun s hs => ⟨s, rfl, hs⟩) 0 (by omega) s hs
theorem lpX {σ τ : Type} {F : Nat → σ → Option ev_R} (P : Nat → σ → Prop) {res : τ → Option ev_R} {Q : τ → Prop} (n : Nat) (step : ∀ i s, i < n → P i s → (∃ s', F i s = F (i + 1) s' ∧ P (i + 1) s') ∨ ∃ t, F i s = res t ∧ Q t) (fin : ∀ s, P n s → ∃ t, F n s = res t ∧ Q t) : ∀ i, i ≤ n → ∀ s, P i s → ∃ t, F i s = res t ∧ Q t := lpE (F := F) P (fun o => ∃ t, o = res t ∧ Q t) n step fin
theorem z_0 : (0 : Int32) = nI 0 := rfl
theorem z_1 : (1 : Int32) = nI 1 := rfl
theorem z_2 : (2 : Int32) = nI 2 := rfl
theorem z_3 : (3 : Int32) = nI 3 := rfl
theorem z_4 : (4 : Int32) = nI 4 := rfl
theorem z_5 : (5 : Int32) = nI 5 := rfl
theorem z_6 : (6 : Int32) = nI 6 := rfl
theorem z_7 : (7 : Int32) = nI 7 := rfl
theorem z_8 : (8 : Int32) = nI 8 := rfl
theorem z_9 : (9 : Int32) = nI 9 := rfl
theorem z_10 : (10 : Int32) = nI 10 := rfl
theorem z_12 : (12 : Int32) = nI 12 := rfl
theorem z_15 : (15 : Int32) = nI 15 := rfl
theorem z_16 : (16 : Int32) = nI 16 := rfl
theorem z_24 : (24 : Int32) = nI 24 := rfl
theorem z_27 : (27 : Int32) = nI 27 := rfl
theorem z_40 : (40 : Int32) = nI 40 := rfl
theorem z_60 : (60 : Int32) = nI 60 := rfl
theorem z_79 : (79 : Int32) = nI 79 := rfl
theorem z_80 : (80 : Int32) = nI 80 := rfl
theorem z_99 : (99 : Int32) = nI 99 := rfl
theorem z_255 : (255 : Int32) = nI 255 := rfl
theorem z_256 : (256 : Int32) = nI 256 := rfl
theorem z_405 : (405 : Int32) = nI 405 := rfl
theorem z_432 : (432 : Int32) = nI 432 := rfl
theorem z_9999 : (9999 : Int32) = nI 9999 := rfl
theorem z_1000000 : (1000000 : Int32) = nI 1000000 := rfl
theorem z_in {a n : Nat} (h : a < n) (hn : n < 2147483648) : ev_in (nI a) n = true := by rw [q_in (by omega)]; simpa using h
theorem z_lt_t {a b : Nat} (h : a < b) (hb : b < 2147483648) : (nI a < nI b) = True := eq_true ((q_lt (by omega) hb).mpr h)
theorem z_lt_f {a b : Nat} (h : b ≤ a) (ha : a < 2147483648) : (nI a < nI b) = False := eq_false (fun z => absurd ((q_lt ha (by omega)).mp z) (by omega))
theorem z_eq_t {a b : Nat} (h : a = b) : (nI a = nI b) = True := eq_true (by rw [h])
theorem z_eq_f {a b : Nat} (h : a ≠ b) (ha : a < 2147483648) (hb : b < 2147483648) : (nI a = nI b) = False := eq_false (fun z => h ((q_eq ha hb).mp z))
theorem z_tt : (true = true) = True := eq_self true
theorem z_bit {n j : Nat} (hj : j < 32) : (nI n >>> (nI j &&& 31)) &&& nI 1 = fl (n.testBit j) := x_bit hj
theorem z_shl {j : Nat} (hj : j < 31) : nI 1 <<< (nI j &&& 31) = nI (2 ^ j) := by
  have := x_sh (j := j) hj true
  rw [if_pos rfl, if_pos rfl] at this
  exact this
theorem z_fl (b : Bool) : (fl b = nI 1) = (b = true) := by cases b <;> simp [fl, nI] <;> decide
theorem z_flf (b : Bool) : (fl b = nI 0) = (b = false) := by cases b <;> simp [fl, nI] <;> decide
/-! A state: 27 ints, 0 .. 7 unsaid, 8 .. 15 moods, 16 .. 23 offers, 24 strike, 25 day, 26 falls. -/
def cSt (c : Nat) (I : Nat → Nat → Int32) (s : Nat → Int32) : Prop := (∀ w, w < 8 → I (c + 1) w = s w ∧ I (c + 2) w = s (8 + w) ∧ I (c + 3) w = s (16 + w)) ∧ I c 3 = s 24 ∧ I c 4 = s 25 ∧ I c 5 = s 26
def mSt (k b : Nat) (I : Nat → Nat → Int32) (s : Nat → Int32) : Prop := ∀ j, j < 27 → I k (b + j) = s j
theorem cSt.ex {ks : List Nat} {c : Nat} {I J : Nat → Nat → Int32} {s : Nat → Int32} (hS : cSt c I s) (hx : exc ks I J) (h0 : c ∉ ks) (h1 : c + 1 ∉ ks) (h2 : c + 2 ∉ ks) (h3 : c + 3 ∉ ks) : cSt c J s := by
  unfold cSt
  rw [hx c h0, hx (c + 1) h1, hx (c + 2) h2, hx (c + 3) h3]
  exact hS
theorem mSt.ex {ks : List Nat} {k b : Nat} {I J : Nat → Nat → Int32} {s : Nat → Int32} (hS : mSt k b I s) (hx : exc ks I J) (h0 : k ∉ ks) : mSt k b J s := by
  unfold mSt
  rw [hx k h0]
  exact hS
theorem cp_in {f : Nat → Nat → Int32} {ks kd j : Nat} (h : j < 8) : ev_cp f ks kd 0 0 8 kd j = f ks j := by
  unfold ev_cp
  rw [if_pos ⟨rfl, by omega, by omega⟩]
  simp
theorem cp_no {f : Nat → Nat → Int32} {ks kd a : Nat} (h : a ≠ kd) : ev_cp f ks kd 0 0 8 a = f a := by
  funext b
  unfold ev_cp
  rw [if_neg (fun z => h z.1)]
theorem u_cf {α : Type} {f : Nat → Nat → α} {k j a : Nat} {v : α} (h : a ≠ k) : ev_up f k j v a = f a := funext fun _ => u_c h
section CS
variable {h : Bool × Nat × Nat} {I : Nat → Nat → Int32} {L : Nat → Nat → Int64}
/-- the store once a state has been copied -/
def cpS (I : Nat → Nat → Int32) (a b : Nat) : Nat → Nat → Int32 := ev_up (ev_up (ev_up (ev_cp (ev_cp (ev_cp I (b + 1) (a + 1) 0 0 8) (b + 2) (a + 2) 0 0 8) (b + 3) (a + 3) 0 0 8) a 3 ((ev_cp (ev_cp (ev_cp I (b + 1) (a + 1) 0 0 8) (b + 2) (a + 2) 0 0 8) (b + 3) (a + 3) 0 0 8) b 3)) a 4 ((ev_cp (ev_cp (ev_cp I (b + 1) (a + 1) 0 0 8) (b + 2) (a + 2) 0 0 8) (b + 3) (a + 3) 0 0 8) b 4)) a 5 ((ev_cp (ev_cp (ev_cp I (b + 1) (a + 1) 0 0 8) (b + 2) (a + 2) 0 0 8) (b + 3) (a + 3) 0 0 8) b 5)
theorem cpS_ex (I : Nat → Nat → Int32) (a b : Nat) : exc [a, a + 1, a + 2, a + 3] I (cpS I a b) := by
  intro k hk
  simp only [List.mem_cons, not_or, List.not_mem_nil, not_false_iff, and_true] at hk
  unfold cpS
  rw [u_cf hk.1, u_cf hk.1, u_cf hk.1, cp_no hk.2.2.2, cp_no hk.2.2.1, cp_no hk.2.1]
theorem cpS_st {a b : Nat} {s : Nat → Int32} (hab : a + 3 < b ∨ b + 3 < a) (hs : cSt b I s) : cSt a (cpS I a b) s := by
  obtain ⟨h1, h2, h3, h4⟩ := hs
  unfold cpS
  refine ⟨fun w hw => ⟨?_, ?_, ?_⟩, ?_, ?_, ?_⟩
  · rw [u_c (by omega), u_c (by omega), u_c (by omega), cp_no (by omega), cp_no (by omega), cp_in hw]
    exact (h1 w hw).1
  · rw [u_c (by omega), u_c (by omega), u_c (by omega), cp_no (by omega), cp_in hw, cp_no (by omega)]
    exact (h1 w hw).2.1
  · rw [u_c (by omega), u_c (by omega), u_c (by omega), cp_in hw, cp_no (by omega), cp_no (by omega)]
    exact (h1 w hw).2.2
  · rw [u_j (by omega), u_j (by omega), u_at, cp_no (by omega), cp_no (by omega), cp_no (by omega)]
    exact h2
  · rw [u_j (by omega), u_at, cp_no (by omega), cp_no (by omega), cp_no (by omega)]
    exact h3
  · rw [u_at, cp_no (by omega), cp_no (by omega), cp_no (by omega)]
    exact h4
/-- a state is copied: into the trial one, into an earlier one (29 + 4 i, i < 18), back -/
theorem c_copyT (d : Nat) : ev_do (d + 1) M_State_copy [.ref 21, .ref 17] (ev_mk h I L) = ev_rn (ev_mk h (cpS I 21 17) L) := e_State_copy_0_v0 d h I L
theorem or18 {i : Nat} (hi : i < 18) : 29 + 4 * i = 29 ∨ 29 + 4 * i = 33 ∨ 29 + 4 * i = 37 ∨ 29 + 4 * i = 41 ∨ 29 + 4 * i = 45 ∨ 29 + 4 * i = 49 ∨ 29 + 4 * i = 53 ∨ 29 + 4 * i = 57 ∨ 29 + 4 * i = 61 ∨ 29 + 4 * i = 65 ∨ 29 + 4 * i = 69 ∨ 29 + 4 * i = 73 ∨ 29 + 4 * i = 77 ∨ 29 + 4 * i = 81 ∨ 29 + 4 * i = 85 ∨ 29 + 4 * i = 89 ∨ 29 + 4 * i = 93 ∨ 29 + 4 * i = 97 := by omega
theorem c_copyP (d : Nat) {i c : Nat} (hi : i < 18) (hc : c = 17 ∨ c = 21) : ev_do (d + 1) M_State_copy [.ref (29 + 4 * i), .ref c] (ev_mk h I L) = ev_rn (ev_mk h (cpS I (29 + 4 * i) c) L) := e_State_copy_0_v1 d (or18 hi) hc h I L
theorem c_copyB (d : Nat) {i : Nat} (hi : i < 18) : ev_do (d + 1) M_State_copy [.ref 17, .ref (29 + 4 * i)] (ev_mk h I L) = ev_rn (ev_mk h (cpS I 17 (29 + 4 * i)) L) := e_State_copy_0_v2 d (or18 hi) h I L
theorem c_Mo_copies (d : Nat) {s : Nat → Int32} (hs : mSt 143 0 I s) : ∃ I', ev_do (d + 1) M_Mo_copies [.ref 139] (ev_mk h I L) = ev_rn (ev_mk h I' L) ∧ exc [144] I I' ∧ mSt 144 0 I' s := by
  rw [e_Mo_copies_0]
  refine lpE (F := fun i J => ev_at d M_Mo_copies 2 [.ref 139, .int (nI i)] [] (ev_mk h J L)) (fun i J => exc [144] I J ∧ ∀ j, j < i → J 144 j = s j) (fun o => ∃ I', o = ev_rn (ev_mk h I' L) ∧ exc [144] I I' ∧ mSt 144 0 I' s) 27 ?_ ?_ 0 (by omega) I ⟨exc.rf, fun j hj => by omega⟩
  · intro i J hi ⟨p1, p2⟩
    refine Or.inl ⟨ev_up J 144 i (J 143 i), ?_, p1.up (by simp), fun j hj => ?_⟩
    · rw [e_Mo_copies_2]; simp (disch := first | omega | assumption) only [k_I, k_L, k_V, k_1, k_2, k_3, q_cl, z_in, z_lt_t, z_lt_f, z_eq_t, z_eq_f, q_add, q_sub, q_mul, z_tt, z_bit, z_shl, u_at, u_c, u_j, fa_or, z_fl, z_flf, eq_self, ↓reduceIte, z_0, z_1, z_2, z_3, z_4, z_5, z_6, z_7, z_8, z_9, z_10, z_12, z_15, z_16, z_24, z_27, z_40, z_60, z_79, z_80, z_99, z_255, z_256, z_405, z_432, z_9999, z_1000000]
    · by_cases e : j = i
      · have := hs i hi
        rw [Nat.zero_add] at this
        rw [e, u_at, p1 143 (by simp), this]
      · rw [u_j e]; exact p2 j (by omega)
  · intro J ⟨p1, p2⟩
    refine ⟨J, ?_, p1, fun j hj => ?_⟩
    · rw [e_Mo_copies_2]; simp (disch := first | omega | assumption) only [k_I, k_L, k_V, k_1, k_2, k_3, q_cl, z_in, z_lt_t, z_lt_f, z_eq_t, z_eq_f, q_add, q_sub, q_mul, z_tt, z_bit, z_shl, u_at, u_c, u_j, fa_or, z_fl, z_flf, eq_self, ↓reduceIte, z_0, z_1, z_2, z_3, z_4, z_5, z_6, z_7, z_8, z_9, z_10, z_12, z_15, z_16, z_24, z_27, z_40, z_60, z_79, z_80, z_99, z_255, z_256, z_405, z_432, z_9999, z_1000000]
    · rw [Nat.zero_add]; exact p2 j hj
end CS
