/-! What can be undone, what is kept. -/
def psh (t : Nat → Int32) (U : Nat → Nat → Int32) : Nat → Nat → Int32 := fun i => if i = 0 then t else U (i - 1)
def uC (I : Nat → Nat → Int32) (b : Nat) (U : Nat → Nat → Int32) : Prop := ∃ a, a < 15 ∧ I 25 3 = nI a ∧ I 25 4 = nI b ∧ b ≤ 15 ∧ ∀ i, i < b → cSt (29 + 4 * ((a + 15 - i) % 15)) I (U i)
def uM (I : Nat → Nat → Int32) (b : Nat) (U : Nat → Nat → Int32) : Prop := I 139 26 = nI b ∧ b ≤ 15 ∧ ∀ i, i < b → mSt 155 (27 * (b - 1 - i)) I (U i)
def kC (I : Nat → Nat → Int32) (kp : Nat → Bool) (K : Nat → Nat → Int32) : Prop := ∀ i, i < 3 → I 28 i = fl (kp i) ∧ (kp i = true → cSt (29 + 4 * (15 + i)) I (K i))
def kM (I : Nat → Nat → Int32) (ch : Nat) (kp : Nat → Bool) (K : Nat → Nat → Int32) : Prop := I 139 4 = nI ch ∧ ∀ i, i < 3 → ∃ (q : Bool) (kc : Nat), I 171 i = fl q ∧ I 172 i = nI kc ∧ kc ≤ ch ∧ kp i = (q && decide (kc = ch)) ∧ (kp i = true → mSt 173 (27 * i) I (K i))
theorem pa_1 : ∀ a, a < 15 → (nI a + 1) - (nI a + 1) / 15 * 15 = nI ((a + 1) % 15) := by decide +kernel
theorem pa_2 : ∀ a, a < 15 → ((nI a + 15) - 1) - ((nI a + 15) - 1) / 15 * 15 = nI ((a + 14) % 15) := by decide +kernel
theorem pa_3 : ∀ a, a < 15 → ev_rv (ev_R0 26 a) = .ref (29 + 4 * a) := by decide +kernel
theorem pa_4 : ∀ i, i < 3 → ev_rv (ev_R0 27 i) = .ref (29 + 4 * (15 + i)) := by decide +kernel
theorem pa_5 : ∀ a, a < 18 → (ev_kd ev_N0 (29 + 4 * a) == (0, 6)) = true := by decide +kernel
theorem rc_st {a : Nat} (ha : a < 18) (t : List Value) (x : Option ev_R) : ev_rc true ev_N0 6 (.ref (29 + 4 * a) :: t) x = x := by
  show (bif (ev_kd ev_N0 (29 + 4 * a) == (0, 6)) || (Nat.beq 6 20 && Nat.beq (ev_kd ev_N0 (29 + 4 * a)).1 10) then x else none) = x
  rw [pa_5 a ha]
  rfl
theorem uC.ex {ks : List Nat} {I J : Nat → Nat → Int32} {b : Nat} {U : Nat → Nat → Int32} (hU : uC I b U) (hx : exc ks I J) (hk : ∀ a, (a = 25 ∨ (29 ≤ a ∧ a < 89)) → a ∉ ks) : uC J b U := by
  obtain ⟨a, h1, h2, h3, h4, h5⟩ := hU
  refine ⟨a, h1, by rw [hx 25 (hk 25 (by omega))]; exact h2, by rw [hx 25 (hk 25 (by omega))]; exact h3, h4, fun i hi => ?_⟩
  have hm : (a + 15 - i) % 15 < 15 := Nat.mod_lt _ (by omega)
  exact (h5 i hi).ex hx (hk _ (by omega)) (hk _ (by omega)) (hk _ (by omega)) (hk _ (by omega))
theorem kC.ex {ks : List Nat} {I J : Nat → Nat → Int32} {kp : Nat → Bool} {K : Nat → Nat → Int32} (hK : kC I kp K) (hx : exc ks I J) (hk : ∀ a, (a = 28 ∨ (89 ≤ a ∧ a < 101)) → a ∉ ks) : kC J kp K := by
  intro i hi
  obtain ⟨h1, h2⟩ := hK i hi
  exact ⟨by rw [hx 28 (hk 28 (by omega))]; exact h1, fun z => (h2 z).ex hx (hk _ (by omega)) (hk _ (by omega)) (hk _ (by omega)) (hk _ (by omega))⟩
section PA
variable {h : Bool × Nat × Nat} {I : Nat → Nat → Int32} {L : Nat → Nat → Int64}
theorem c_remember (d : Nat) {c b : Nat} {U : Nat → Nat → Int32} {t : Nat → Int32} (hc : c = 17 ∨ c = 21) (hU : uC I b U) (ht : cSt c I t) : ∃ I' k, ev_do (d + 2) M_Past_remember [.ref 25, .ref c] (ev_mk h I L) = ev_rn (ev_mk h I' L) ∧ k < 15 ∧ exc [25, 29 + 4 * k, 29 + 4 * k + 1, 29 + 4 * k + 2, 29 + 4 * k + 3] I I' ∧ uC I' (min (b + 1) 15) (psh t U) := by
  obtain ⟨a, h1, h2, h3, h4, h5⟩ := hU
  obtain ⟨k, hk⟩ : ∃ k, k = (a + 1) % 15 := ⟨_, rfl⟩
  have hk15 : k < 15 := by rw [hk]; exact Nat.mod_lt _ (by omega)
  obtain ⟨J, hJ⟩ : ∃ J, J = ev_up I 25 3 (nI k) := ⟨_, rfl⟩
  have xJ : exc [25] I J := by rw [hJ]; exact exc.rf.up (by simp)
  have htJ : cSt c J t := ht.ex xJ (by simp <;> omega) (by simp <;> omega) (by simp <;> omega) (by simp <;> omega)
  have x2 := cpS_ex J (29 + 4 * k) c
  have s2 := cpS_st (I := J) (a := 29 + 4 * k) (by omega) htJ
  have x3 : exc [25, 29 + 4 * k, 29 + 4 * k + 1, 29 + 4 * k + 2, 29 + 4 * k + 3] I (cpS J (29 + 4 * k) c) := (xJ.mono (by simp)).tr (x2.mono (by simp <;> omega))
  have h254 : cpS J (29 + 4 * k) c 25 4 = nI b := by rw [x2 25 (by simp <;> omega), hJ, u_j (by omega)]; exact h3
  have h253 : cpS J (29 + 4 * k) c 25 3 = nI k := by rw [x2 25 (by simp <;> omega), hJ, u_at]
  refine ⟨ev_up (cpS J (29 + 4 * k) c) 25 4 (nI (min (b + 1) 15)), k, ?_, hk15, x3.up (by simp), k, hk15, ?_, u_at _ _ _ _, by omega, fun i hi => ?_⟩
  · rw [e_Past_remember_0 _ hc, h2, pa_1 a h1, ← hk, q_in (by omega), if_pos (by simpa using hk15), q_cl (by omega), pa_3 k hk15, rc_st (by omega), ← hJ, c_copyP d (by omega) hc, k_V, k_1, k_2, k_3, h254, show nI b + 1 = nI (b + 1) from q_add b 1, show (15 : Int32) = nI 15 from rfl]
    by_cases e : 15 < b + 1
    · rw [if_pos ((q_lt (by omega) (by omega)).mpr e), Nat.min_eq_right (by omega)]
    · rw [if_neg (fun z => e ((q_lt (by omega) (by omega)).mp z)), Nat.min_eq_left (by omega)]
  · rw [u_j (by omega)]; exact h253
  · have x4 : exc [25] (cpS J (29 + 4 * k) c) (ev_up (cpS J (29 + 4 * k) c) 25 4 (nI (min (b + 1) 15))) := exc.rf.up (by simp)
    by_cases e : i = 0
    · subst e
      rw [show (k + 15 - 0) % 15 = k by omega]
      exact s2.ex x4 (by simp <;> omega) (by simp <;> omega) (by simp <;> omega) (by simp <;> omega)
    · have e2 : (k + 15 - i) % 15 = (a + 15 - (i - 1)) % 15 := by omega
      have e3 : (k + 15 - i) % 15 ≠ k := by omega
      have hu := h5 (i - 1) (by omega)
      rw [← e2] at hu
      have hm : (k + 15 - i) % 15 < 15 := Nat.mod_lt _ (by omega)
      generalize (k + 15 - i) % 15 = q at *
      rw [show psh t U i = U (i - 1) from if_neg e]
      exact (hu.ex x3 (by simp <;> omega) (by simp <;> omega) (by simp <;> omega) (by simp <;> omega)).ex x4 (by simp <;> omega) (by simp <;> omega) (by simp <;> omega) (by simp <;> omega)
theorem c_bringBack (d : Nat) {b : Nat} {U : Nat → Nat → Int32} (hU : uC I b U) : (b = 0 ∧ ev_do (d + 2) M_Past_bringBack [.ref 25, .ref 17] (ev_mk h I L) = ev_ri 0 (ev_mk h I L)) ∨ (0 < b ∧ ∃ I', ev_do (d + 2) M_Past_bringBack [.ref 25, .ref 17] (ev_mk h I L) = ev_ri 1 (ev_mk h I' L) ∧ exc [17, 18, 19, 20, 25] I I' ∧ cSt 17 I' (U 0) ∧ uC I' (b - 1) (fun i => U (i + 1))) := by
  obtain ⟨a, h1, h2, h3, h4, h5⟩ := hU
  by_cases e : b = 0
  · refine Or.inl ⟨e, ?_⟩
    subst e
    rw [e_Past_bringBack_0, h3, if_pos (show nI 0 = 0 from rfl)]
  · refine Or.inr ⟨by omega, ?_⟩
    have x2 := cpS_ex I 17 (29 + 4 * a)
    have hu0 := h5 0 (by omega)
    rw [show (a + 15 - 0) % 15 = a by omega] at hu0
    have s2 := cpS_st (I := I) (a := 17) (b := 29 + 4 * a) (by omega) hu0
    obtain ⟨J, hJ⟩ : ∃ J, J = cpS I 17 (29 + 4 * a) := ⟨_, rfl⟩
    rw [← hJ] at x2 s2
    have j3 : J 25 3 = nI a := by rw [x2 25 (by simp)]; exact h2
    have j4 : J 25 4 = nI b := by rw [x2 25 (by simp)]; exact h3
    have x4 : exc [25] J (ev_up (ev_up J 25 3 (nI ((a + 14) % 15))) 25 4 (nI (b - 1))) := (exc.rf.up (by simp)).up (by simp)
    refine ⟨ev_up (ev_up J 25 3 (nI ((a + 14) % 15))) 25 4 (nI (b - 1)), ?_, (x2.mono (by simp <;> omega)).tr (x4.mono (by simp)), s2.ex x4 (by simp) (by simp) (by simp) (by simp), (a + 14) % 15, Nat.mod_lt _ (by omega), ?_, u_at _ _ _ _, by omega, fun i hi => ?_⟩
    · rw [e_Past_bringBack_0, h3, if_neg (show ¬ nI b = (0 : Int32) from fun z => e ((q_eq (b := 0) (by omega) (by omega)).mp z)), h2, q_in (by omega), if_pos (by simpa using h1), q_cl (by omega), pa_3 a h1, c_copyB d (by omega), k_V, k_1, k_2, k_3, ← hJ, j3, j4, pa_2 a h1, show nI b - 1 = nI (b - 1) from q_sub (b := 1) (by omega)]
    · rw [u_j (by omega), u_at]
    · have e2 : ((a + 14) % 15 + 15 - i) % 15 = (a + 15 - (i + 1)) % 15 := by omega
      rw [e2]
      have hu := h5 (i + 1) (by omega)
      have hm : (a + 15 - (i + 1)) % 15 < 15 := Nat.mod_lt _ (by omega)
      generalize (a + 15 - (i + 1)) % 15 = q at *
      exact (hu.ex x2 (by simp <;> omega) (by simp <;> omega) (by simp <;> omega) (by simp <;> omega)).ex x4 (by simp <;> omega) (by simp <;> omega) (by simp <;> omega) (by simp <;> omega)
theorem c_keepUnder (d : Nat) {kp : Nat → Bool} {K : Nat → Nat → Int32} {s : Nat → Int32} {x : Int32} (hK : kC I kp K) (hs : cSt 17 I s) : (blw x 3 = false ∧ ev_do (d + 2) M_Past_keepUnder [.ref 25, .int x, .ref 17] (ev_mk h I L) = ev_ri 0 (ev_mk h I L)) ∨ ∃ k I', k < 3 ∧ x = nI k ∧ ev_do (d + 2) M_Past_keepUnder [.ref 25, .int x, .ref 17] (ev_mk h I L) = ev_ri 1 (ev_mk h I' L) ∧ exc [28, 29 + 4 * (15 + k), 29 + 4 * (15 + k) + 1, 29 + 4 * (15 + k) + 2, 29 + 4 * (15 + k) + 3] I I' ∧ kC I' (fun i => if i = k then true else kp i) (fun i => if i = k then s else K i) := by
  cases hx : blw x 3 with
  | false =>
    refine Or.inl ⟨rfl, ?_⟩
    rw [e_Past_keepUnder_0]
    rcases blw_f hx with h1 | ⟨h1, h2⟩
    · rw [if_pos h1]
    · rw [if_neg h1, if_neg (show ¬ x < 3 from h2)]
  | true =>
    obtain ⟨k, hk, rfl⟩ := (blw_iff (by omega)).mp hx
    have x2 := cpS_ex I (29 + 4 * (15 + k)) 17
    have s2 := cpS_st (I := I) (a := 29 + 4 * (15 + k)) (by omega) hs
    obtain ⟨J, hJ⟩ : ∃ J, J = cpS I (29 + 4 * (15 + k)) 17 := ⟨_, rfl⟩
    rw [← hJ] at x2 s2
    have x4 : exc [28] J (ev_up J 28 k 1) := exc.rf.up (by simp)
    refine Or.inr ⟨k, ev_up J 28 k 1, hk, rfl, ?_, (x2.mono (by simp <;> omega)).tr (x4.mono (by simp)), fun i hi => ?_⟩
    · rw [e_Past_keepUnder_0, if_neg (q_nn (by omega)), if_pos (show nI k < (3 : Int32) from (q_lt (b := 3) (by omega) (by omega)).mpr hk), q_in (by omega), if_pos (by simpa using hk), q_cl (by omega), pa_4 k hk, rc_st (by omega), c_copyP d (by omega) (Or.inl rfl), k_V, k_1, k_2, k_3, if_pos (by simpa using hk), ← hJ]
    · show ev_up J 28 k 1 28 i = fl (if i = k then true else kp i) ∧ ((if i = k then true else kp i) = true → cSt (29 + 4 * (15 + i)) (ev_up J 28 k 1) (if i = k then s else K i))
      by_cases e : i = k
      · subst e
        refine ⟨by rw [u_at, if_pos rfl]; rfl, fun _ => ?_⟩
        rw [if_pos rfl]
        exact s2.ex x4 (by simp <;> omega) (by simp <;> omega) (by simp <;> omega) (by simp <;> omega)
      · rw [if_neg e, if_neg e, u_j e, x2 28 (by simp <;> omega)]
        refine ⟨(hK i hi).1, fun z => ?_⟩
        exact (((hK i hi).2 z).ex x2 (by simp <;> omega) (by simp <;> omega) (by simp <;> omega) (by simp <;> omega)).ex x4 (by simp <;> omega) (by simp <;> omega) (by simp <;> omega) (by simp <;> omega)
theorem c_takeUp (d : Nat) {kp : Nat → Bool} {K : Nat → Nat → Int32} {x : Int32} (hK : kC I kp K) : ((blw x 3 && kp x.toNatClampNeg) = false ∧ ev_do (d + 2) M_Past_takeUp [.ref 25, .int x, .ref 17] (ev_mk h I L) = ev_ri 0 (ev_mk h I L)) ∨ ∃ k I', k < 3 ∧ x = nI k ∧ kp k = true ∧ ev_do (d + 2) M_Past_takeUp [.ref 25, .int x, .ref 17] (ev_mk h I L) = ev_ri 1 (ev_mk h I' L) ∧ exc [17, 18, 19, 20, 25] I I' ∧ I' 25 3 = I 25 3 ∧ I' 25 4 = 0 ∧ cSt 17 I' (K k) := by
  cases hx : blw x 3 with
  | false =>
    refine Or.inl ⟨rfl, ?_⟩
    rw [e_Past_takeUp_0]
    rcases blw_f hx with h1 | ⟨h1, h2⟩
    · rw [if_pos h1]
    · rw [if_neg h1, if_neg (show ¬ x < 3 from h2)]
  | true =>
    obtain ⟨k, hk, rfl⟩ := (blw_iff (by omega)).mp hx
    rw [e_Past_takeUp_0, if_neg (q_nn (by omega)), if_pos (show nI k < (3 : Int32) from (q_lt (b := 3) (by omega) (by omega)).mpr hk), q_in (by omega), if_pos (by simpa using hk), q_cl (by omega), (hK k hk).1]
    cases hp : kp k with
    | false => exact Or.inl ⟨rfl, by rw [if_pos (show fl false = 0 from rfl)]⟩
    | true =>
      have x2 := cpS_ex I 17 (29 + 4 * (15 + k))
      have s2 := cpS_st (I := I) (a := 17) (b := 29 + 4 * (15 + k)) (by omega) ((hK k hk).2 hp)
      obtain ⟨J, hJ⟩ : ∃ J, J = cpS I 17 (29 + 4 * (15 + k)) := ⟨_, rfl⟩
      rw [← hJ] at x2 s2
      have x4 : exc [25] J (ev_up J 25 4 0) := exc.rf.up (by simp)
      refine Or.inr ⟨k, ev_up J 25 4 0, hk, rfl, hp, ?_, (x2.mono (by simp <;> omega)).tr (x4.mono (by simp)), ?_, u_at _ _ _ _, s2.ex x4 (by simp) (by simp) (by simp) (by simp)⟩
      · rw [if_neg (show ¬ fl true = 0 by decide), if_pos (by simpa using hk), pa_4 k hk, c_copyB d (by omega), k_V, k_1, k_2, k_3, ← hJ]
      · rw [u_j (by omega), x2 25 (by simp)]
theorem c_forgetAll (d : Nat) : ∃ I', ev_do (d + 1) M_Past_forgetAll [.ref 25] (ev_mk h I L) = ev_rn (ev_mk h I' L) ∧ exc [25, 28] I I' ∧ I' 25 3 = I 25 3 ∧ I' 25 4 = 0 ∧ ∀ i, i < 3 → I' 28 i = 0 := by
  rw [e_Past_forgetAll_0]
  refine lpX (F := fun i J => ev_at d M_Past_forgetAll 7 [.ref 25, .int (nI i)] [] (ev_mk h J L)) (fun i J => exc [28] (ev_up I 25 4 0) J ∧ ∀ j, j < i → J 28 j = 0) 3 ?_ ?_ 0 (by omega) _ ⟨exc.rf, fun j hj => by omega⟩
  · intro i J hi ⟨p1, p2⟩
    refine Or.inl ⟨ev_up J 28 i 0, ?_, p1.up (by simp), fun j hj => ?_⟩
    · rw [e_Past_forgetAll_7]; simp (disch := first | omega | assumption) only [k_I, k_L, k_V, k_1, k_2, k_3, q_cl, z_in, z_lt_t, z_lt_f, z_eq_t, z_eq_f, q_add, q_sub, q_mul, z_tt, z_bit, z_shl, u_at, u_c, u_j, fa_or, z_fl, z_flf, eq_self, ↓reduceIte, z_0, z_1, z_2, z_3, z_4, z_5, z_6, z_7, z_8, z_9, z_10, z_12, z_15, z_16, z_24, z_27, z_40, z_60, z_79, z_80, z_99, z_255, z_256, z_405, z_432, z_9999, z_1000000]
    · by_cases e : j = i
      · rw [e, u_at]
      · rw [u_j e]; exact p2 j (by omega)
  · intro J ⟨p1, p2⟩
    refine ⟨J, ?_, ((exc.rf.up (by simp) : exc [25, 28] I (ev_up I 25 4 0))).tr (p1.mono (by simp)), ?_, ?_, p2⟩
    · rw [e_Past_forgetAll_7]; simp (disch := first | omega | assumption) only [k_I, k_L, k_V, k_1, k_2, k_3, q_cl, z_in, z_lt_t, z_lt_f, z_eq_t, z_eq_f, q_add, q_sub, q_mul, z_tt, z_bit, z_shl, u_at, u_c, u_j, fa_or, z_fl, z_flf, eq_self, ↓reduceIte, z_0, z_1, z_2, z_3, z_4, z_5, z_6, z_7, z_8, z_9, z_10, z_12, z_15, z_16, z_24, z_27, z_40, z_60, z_79, z_80, z_99, z_255, z_256, z_405, z_432, z_9999, z_1000000]
    · rw [p1 25 (by simp), u_j (by omega)]
    · rw [p1 25 (by simp), u_at]
end PA
