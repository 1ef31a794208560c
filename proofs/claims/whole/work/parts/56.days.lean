/-! Days that go by, one after another. -/
/-- two loops, one in the other: pairs a < b -/
theorem lpP {σ : Type} {F : Nat → σ → Option ev_R} {G : Nat → Nat → σ → Option ev_R} (Q : Nat → σ → Prop) (P : Nat → Nat → σ → Prop) (R : Option ev_R → Prop) (W : Nat) (h0 : ∀ a s, a < W → Q a s → ∃ s', F a s = G a (a + 1) s' ∧ P a (a + 1) s') (h1 : ∀ a b s, a < b → b < W → P a b s → (∃ s', G a b s = G a (b + 1) s' ∧ P a (b + 1) s') ∨ R (G a b s)) (h2 : ∀ a s, a < W → P a W s → ∃ s', G a W s = F (a + 1) s' ∧ Q (a + 1) s') (h3 : ∀ s, Q W s → R (F W s)) : ∀ s, Q 0 s → R (F 0 s) := by
  refine fun s hs => lpE (F := F) Q R W (fun a s ha hq => ?_) h3 0 (by omega) s hs
  obtain ⟨s1, e1, p1⟩ := h0 a s ha hq
  rw [e1]
  have := lpE (F := fun b s => G a b s) (fun b s => a < b ∧ P a b s) (fun o => (∃ s', o = F (a + 1) s' ∧ Q (a + 1) s') ∨ R o) W (fun b s hb hp => by
    rcases h1 a b s hp.1 hb hp.2 with ⟨s', e, p⟩ | r
    · exact Or.inl ⟨s', e, by omega, p⟩
    · exact Or.inr (Or.inr r)) (fun s hp => Or.inl (h2 a s ha hp.2)) (a + 1) (by omega) s1 ⟨by omega, p1⟩
  exact this
section DS
variable (W : Nat) (len : Nat → Nat) (lt : Nat → Nat → Nat) (T : Nat → Nat) (n : Nat)
def dysS : Nat → (Nat → Int32) → Nat → Int32
  | 0, s => s
  | k + 1, s => dayS W len lt T n (dysS k s)
def dysF (s : Nat → Int32) (k : Nat) : Nat := sm (fun i => dayF W len lt T n (dysS W len lt T n i s)) k
def dysK (s : Nat → Int32) (k : Nat) : Nat := fb_ct (fun i => decide (stN W len lt T n (dysS W len lt T n i s) ≠ 0)) k
end DS
theorem dysS_wf {W : Nat} {len : Nat → Nat} {lt : Nat → Nat → Nat} {T : Nat → Nat} {n : Nat} {s : Nat → Int32} (h : wfS len s) : ∀ k, wfS len (dysS W len lt T n k s)
  | 0 => h
  | k + 1 => dayS_wf (dysS_wf h k)
theorem rlC.ex {ks : List Nat} {k n : Nat} {I J : Nat → Nat → Int32} {T : Nat → Nat} (hR : rlC k I T n) (hx : exc ks I J) (h1 : J k 1 = I k 1) (h2 : k + 1 ∉ ks) : rlC k J T n := ⟨h1.trans hR.1, fun j hj => by rw [hx (k + 1) h2]; exact hR.2 j hj⟩
theorem day24 (W : Nat) (len : Nat → Nat) (lt : Nat → Nat → Nat) (T : Nat → Nat) (n : Nat) (s : Nat → Int32) : dayS W len lt T n s 24 = nI (stN W len lt T n s) := rfl
section DT
variable {h : Bool × Nat × Nat} {I : Nat → Nat → Int32} {L : Nat → Nat → Int64} {W : Nat} {len : Nat → Nat} {lt : Nat → Nat → Nat}
theorem c_passDays (d : Nat) (hB : bkD I W len lt) {c n k : Nat} {T : Nat → Nat} {s : Nat → Int32} (hc : c = 17 ∨ c = 21) (hS : cSt c I s) (hw : wfS len s) (hR : rlC 101 I T n) (hT : okT T n) (hk : k < 100) : ∃ I', ev_do (d + 6) M_Union_passDays [.ref 109, .ref 101, .ref c, .int (nI k)] (ev_mk h I L) = ev_rn (ev_mk h I' L) ∧ exc [c, c + 2, 101, 103, 109, 110, 111, 112, 113] I I' ∧ I' 101 1 = I 101 1 ∧ cSt c I' (dysS W len lt T n k s) ∧ I' 109 5 = nI (dysF W len lt T n s k) ∧ I' 109 6 = nI (dysK W len lt T n s k) := by
  rw [e_Union_passDays_0 _ _ hc]
  refine lpX (F := fun i J => ev_at (d + 5) M_Union_passDays 13 [.ref 109, .ref 101, .ref c, .int (nI k), .int (nI i)] [] (ev_mk h J L)) (fun i J => exc [c, c + 2, 101, 103, 109, 110, 111, 112, 113] I J ∧ J 101 1 = I 101 1 ∧ cSt c J (dysS W len lt T n i s) ∧ J 109 5 = nI (dysF W len lt T n s i) ∧ J 109 6 = nI (dysK W len lt T n s i)) k ?_ ?_ 0 (by omega) _ ⟨(exc.rf.up (by simp)).up (by simp), ?_, ?_, ?_, ?_⟩
  · intro i J hi ⟨p1, p2, p3, p4, p5⟩
    have hBJ := hB.ex p1 (by intro a ha; simp; omega)
    have hRJ := hR.ex p1 p2 (by simp <;> omega)
    obtain ⟨J1, e1, x1, r1, s1⟩ := c_passDay (h := h) (L := L) d hBJ hc p3 (dysS_wf hw i) hRJ hT
    have q5 : J1 109 5 = J 109 5 := by rw [x1 109 (by simp <;> omega)]
    have q6 : J1 109 6 = nI (dysK W len lt T n s i) := by rw [x1 109 (by simp <;> omega)]; exact p5
    have q3 : J1 c 3 = nI (stN W len lt T n (dysS W len lt T n i s)) := s1.2.1
    have hst := stN_lt W len lt T n (dysS W len lt T n i s)
    refine Or.inl ⟨ev_up (ev_up J1 109 5 (nI (dysF W len lt T n s (i + 1)))) 109 6 (nI (dysK W len lt T n s (i + 1))), ?_, ((p1.tr (x1.mono (by simp <;> omega))).up (by simp)).up (by simp), ?_, ?_, ?_, u_at _ _ _ _⟩
    · have eF : dysF W len lt T n s (i + 1) = dysF W len lt T n s i + dayF W len lt T n (dysS W len lt T n i s) := rfl
      have eK : dysK W len lt T n s (i + 1) = dysK W len lt T n s i + if decide (stN W len lt T n (dysS W len lt T n i s) ≠ 0) then 1 else 0 := fb_ct_succ _ _
      rw [eF, eK]
      by_cases z : stN W len lt T n (dysS W len lt T n i s) = 0
      · rw [decide_eq_false (by simpa using z)]
        rw [e_Union_passDays_13 (hk2 := hc)]; simp (disch := first | omega | assumption) only [e1, q3, p4, q6, z, Bool.false_eq_true, k_I, k_L, k_V, k_1, k_2, k_3, q_cl, z_in, z_lt_t, z_lt_f, z_eq_t, z_eq_f, q_add, q_sub, q_mul, z_tt, z_bit, z_shl, u_at, u_c, u_j, fa_or, z_fl, z_flf, eq_self, ↓reduceIte, z_0, z_1, z_2, z_3, z_4, z_5, z_6, z_7, z_8, z_9, z_10, z_12, z_15, z_16, z_24, z_27, z_40, z_60, z_79, z_80, z_99, z_255, z_256, z_405, z_432, z_9999, z_1000000]
      · rw [decide_eq_true z]
        rw [e_Union_passDays_13 (hk2 := hc)]; simp (disch := first | omega | assumption) only [e1, q3, p4, q6, k_I, k_L, k_V, k_1, k_2, k_3, q_cl, z_in, z_lt_t, z_lt_f, z_eq_t, z_eq_f, q_add, q_sub, q_mul, z_tt, z_bit, z_shl, u_at, u_c, u_j, fa_or, z_fl, z_flf, eq_self, ↓reduceIte, z_0, z_1, z_2, z_3, z_4, z_5, z_6, z_7, z_8, z_9, z_10, z_12, z_15, z_16, z_24, z_27, z_40, z_60, z_79, z_80, z_99, z_255, z_256, z_405, z_432, z_9999, z_1000000]
    · rw [u_c (by omega), u_c (by omega), r1]; exact p2
    · have x4 : exc [109] J1 (ev_up (ev_up J1 109 5 (nI (dysF W len lt T n s (i + 1)))) 109 6 (nI (dysK W len lt T n s (i + 1)))) := (exc.rf.up (by simp)).up (by simp)
      exact s1.ex x4 (by simp <;> omega) (by simp <;> omega) (by simp <;> omega) (by simp <;> omega)
    · rw [u_j (by omega), u_at]
  · intro J ⟨p1, p2, p3, p4, p5⟩
    exact ⟨J, by rw [e_Union_passDays_13 (hk2 := hc)]; simp (disch := first | omega | assumption) only [k_I, k_L, k_V, k_1, k_2, k_3, q_cl, z_in, z_lt_t, z_lt_f, z_eq_t, z_eq_f, q_add, q_sub, q_mul, z_tt, z_bit, z_shl, u_at, u_c, u_j, fa_or, z_fl, z_flf, eq_self, ↓reduceIte, z_0, z_1, z_2, z_3, z_4, z_5, z_6, z_7, z_8, z_9, z_10, z_12, z_15, z_16, z_24, z_27, z_40, z_60, z_79, z_80, z_99, z_255, z_256, z_405, z_432, z_9999, z_1000000], p1, p2, p3, p4, p5⟩
  · rw [u_c (by omega), u_c (by omega)]
  · have x4 : exc [109] I (ev_up (ev_up I 109 5 0) 109 6 0) := (exc.rf.up (by simp)).up (by simp)
    exact hS.ex x4 (by simp <;> omega) (by simp <;> omega) (by simp <;> omega) (by simp <;> omega)
  · rw [u_j (by omega), u_at]; rfl
  · rw [u_at]; rfl
/-- sums of eight -/
def sm8 (f : Nat → Int32) : Nat → Int32
  | 0 => 0
  | k + 1 => sm8 f k + f k
theorem c_sum (d : Nat) {k : Nat} {f : Nat → Int32} (hk : k = 19 ∨ k = 20 ∨ k = 23 ∨ k = 112 ∨ k = 113) (hf : ∀ j, j < 8 → I k j = f j) : ev_do (d + 1) M_SL_sum [.ref k] (ev_mk h I L) = ev_ri (sm8 f 8) (ev_mk h I L) := by
  rw [e_SL_sum_0 _ hk]
  refine lpE (F := fun i (_ : Unit) => ev_at d M_SL_sum 10 [.float 0, .int (sm8 f i), .ref k, .int 8, .int (nI i), .float 0] [] (ev_mk h I L)) (fun _ _ => True) (fun o => o = ev_ri (sm8 f 8) (ev_mk h I L)) 8 ?_ ?_ 0 (by omega) () trivial
  · intro i _ hi _
    refine Or.inl ⟨(), ?_, trivial⟩
    rw [sm8]
    rw [e_SL_sum_10 (hk0 := hk)]; simp (disch := first | omega | assumption) only [hf i hi, k_I, k_L, k_V, k_1, k_2, k_3, q_cl, z_in, z_lt_t, z_lt_f, z_eq_t, z_eq_f, q_add, q_sub, q_mul, z_tt, z_bit, z_shl, u_at, u_c, u_j, fa_or, z_fl, z_flf, eq_self, ↓reduceIte, z_0, z_1, z_2, z_3, z_4, z_5, z_6, z_7, z_8, z_9, z_10, z_12, z_15, z_16, z_24, z_27, z_40, z_60, z_79, z_80, z_99, z_255, z_256, z_405, z_432, z_9999, z_1000000]
  · intro _ _
    rw [e_SL_sum_10 (hk0 := hk)]; simp (disch := first | omega | assumption) only [k_I, k_L, k_V, k_1, k_2, k_3, q_cl, z_in, z_lt_t, z_lt_f, z_eq_t, z_eq_f, q_add, q_sub, q_mul, z_tt, z_bit, z_shl, u_at, u_c, u_j, fa_or, z_fl, z_flf, eq_self, ↓reduceIte, z_0, z_1, z_2, z_3, z_4, z_5, z_6, z_7, z_8, z_9, z_10, z_12, z_15, z_16, z_24, z_27, z_40, z_60, z_79, z_80, z_99, z_255, z_256, z_405, z_432, z_9999, z_1000000]
theorem c_moodsTogether (d : Nat) {c : Nat} {s : Nat → Int32} (hc : c = 17 ∨ c = 21) (hS : cSt c I s) : ev_do (d + 2) M_State_moodsTogether [.ref c] (ev_mk h I L) = ev_ri (sm8 (fun j => s (8 + j)) 8) (ev_mk h I L) := by
  rw [e_State_moodsTogether_0 _ hc, c_sum d (by omega) (fun j hj => (hS.1 j hj).2.1), k_I, k_1, k_2, k_3]
theorem c_Mo_sumOf (d : Nat) {c b : Nat} {f : Nat → Int32} (hc : c = 143 ∨ c = 144) (hb : b ≤ 16) (hf : ∀ j, j < 8 → I c (b + j) = f j) : ev_do (d + 1) M_Mo_sumOf [.ref c, .int (nI b)] (ev_mk h I L) = ev_ri (sm8 f 8) (ev_mk h I L) := by
  rw [e_Mo_sumOf_0 _ _ hc]
  refine lpE (F := fun i (_ : Unit) => ev_at d M_Mo_sumOf 4 [.ref c, .int (nI b), .int (sm8 f i), .int (nI i)] [] (ev_mk h I L)) (fun _ _ => True) (fun o => o = ev_ri (sm8 f 8) (ev_mk h I L)) 8 ?_ ?_ 0 (by omega) () trivial
  · intro i _ hi _
    refine Or.inl ⟨(), ?_, trivial⟩
    rw [sm8]
    rw [e_Mo_sumOf_4 (hk0 := hc)]; simp (disch := first | omega | assumption) only [hf i hi, k_I, k_L, k_V, k_1, k_2, k_3, q_cl, z_in, z_lt_t, z_lt_f, z_eq_t, z_eq_f, q_add, q_sub, q_mul, z_tt, z_bit, z_shl, u_at, u_c, u_j, fa_or, z_fl, z_flf, eq_self, ↓reduceIte, z_0, z_1, z_2, z_3, z_4, z_5, z_6, z_7, z_8, z_9, z_10, z_12, z_15, z_16, z_24, z_27, z_40, z_60, z_79, z_80, z_99, z_255, z_256, z_405, z_432, z_9999, z_1000000]
  · intro _ _
    rw [e_Mo_sumOf_4 (hk0 := hc)]; simp (disch := first | omega | assumption) only [k_I, k_L, k_V, k_1, k_2, k_3, q_cl, z_in, z_lt_t, z_lt_f, z_eq_t, z_eq_f, q_add, q_sub, q_mul, z_tt, z_bit, z_shl, u_at, u_c, u_j, fa_or, z_fl, z_flf, eq_self, ↓reduceIte, z_0, z_1, z_2, z_3, z_4, z_5, z_6, z_7, z_8, z_9, z_10, z_12, z_15, z_16, z_24, z_27, z_40, z_60, z_79, z_80, z_99, z_255, z_256, z_405, z_432, z_9999, z_1000000]
end DT
