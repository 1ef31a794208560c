/-! A rule read by the class: small steps. -/
section PC
variable {h : Bool × Nat × Nat} {K : Nat → Nat → Int32} {L : Nat → Nat → Int64}
def rkC (c : Nat) : Nat := if c = 42 ∨ c = 47 then 3 else if c = 43 ∨ c = 45 then 2 else if c = 60 ∨ c = 61 ∨ c = 62 then 1 else if c = 256 then 4 else 0
def rkV (x : Int32) : Int32 := if x = 42 then 3 else if x = 43 then 2 else if x = 45 then 2 else if x = 47 then 3 else if x = 60 then 1 else if x = 61 then 1 else if x = 62 then 1 else if x = 256 then 4 else 0
theorem rkV_is : ∀ c, c < 257 → rkV (nI c) = nI (rkC c) := by decide +kernel
theorem rkC_le (c : Nat) : rkC c ≤ 4 := by unfold rkC; (repeat' split) <;> omega
theorem c_rankOf (d : Nat) {c : Nat} (hc : c < 257) : ev_do (d + 1) M_Rule_rankOf [.int (nI c)] (ev_mk h K L) = ev_ri (nI (rkC c)) (ev_mk h K L) := by
  rw [e_Rule_rankOf_0, ← rkV_is c hc]
  unfold rkV
  repeat' split
  all_goals rfl
/-- what is coded -/
def cdC (K : Nat → Nat → Int32) (C : List Int32) : Prop := K 105 1 = nI C.length ∧ ∀ i, i < C.length → K 106 i = C.getD i 0
/-- what waits, the last first -/
def wtC (K : Nat → Nat → Int32) (S : List Nat) : Prop := stk 105 K (S.reverse.map nI)
def fxC (K K' : Nat → Nat → Int32) : Prop := exc [105, 106, 107] K K' ∧ ∀ b, b ≠ 1 → b ≠ 3 → K' 105 b = K 105 b
theorem fxC.rf : fxC K K := ⟨exc.rf, fun _ _ _ => rfl⟩
theorem fxC.tr {K' K'' : Nat → Nat → Int32} (h1 : fxC K K') (h2 : fxC K' K'') : fxC K K'' := ⟨h1.1.tr h2.1, fun j a b => (h2.2 j a b).trans (h1.2 j a b)⟩
theorem c_emit (d : Nat) {C : List Int32} {x : Int32} (hC : cdC K C) (hl : C.length < 40) : ∃ K', ev_do (d + 1) M_Rule_emit [.ref 105, .int x] (ev_mk h K L) = ev_rn (ev_mk h K' L) ∧ cdC K' (C ++ [x]) ∧ exc [105, 106] K K' ∧ ∀ b, b ≠ 1 → K' 105 b = K 105 b := by
  refine ⟨ev_up (ev_up K 106 C.length x) 105 1 (nI (C.length + 1)), ?_, ⟨?_, fun i hi => ?_⟩, (exc.rf.up (by simp)).up (by simp), fun b hb => by rw [u_j hb, u_c (by omega)]⟩
  · rw [e_Rule_emit_0, hC.1, if_pos (show nI C.length < 40 from (q_lt (b := 40) (by omega) (by omega)).mpr hl), q_in (by omega), if_pos (by simp <;> omega), q_cl (by omega), show nI C.length + 1 = nI (C.length + 1) from q_add _ 1]
  · rw [u_at, List.length_append]; rfl
  · rw [List.length_append] at hi
    have hi' : i < C.length + 1 := hi
    rw [u_c (by omega)]
    by_cases z : i = C.length
    · rw [z, u_at]; simp [List.getD]
    · rw [u_j z, hC.2 i (by omega)]; simp [List.getD, List.getElem?_append_left (show i < C.length by omega)]
theorem c_pushC (d : Nat) {S : List Nat} {c : Nat} (hS : wtC K S) (hl : S.length < 40) : ∃ K', ev_do (d + 1) M_Rule_push [.ref 105, .int (nI c)] (ev_mk h K L) = ev_rn (ev_mk h K' L) ∧ wtC K' (c :: S) ∧ exc [105, 107] K K' ∧ ∀ b, b ≠ 3 → K' 105 b = K 105 b := by
  obtain ⟨K', e1, s1, r1⟩ := c_push (h := h) (L := L) (x := nI c) d (Or.inr rfl : 105 = 101 ∨ 105 = 105) hS (by simpa using hl)
  exact ⟨K', e1, by unfold wtC; simpa using s1, r1.1, r1.2⟩
theorem c_popC (d : Nat) {S : List Nat} {c : Nat} (hS : wtC K (c :: S)) (hl : S.length < 40) : ∃ K', ev_do (d + 1) M_Rule_pop [.ref 105] (ev_mk h K L) = ev_ri (nI c) (ev_mk h K' L) ∧ wtC K' S ∧ exc [105, 107] K K' ∧ ∀ b, b ≠ 3 → K' 105 b = K 105 b := by
  obtain ⟨K', e1, s1, r1⟩ := c_pop (h := h) (L := L) (x := nI c) (s := S.reverse.map nI) d (Or.inr rfl : 105 = 101 ∨ 105 = 105) (by unfold wtC at hS; simpa using hS) (by simpa using hl)
  exact ⟨K', e1, s1, r1.1, r1.2⟩
theorem cdC.ex {C : List Int32} {K' : Nat → Nat → Int32} (hC : cdC K C) (h1 : K' 105 1 = K 105 1) (h2 : K' 106 = K 106) : cdC K' C := ⟨h1.trans hC.1, fun i hi => by rw [h2]; exact hC.2 i hi⟩
theorem wtC.ex {S : List Nat} {K' : Nat → Nat → Int32} (hS : wtC K S) (h1 : K' 105 3 = K 105 3) (h2 : K' 107 = K 107) : wtC K' S := ⟨h1.trans hS.1, fun i hi => by rw [show (105 + 2 : Nat) = 107 from rfl, h2]; exact hS.2 i hi⟩
theorem c_moveDown (d : Nat) {w : Nat} (hw : w < 5) {S : List Nat} (hS0 : ∀ c, S.head? = some c → rkC c < w ∧ c < 257) : ∀ (pd : List Nat) (C : List Int32) (K : Nat → Nat → Int32), (∀ c, c ∈ pd → w ≤ rkC c ∧ c < 257) → cdC K C → wtC K (pd ++ S) → pd.length + S.length ≤ 40 → C.length + pd.length ≤ 40 → ∃ K', ev_at (d + 1) M_Rule_moveDownTo 5 [.ref 105, .int (nI w), .int (nI (pd.length + S.length))] [] (ev_mk h K L) = ev_rn (ev_mk h K' L) ∧ cdC K' (C ++ pd.map (fun c => -(nI c))) ∧ wtC K' S ∧ fxC K K' := by
  intro pd
  induction pd with
  | nil =>
    intro C K _ hC hS hl _
    refine ⟨K, ?_, by simpa using hC, hS, fxC.rf⟩
    rw [e_Rule_moveDownTo_5]
    cases S with
    | nil => rw [if_neg (show ¬ (0 : Int32) < nI (([] : List Nat).length + ([] : List Nat).length) by decide)]
    | cons c S =>
      have h0 := hS0 c rfl
      have hS' : stk 105 K ((c :: S).reverse.map nI) := hS
      have hlen : ([] : List Nat).length + (c :: S).length = S.length + 1 := by simp
      have hl' : S.length + 1 ≤ 40 := by simpa using hl
      have h107 : K 107 S.length = nI c := by
        have := hS'.2 S.length (by simp)
        simpa [List.getD] using this
      have hr4 := rkC_le c
      rw [hlen, if_pos (show (0 : Int32) < nI (S.length + 1) from (q_lt (a := 0) (by omega) (by omega)).mpr (by omega)), show nI (S.length + 1) - 1 = nI S.length from q_sub (a := S.length + 1) (b := 1) (by omega), q_in (by omega), if_pos (by simp <;> omega), q_cl (by omega), h107, c_rankOf d h0.2, k_I, k_1, k_2, k_3, if_pos ((q_lt (by omega) (by omega)).mpr h0.1)]
  | cons c pd ih =>
    intro C K hp hC hS hl hl2
    have h0 := hp c (by simp)
    have hlen : (c :: pd).length + S.length = (pd.length + S.length) + 1 := by simp; omega
    have hl' : pd.length + S.length + 1 ≤ 40 := by rw [hlen] at hl; exact hl
    have hl2' : C.length + (pd.length + 1) ≤ 40 := by simpa using hl2
    have hS' : wtC K (c :: (pd ++ S)) := hS
    have h107 : K 107 (pd.length + S.length) = nI c := by
      have hh : stk 105 K ((c :: (pd ++ S)).reverse.map nI) := hS'
      have := hh.2 (pd.length + S.length) (by simp; omega)
      rw [show (105 + 2 : Nat) = 107 from rfl] at this
      rw [this, List.reverse_cons, List.map_append, List.getD, List.getElem?_append_right (by simp; omega)]
      simp [Nat.add_comm]
    have hr4 := rkC_le c
    obtain ⟨K1, e1, s1, x1, n1⟩ := c_popC (h := h) (L := L) d hS' (by simp; omega)
    obtain ⟨K2, e2, c2, x2, n2⟩ := c_emit (h := h) (L := L) (x := -(nI c)) d (hC.ex (n1 1 (by omega)) (x1 106 (by simp))) (by omega)
    obtain ⟨K3, e3, c3, s3, f3⟩ := ih (C ++ [-(nI c)]) K2 (fun a ha => hp a (by simp [ha])) c2 (s1.ex (n2 3 (by omega)) (x2 107 (by simp))) (by omega) (by rw [List.length_append]; show C.length + 1 + pd.length ≤ 40; omega)
    refine ⟨K3, ?_, by simpa using c3, s3, ⟨((x1.mono (by simp)).tr (x2.mono (by simp))).tr f3.1, fun b hb1 hb3 => by rw [f3.2 b hb1 hb3, n2 b hb1, n1 b hb3]⟩⟩
    rw [e_Rule_moveDownTo_5, hlen, if_pos (show (0 : Int32) < nI (pd.length + S.length + 1) from (q_lt (a := 0) (by omega) (by omega)).mpr (by omega)), show nI (pd.length + S.length + 1) - 1 = nI (pd.length + S.length) from q_sub (a := pd.length + S.length + 1) (b := 1) (by omega), q_in (by omega), if_pos (by simp <;> omega), q_cl (by omega), h107, c_rankOf d h0.2, k_I, k_1, k_2, k_3, if_neg (fun z => absurd ((q_lt (by omega) (by omega)).mp z) (by omega)), e1, k_I, k_1, k_2, k_3, e2, k_V, k_1, k_2, k_3, show nI (pd.length + S.length + 1) + -1 = nI (pd.length + S.length) by rw [show (-1 : Int32) = - 1 from rfl, ← Int32.sub_eq_add_neg]; exact q_sub (a := pd.length + S.length + 1) (b := 1) (by omega), e3]
end PC
