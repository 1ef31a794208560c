/-! Small numbers as ints, and stores read behind writes. -/
theorem q_cl {a : Nat} (ha : a < 2147483648) : (nI a).toNatClampNeg = a := by
  show (Int32.ofNat a).toInt.toNat = a
  rw [Int32.toInt_ofNat_of_lt (by simpa using ha)]
  omega
theorem q_ti {a : Nat} (ha : a < 2147483648) : (nI a).toInt = (a : Int) := by
  show (Int32.ofNat a).toInt = _
  exact Int32.toInt_ofNat_of_lt (by simpa using ha)
theorem q_lt {a b : Nat} (ha : a < 2147483648) (hb : b < 2147483648) : nI a < nI b ↔ a < b := by
  rw [Int32.lt_iff_toInt_lt, q_ti ha, q_ti hb]; omega
theorem q_nn {a : Nat} (ha : a < 2147483648) : ¬ nI a < 0 := by
  have h := q_lt (b := 0) ha (by omega)
  intro z
  exact absurd (h.mp z) (by omega)
theorem q_eq {a b : Nat} (ha : a < 2147483648) (hb : b < 2147483648) : nI a = nI b ↔ a = b := by
  rw [fa_eq, q_ti ha, q_ti hb]; omega
theorem q_in {a n : Nat} (ha : a < 2147483648) : ev_in (nI a) n = decide (a < n) := by
  unfold ev_in
  rw [q_cl ha, decide_eq_false (q_nn ha)]
  simp
theorem q_add (a b : Nat) : nI a + nI b = nI (a + b) := by
  apply Int32.toBitVec_inj.mp
  show BitVec.ofNat 32 a + BitVec.ofNat 32 b = BitVec.ofNat 32 (a + b)
  exact (BitVec.ofNat_add a b).symm
theorem q_mul (a b : Nat) : nI a * nI b = nI (a * b) := by
  apply Int32.toBitVec_inj.mp
  show BitVec.ofNat 32 a * BitVec.ofNat 32 b = BitVec.ofNat 32 (a * b)
  exact (BitVec.ofNat_mul a b).symm
theorem q_sub {a b : Nat} (h : b ≤ a) : nI a - nI b = nI (a - b) := by
  have e : nI a = nI (a - b) + nI b := by rw [q_add]; congr 1; omega
  rw [e, Int32.add_sub_cancel]
theorem q_ge {x : Int32} (h : ¬ x < 0) : ∃ a, a < 2147483648 ∧ x = nI a := by
  refine ⟨x.toInt.toNat, ?_, ?_⟩
  · have := x.toInt_lt
    omega
  · have h0 : (0 : Int) ≤ x.toInt := by
      have := Int32.not_lt.mp h
      simpa using Int32.le_iff_toInt_le.mp this
    have hl := x.toInt_lt
    rw [fa_eq, q_ti (by omega)]
    omega
/-! Reading behind a write. -/
theorem u_at {α : Type} (f : Nat → Nat → α) (k j : Nat) (v : α) : ev_up f k j v k j = v := by
  unfold ev_up; exact if_pos ⟨rfl, rfl⟩
theorem u_no {α : Type} {f : Nat → Nat → α} {k j a b : Nat} {v : α} (h : ¬ (a = k ∧ b = j)) : ev_up f k j v a b = f a b := by
  unfold ev_up; exact if_neg h
theorem u_c {α : Type} {f : Nat → Nat → α} {k j a b : Nat} {v : α} (h : a ≠ k) : ev_up f k j v a b = f a b := u_no fun z => h z.1
theorem u_j {α : Type} {f : Nat → Nat → α} {k j a b : Nat} {v : α} (h : b ≠ j) : ev_up f k j v a b = f a b := u_no fun z => h z.2
/-! What a call answered, handed on. -/
theorem k_I (x : Int32) (σ : ev_S) (k : Int32 → ev_S → Option ev_R) : ev_cI (ev_ri x σ) k = k x σ := rfl
theorem k_L (x : Int64) (σ : ev_S) (k : Int64 → ev_S → Option ev_R) : ev_cL (ev_rl x σ) k = k x σ := rfl
theorem k_V (σ : ev_S) (k : ev_S → Option ev_R) : ev_cV (ev_rn σ) k = k σ := rfl
theorem k_1 (h : Bool × Nat × Nat) (I : Nat → Nat → Int32) (L : Nat → Nat → Int64) : (ev_mk h I L).1.2 = h := rfl
theorem k_2 (h : Bool × Nat × Nat) (I : Nat → Nat → Int32) (L : Nat → Nat → Int64) : (ev_mk h I L).2.1 = I := rfl
theorem k_3 (h : Bool × Nat × Nat) (I : Nat → Nat → Int32) (L : Nat → Nat → Int64) : (ev_mk h I L).2.2.1 = L := rfl
/-! Between, as the reference asks it. -/
theorem l_cmp_gt (a b : Int64) : 0 < lg_cmp a b ↔ b < a := by
  unfold lg_cmp
  by_cases h1 : a > b
  · rw [if_pos h1]; exact ⟨fun _ => h1, fun _ => by decide⟩
  · rw [if_neg h1]
    by_cases h2 : a = b
    · rw [if_pos h2]; exact ⟨fun z => absurd z (by decide), fun z => absurd z h1⟩
    · rw [if_neg h2]; exact ⟨fun z => absurd z (by decide), fun z => absurd z h1⟩
theorem l_cmp_lt (a b : Int64) : lg_cmp a b < 0 ↔ a < b := by
  unfold lg_cmp
  by_cases h1 : a > b
  · rw [if_pos h1]
    refine ⟨fun z => absurd z (by decide), fun z => ?_⟩
    have h1' : b < a := h1
    rw [fa_lt64] at h1' z
    omega
  · rw [if_neg h1]
    by_cases h2 : a = b
    · rw [if_pos h2]
      refine ⟨fun z => absurd z (by decide), fun z => ?_⟩
      rw [h2, fa_lt64] at z
      omega
    · rw [if_neg h2]
      refine ⟨fun _ => ?_, fun _ => by decide⟩
      have h1' : ¬ b < a := h1
      have h3 : a.toInt ≠ b.toInt := fun e => h2 ((fa_eq64 _ _).mpr e)
      rw [fa_lt64] at h1' ⊢
      omega
theorem w_cmp_lt (x y : Int32) : lg_cmp x.toInt64 y.toInt64 < 0 ↔ x < y := (l_cmp_lt _ _).trans (fa_wide_lt x y)
theorem w_cmp_gt (x y : Int32) : 0 < lg_cmp x.toInt64 y.toInt64 ↔ y < x := (l_cmp_gt _ _).trans (fa_wide_lt y x)
theorem c_Mo_in (d : Nat) (x y z : Int32) (h : Bool × Nat × Nat) (I : Nat → Nat → Int32) (L : Nat → Nat → Int64) : ev_do (d + 1) M_Mo_in [.long x.toInt64, .long y.toInt64, .long z.toInt64] (ev_mk h I L) = ev_ri (if ¬ x < y ∧ ¬ z < x then 1 else 0) (ev_mk h I L) := by
  rw [e_Mo_in_0]
  simp only [w_cmp_lt, w_cmp_gt]
  by_cases h1 : x < y
  · simp [h1]
  · by_cases h2 : z < x
    · simp [h1, h2]
    · simp [h1, h2]
