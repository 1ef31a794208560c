/-! The words. Bits as numbers. -/
theorem x_bt {n j : Nat} (hj : j < 32) : bt (nI n) j = n.testBit j := by
  show (BitVec.ofNat 32 n).getLsbD j = _
  rw [BitVec.getLsbD_ofNat]
  simp [hj]
theorem x_b1 (i : Nat) : bt 1 i = decide (i = 0) := by
  show (BitVec.ofNat 32 1).getLsbD i = _
  rw [BitVec.getLsbD_ofNat]
  by_cases h : i = 0
  · subst h; decide
  · obtain ⟨j, rfl⟩ := Nat.exists_eq_succ_of_ne_zero h
    simp [Nat.testBit_succ]
/-- bit j of a set, as Java takes it out -/
theorem x_bit {n j : Nat} (hj : j < 32) : (nI n >>> (nI j &&& 31)) &&& 1 = if n.testBit j then 1 else 0 := by
  apply b_ext
  intro i hi
  rw [b_and, b_sshr j hj _ hi, x_b1]
  by_cases h : i = 0
  · subst h
    rw [if_pos (by omega), Nat.add_zero, x_bt hj]
    cases n.testBit j <;> decide
  · have e : ∀ b : Bool, bt (if b = true then (1 : Int32) else 0) i = false := by
      intro b
      cases b
      · exact b_0 i
      · rw [if_pos rfl, x_b1]; simp [h]
    rw [e]
    simp [h]
theorem x_sh {j : Nat} (hj : j < 31) (b : Bool) : (if b then (1 : Int32) else 0) <<< (nI j &&& 31) = nI (if b then 2 ^ j else 0) := by
  cases b
  · apply b_ext
    intro i hi
    rw [b_shl j (by omega) _ hi]
    simp only [Bool.false_eq_true, if_false]
    rw [b_0]
    simp [show nI 0 = 0 from rfl, b_0]
  · apply b_ext
    intro i hi
    rw [b_shl j (by omega) _ hi]
    simp only [if_true]
    rw [x_b1, x_bt hi, Nat.testBit_two_pow]
    by_cases h1 : j ≤ i <;> by_cases h2 : i - j = 0 <;> by_cases h3 : j = i <;> simp [h1, h2, h3] <;> omega
/-- the set of the places below n that f takes -/
def msk (f : Nat → Bool) : Nat → Nat
  | 0 => 0
  | n + 1 => msk f n ||| (if f n then 2 ^ n else 0)
theorem msk_bit (f : Nat → Bool) (j : Nat) : ∀ n, (msk f n).testBit j = (decide (j < n) && f j)
  | 0 => by simp [msk]
  | n + 1 => by
    rw [msk, Nat.testBit_or, msk_bit f j n]
    by_cases h : j = n
    · subst h
      cases hf : f j <;> simp [Nat.testBit_two_pow]
    · have e : (if f n = true then 2 ^ n else 0).testBit j = false := by
        cases f n
        · simp
        · simp [Nat.testBit_two_pow]; omega
      rw [e]
      by_cases h1 : j < n
      · simp [h1, show j < n + 1 by omega]
      · simp [h1, show ¬ j < n + 1 by omega]
theorem msk_lt (f : Nat → Bool) : ∀ n, msk f n < 2 ^ n
  | 0 => by simp [msk]
  | n + 1 => by
    rw [msk]
    apply Nat.or_lt_two_pow
    · exact Nat.lt_trans (msk_lt f n) (Nat.pow_lt_pow_right (by decide) (Nat.lt_succ_self n))
    · cases f n
      · simp [Nat.two_pow_pos]
      · simp only [if_true]; exact Nat.pow_lt_pow_right (by decide) (Nat.lt_succ_self n)
theorem msk_congr {f g : Nat → Bool} : ∀ {n : Nat}, (∀ j, j < n → f j = g j) → msk f n = msk g n
  | 0, _ => rfl
  | n + 1, h => by rw [msk, msk, msk_congr (n := n) (fun j hj => h j (by omega)), h n (by omega)]
/-- the class's words: how many, how long, which letters -/
def bkC (I : Nat → Nat → Int32) (W : Nat) (len : Nat → Nat) (lt : Nat → Nat → Nat) : Prop := I 5 3 = nI W ∧ W ≤ 8 ∧ ∀ w, w < 8 → I 15 w = nI (len w) ∧ len w ≤ 8 ∧ ∀ i, i < len w → I (7 + w) i = nI (lt w i) ∧ lt w i < 8
theorem x_row {h : Bool × Nat × Nat} {I : Nat → Nat → Int32} {L : Nat → Nat → Int64} {w i : Nat} (hw : w < 8) (hi : i < 8) (k : Int32 → Option ev_R) : ev_aI (ev_mk h I L) (ev_rv (ev_R0 6 w)) (nI i) k = k (I (7 + w) i) := by
  have e : ∀ c : Nat, (if ev_in (nI i) 8 then k (I c (nI i).toNatClampNeg) else none) = k (I c i) := by
    intro c
    rw [q_in (by omega), if_pos (by simpa using hi), q_cl (by omega)]
  match w, hw with
  | 0, _ => exact e 7
  | 1, _ => exact e 8
  | 2, _ => exact e 9
  | 3, _ => exact e 10
  | 4, _ => exact e 11
  | 5, _ => exact e 12
  | 6, _ => exact e 13
  | 7, _ => exact e 14
section BK
variable {h : Bool × Nat × Nat} {I : Nat → Nat → Int32} {L : Nat → Nat → Int64} {W : Nat} {len : Nat → Nat} {lt : Nat → Nat → Nat}
theorem c_Book_placesOf (d : Nat) (hB : bkC I W len lt) {w set : Nat} (hw : w < 8) : ev_do (d + 1) M_Book_placesOf [.ref 5, .int (nI w), .int (nI set)] (ev_mk h I L) = ev_ri (nI (msk (fun i => set.testBit (lt w i)) (len w))) (ev_mk h I L) := by
  obtain ⟨-, -, hB⟩ := hB
  obtain ⟨hl, hl8, hlt⟩ := hB w hw
  have loop : ∀ m k : Nat, k + m = len w → ev_at d M_Book_placesOf 5 [.ref 5, .int (nI w), .int (nI set), .int (nI (msk (fun i => set.testBit (lt w i)) k)), .int (nI k)] [] (ev_mk h I L) = ev_ri (nI (msk (fun i => set.testBit (lt w i)) (len w))) (ev_mk h I L) := by
    intro m
    induction m with
    | zero =>
      intro k hk
      rw [e_Book_placesOf_5, q_in (by omega), if_pos (by simpa using hw), q_cl (by omega), hl, if_neg (fun z => absurd ((q_lt (by omega) (by omega)).mp z) (by omega))]
      rw [show k = len w by omega]
    | succ m ih =>
      intro k hk
      rw [e_Book_placesOf_5, q_in (by omega), if_pos (by simpa using hw), q_cl (by omega), hl, if_pos ((q_lt (by omega) (by omega)).mpr (by omega)), if_pos (by simpa using hw), x_row hw (by omega)]
      rw [(hlt k (by omega)).1, x_bit (by have := (hlt k (by omega)).2; omega), x_sh (by omega), fa_or, show (1 : Int32) = nI 1 from rfl, q_add]
      exact ih (k + 1) (by omega)
  rw [e_Book_placesOf_0]
  exact loop (len w) 0 (by omega)
theorem c_Book_gone (d : Nat) (hB : bkC I W len lt) {c w set u : Nat} (hc : c = 17 ∨ c = 21) (hw : w < 8) (hu : I (c + 1) w = nI u) : ev_do (d + 2) M_Book_gone [.ref 5, .ref c, .int (nI w), .int (nI set)] (ev_mk h I L) = ev_ri (nI (u &&& msk (fun i => set.testBit (lt w i)) (len w))) (ev_mk h I L) := by
  rw [e_Book_gone_0 _ _ _ hc, q_in (by omega), if_pos (by simpa using hw), c_Book_placesOf d hB hw, k_I, k_1, k_2, k_3, q_cl (by omega), hu, fa_and]
end BK
/-- the letters of a word that stand, in order: those whose place g doesn't take -/
def look (lt : Nat → Nat) (g : Nat → Bool) : Nat → List Nat
  | 0 => []
  | n + 1 => look lt g n ++ (if g n then [] else [lt n])
theorem look_congr {lt : Nat → Nat} {f g : Nat → Bool} : ∀ {n : Nat}, (∀ j, j < n → f j = g j) → look lt f n = look lt g n
  | 0, _ => rfl
  | n + 1, h => by rw [look, look, look_congr (n := n) (fun j hj => h j (by omega)), h n (by omega)]
theorem look_len (lt : Nat → Nat) (g : Nat → Bool) : ∀ n, (look lt g n).length ≤ n
  | 0 => by simp [look]
  | n + 1 => by
    have := look_len lt g n
    rw [look, List.length_append]
    cases g n
    · simp; omega
    · simp; omega
theorem look_lt {lt : Nat → Nat} {g : Nat → Bool} : ∀ {n : Nat}, (∀ i, i < n → lt i < 8) → ∀ l ∈ look lt g n, l < 8
  | 0, _, l, hl => by simp [look] at hl
  | n + 1, h, l, hl => by
    rw [look, List.mem_append] at hl
    rcases hl with hl | hl
    · exact look_lt (fun i hi => h i (by omega)) l hl
    · cases hg : g n with
      | true => rw [hg] at hl; simp at hl
      | false =>
        rw [hg] at hl
        simp at hl
        rw [hl]; exact h n (by omega)
/-- letters as one number: four bits each -/
def cod (l : List Nat) : Nat := l.foldl (fun c a => 16 * c + (a + 1)) 0
theorem cod_app (l : List Nat) (a : Nat) : cod (l ++ [a]) = 16 * cod l + (a + 1) := by simp [cod]
theorem cod_lt : ∀ (n : Nat) (l : List Nat), l.length ≤ n → (∀ a ∈ l, a < 8) → cod l < 16 ^ n := by
  intro n
  induction n with
  | zero => intro l hl _; simp at hl; subst hl; simp [cod]
  | succ n ih =>
    intro l hl ha
    rcases List.eq_nil_or_concat l with rfl | ⟨t, a, rfl⟩
    · simp [cod]; exact Nat.pos_of_ne_zero (by simp)
    · have h1 := ih t (by simp at hl; omega) (fun b hb => ha b (by simp [hb]))
      have h2 := ha a (by simp)
      simp only [List.concat_eq_append] at *
      rw [cod_app, Nat.pow_succ]
      omega
theorem cod_inj : ∀ (n : Nat) (l m : List Nat), l.length ≤ n → (∀ a ∈ l, a < 8) → (∀ a ∈ m, a < 8) → cod l = cod m → l = m := by
  intro n
  induction n with
  | zero =>
    intro l m hl _ hm he
    simp at hl
    subst hl
    rcases List.eq_nil_or_concat m with rfl | ⟨t, a, rfl⟩
    · rfl
    · simp only [List.concat_eq_append] at *
      rw [cod_app] at he
      simp [cod] at he
  | succ n ih =>
    intro l m hl ha hm he
    rcases List.eq_nil_or_concat l with rfl | ⟨t, a, rfl⟩
    · rcases List.eq_nil_or_concat m with rfl | ⟨t, a, rfl⟩
      · rfl
      · simp only [List.concat_eq_append] at *
        rw [cod_app] at he
        simp [cod] at he
    · simp only [List.concat_eq_append] at *
      rcases List.eq_nil_or_concat m with rfl | ⟨t2, a2, rfl⟩
      · rw [cod_app] at he
        simp [cod] at he
      · simp only [List.concat_eq_append] at *
        rw [cod_app, cod_app] at he
        have h1 := ha a (by simp)
        have h2 := hm a2 (by simp)
        have e1 : a = a2 := by omega
        have e2 : cod t = cod t2 := by omega
        rw [ih t t2 (by simp at hl; omega) (fun b hb => ha b (by simp [hb])) (fun b hb => hm b (by simp [hb])) e2, e1]
theorem x_shl4 (c : Nat) : nI c <<< ((4 : Int32) &&& 31) = nI (2 ^ 4 * c) := by
  apply b_ext
  intro i hi
  rw [show (4 : Int32) = nI 4 from rfl, b_shl 4 (by omega) _ hi, x_bt hi, Nat.testBit_two_pow_mul]
  by_cases h : 4 ≤ i
  · rw [x_bt (by omega)]
  · simp [h]
section BK
variable {h : Bool × Nat × Nat} {I : Nat → Nat → Int32} {L : Nat → Nat → Int64} {W : Nat} {len : Nat → Nat} {lt : Nat → Nat → Nat}
theorem c_Book_bare (d : Nat) (hB : bkC I W len lt) {w g : Nat} (hw : w < 8) : ev_do (d + 1) M_Book_bare [.ref 5, .int (nI w), .int (nI g)] (ev_mk h I L) = ev_ri (nI (cod (look (lt w) (fun i => g.testBit i) (len w)))) (ev_mk h I L) := by
  obtain ⟨-, -, hB⟩ := hB
  obtain ⟨hl, hl8, hlt⟩ := hB w hw
  have loop : ∀ m k : Nat, k + m = len w → ev_at d M_Book_bare 5 [.ref 5, .int (nI w), .int (nI g), .int (nI (cod (look (lt w) (fun i => g.testBit i) k))), .int (nI k)] [] (ev_mk h I L) = ev_ri (nI (cod (look (lt w) (fun i => g.testBit i) (len w)))) (ev_mk h I L) := by
    intro m
    induction m with
    | zero =>
      intro k hk
      rw [e_Book_bare_5, q_in (by omega), if_pos (by simpa using hw), q_cl (by omega), hl, if_neg (fun z => absurd ((q_lt (by omega) (by omega)).mp z) (by omega))]
      rw [show k = len w by omega]
    | succ m ih =>
      intro k hk
      rw [e_Book_bare_5, q_in (by omega), if_pos (by simpa using hw), q_cl (by omega), hl, if_pos ((q_lt (by omega) (by omega)).mpr (by omega)), x_bit (by omega), x_row hw (by omega)]
      have ih' := ih (k + 1) (by omega)
      rw [look] at ih'
      rw [show (1 : Int32) = nI 1 from rfl, q_add]
      cases hg : g.testBit k with
      | true =>
        simp only [hg, if_true, List.append_nil] at ih' ⊢
        rw [if_neg (by decide)]
        exact ih'
      | false =>
        simp only [hg, Bool.false_eq_true, if_false] at ih' ⊢
        rw [if_pos trivial, if_pos (by simpa using hw), (hlt k (by omega)).1, x_shl4, q_add, fa_or_sum _ (by have := (hlt k (by omega)).2; omega), show 2 ^ 4 * cod (look (lt w) (fun i => g.testBit i) k) + (lt w k + 1) = cod (look (lt w) (fun i => g.testBit i) k ++ [lt w k]) from (cod_app _ _).symm]
        exact ih'
  rw [e_Book_bare_0]
  exact loop (len w) 0 (by omega)
/-- what a word looks like while 'strike' is out, its unsaid places u -/
def looks (lt : Nat → Nat) (n u strike : Nat) : List Nat := look lt (fun i => u.testBit i && strike.testBit (lt i)) n
theorem c_Book_spell (d : Nat) (hB : bkC I W len lt) {c w set u : Nat} (hc : c = 17 ∨ c = 21) (hw : w < 8) (hu : I (c + 1) w = nI u) : ev_do (d + 3) M_Book_spell [.ref 5, .ref c, .int (nI w), .int (nI set)] (ev_mk h I L) = ev_ri (nI (cod (looks (lt w) (len w) u set))) (ev_mk h I L) := by
  rw [e_Book_spell_0 _ _ _ hc, c_Book_gone d hB hc hw hu, k_I, k_1, k_2, k_3, c_Book_bare (d + 1) hB hw, k_I, k_1, k_2, k_3]
  congr 3
  apply look_congr
  intro j hj
  rw [Nat.testBit_and, msk_bit]
  simp [hj]
end BK
