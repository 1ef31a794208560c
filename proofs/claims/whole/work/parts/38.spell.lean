/-! All words spelled; the letters at places. -/
section SP
variable {h : Bool × Nat × Nat} {I : Nat → Nat → Int32} {L : Nat → Nat → Int64} {W : Nat} {len : Nat → Nat} {lt : Nat → Nat → Nat}
theorem c_Book_spellAll (d : Nat) (hB : bkC I W len lt) {c k s : Nat} {u : Nat → Nat} (hc : c = 17 ∨ c = 21) (hk : k = 110 ∨ k = 133) (hu : ∀ w, w < W → I (c + 1) w = nI (u w)) : ∃ I', ev_do (d + 4) M_Book_spellAll [.ref 5, .ref c, .int (nI s), .ref k] (ev_mk h I L) = ev_rn (ev_mk h I' L) ∧ exc [k] I I' ∧ ∀ w, w < W → I' k w = nI (cod (looks (lt w) (len w) (u w) s)) := by
  have hW8 := hB.2.1
  have loop : ∀ m w : Nat, w + m = W → ∀ J, exc [k] I J → (∀ v, v < w → J k v = nI (cod (looks (lt v) (len v) (u v) s))) → ∃ I', ev_at (d + 3) M_Book_spellAll 3 [.ref 5, .ref c, .int (nI s), .ref k, .int (nI w)] [] (ev_mk h J L) = ev_rn (ev_mk h I' L) ∧ exc [k] I I' ∧ ∀ w, w < W → I' k w = nI (cod (looks (lt w) (len w) (u w) s)) := by
    intro m
    induction m with
    | zero =>
      intro w hw J hJ hj
      have hBJ := hB.ex hJ (by intro a ha; rcases hk with rfl | rfl <;> simp <;> omega)
      refine ⟨J, ?_, hJ, fun v hv => hj v (by omega)⟩
      rw [e_Book_spellAll_3 _ _ _ hc hk, hBJ.1, if_neg (fun z => absurd ((q_lt (by omega) (by omega)).mp z) (by omega))]
    | succ m ih =>
      intro w hw J hJ hj
      have hBJ := hB.ex hJ (by intro a ha; rcases hk with rfl | rfl <;> simp <;> omega)
      have hu' : J (c + 1) w = nI (u w) := by
        rw [hJ (c + 1) (by rcases hc with rfl | rfl <;> rcases hk with rfl | rfl <;> simp)]
        exact hu w (by omega)
      rw [e_Book_spellAll_3 _ _ _ hc hk, hBJ.1, if_pos ((q_lt (by omega) (by omega)).mpr (by omega)), c_Book_spell d hBJ hc (by omega) hu', k_I, k_1, k_2, k_3, q_in (by omega), if_pos (by simp; omega), q_cl (by omega), show (1 : Int32) = nI 1 from rfl, q_add]
      refine ih (w + 1) (by omega) _ (hJ.up (by simp)) (fun v hv => ?_)
      by_cases e : v = w
      · rw [e, u_at]
      · rw [u_j e]; exact hj v (by omega)
  rw [e_Book_spellAll_0 _ _ hc hk]
  exact loop W 0 (by omega) I exc.rf (fun v hv => by omega)
/-- the letters at the places p -/
def lAt (lt : Nat → Nat) (p : Nat) : Nat → Nat
  | 0 => 0
  | n + 1 => lAt lt p n ||| (if p.testBit n then 2 ^ lt n else 0)
theorem lAt_bit (lt : Nat → Nat) (p l : Nat) : ∀ n, (lAt lt p n).testBit l = decide (0 < fb_ct (isS lt p l true) n)
  | 0 => by simp [lAt, fb_ct]
  | n + 1 => by
    rw [lAt, Nat.testBit_or, lAt_bit lt p l n, fb_ct_succ]
    unfold isS
    cases hp : p.testBit n with
    | false => simp
    | true =>
      by_cases e : lt n = l
      · simp [e, Nat.testBit_two_pow]
      · simp [e, Nat.testBit_two_pow]
theorem lAt_lt {lt : Nat → Nat} {p : Nat} : ∀ {n : Nat}, (∀ i, i < n → lt i < 8) → lAt lt p n < 2 ^ 8
  | 0, _ => by simp [lAt]
  | n + 1, hn => by
    rw [lAt]
    apply Nat.or_lt_two_pow
    · exact lAt_lt (fun i hi => hn i (by omega))
    · cases p.testBit n
      · simp
      · simp only [if_true]; exact Nat.pow_lt_pow_right (by decide) (hn n (by omega))
theorem c_Book_lettersAt (d : Nat) (hB : bkC I W len lt) {w p : Nat} (hw : w < 8) : ev_do (d + 1) M_Book_lettersAt [.ref 5, .int (nI w), .int (nI p)] (ev_mk h I L) = ev_ri (nI (lAt (lt w) p (len w))) (ev_mk h I L) := by
  obtain ⟨-, -, hB⟩ := hB
  obtain ⟨hl, hl8, hlt⟩ := hB w hw
  have loop : ∀ m k : Nat, k + m = len w → ev_at d M_Book_lettersAt 5 [.ref 5, .int (nI w), .int (nI p), .int (nI (lAt (lt w) p k)), .int (nI k)] [] (ev_mk h I L) = ev_ri (nI (lAt (lt w) p (len w))) (ev_mk h I L) := by
    intro m
    induction m with
    | zero =>
      intro k hk
      rw [e_Book_lettersAt_5, q_in (by omega), if_pos (by simpa using hw), q_cl (by omega), hl, if_neg (fun z => absurd ((q_lt (by omega) (by omega)).mp z) (by omega))]
      rw [show k = len w by omega]
    | succ m ih =>
      intro k hk
      have h8 := (hlt k (by omega)).2
      rw [e_Book_lettersAt_5, q_in (by omega), if_pos (by simpa using hw), q_cl (by omega), hl, if_pos ((q_lt (by omega) (by omega)).mpr (by omega)), if_pos (by simpa using hw), x_row hw (by omega)]
      rw [(hlt k (by omega)).1, x_bit (by omega), x_sh (by omega), fa_or, show (1 : Int32) = nI 1 from rfl, q_add]
      exact ih (k + 1) (by omega)
  rw [e_Book_lettersAt_0]
  exact loop (len w) 0 (by omega)
/-- the unsaid letters of the first n words, as the class gathers them -/
def uLs (len : Nat → Nat) (lt : Nat → Nat → Nat) (u : Nat → Nat) : Nat → Nat
  | 0 => 0
  | n + 1 => uLs len lt u n ||| lAt (lt n) (u n) (len n)
theorem uLs_bit (len : Nat → Nat) (lt : Nat → Nat → Nat) (u : Nat → Nat) (l : Nat) : ∀ n, (uLs len lt u n).testBit l = decide (0 < sgn len lt u l true n)
  | 0 => by simp [uLs, sgn, sm]
  | n + 1 => by
    rw [uLs, Nat.testBit_or, uLs_bit len lt u l n, lAt_bit]
    show _ = decide (0 < sgn len lt u l true n + fb_ct (isS (lt n) (u n) l true) (len n))
    rw [Bool.eq_iff_iff, Bool.or_eq_true, decide_eq_true_eq, decide_eq_true_eq, decide_eq_true_eq]
    omega
theorem uLs_lt {len : Nat → Nat} {lt : Nat → Nat → Nat} {u : Nat → Nat} : ∀ {n : Nat}, (∀ w, w < n → ∀ i, i < len w → lt w i < 8) → uLs len lt u n < 2 ^ 8
  | 0, _ => by simp [uLs]
  | n + 1, hn => by
    rw [uLs]
    exact Nat.or_lt_two_pow (uLs_lt (fun w hw => hn w (by omega))) (lAt_lt (hn n (by omega)))
theorem uLs_eq {len : Nat → Nat} {lt : Nat → Nat → Nat} {u : Nat → Nat} {n : Nat} (hn : ∀ w, w < n → ∀ i, i < len w → lt w i < 8) : uLs len lt u n = uns len lt u n := by
  apply Nat.eq_of_testBit_eq
  intro l
  unfold uns
  rw [msk_bit]
  by_cases h8 : l < 8
  · rw [uLs_bit, decide_eq_true h8]; simp
  · rw [decide_eq_false h8, Bool.false_and]
    exact Nat.testBit_lt_two_pow (Nat.lt_of_lt_of_le (uLs_lt hn) (Nat.pow_le_pow_right (by decide) (by omega)))
theorem c_Book_unsaidLetters (d : Nat) (hB : bkC I W len lt) {u : Nat → Nat} (hu : ∀ w, w < W → I 18 w = nI (u w)) : ev_do (d + 2) M_Book_unsaidLetters [.ref 5, .ref 17] (ev_mk h I L) = ev_ri (nI (uns len lt u W)) (ev_mk h I L) := by
  have hW8 := hB.2.1
  have loop : ∀ m w : Nat, w + m = W → ev_at (d + 1) M_Book_unsaidLetters 4 [.ref 5, .ref 17, .int (nI (uLs len lt u w)), .int (nI w)] [] (ev_mk h I L) = ev_ri (nI (uLs len lt u W)) (ev_mk h I L) := by
    intro m
    induction m with
    | zero =>
      intro w hw
      rw [e_Book_unsaidLetters_4, hB.1, if_neg (fun z => absurd ((q_lt (by omega) (by omega)).mp z) (by omega)), show w = W by omega]
    | succ m ih =>
      intro w hw
      rw [e_Book_unsaidLetters_4, hB.1, if_pos ((q_lt (by omega) (by omega)).mpr (by omega)), q_in (by omega), if_pos (by simp; omega), q_cl (by omega), hu w (by omega), c_Book_lettersAt d hB (by omega), k_I, k_1, k_2, k_3, fa_or, show (1 : Int32) = nI 1 from rfl, q_add]
      exact ih (w + 1) (by omega)
  rw [e_Book_unsaidLetters_0, ← uLs_eq (fun w hw i hi => ((hB.2.2 w (by omega)).2.2 i hi).2)]
  exact loop W 0 (by omega)
end SP
