/-! Signs of a letter, said and unsaid. -/
def sm (f : Nat → Nat) : Nat → Nat
  | 0 => 0
  | n + 1 => sm f n + f n
theorem sm_le {f : Nat → Nat} {k : Nat} (h : ∀ i, f i ≤ k) : ∀ n, sm f n ≤ k * n
  | 0 => by simp [sm]
  | n + 1 => by
    have h1 := sm_le h n
    have h2 := h n
    rw [sm, Nat.mul_succ]
    omega
/-- whether place i of a word has the letter l, unsaid or not -/
def isS (lt : Nat → Nat) (u l : Nat) (b : Bool) (i : Nat) : Bool := decide (lt i = l) && (u.testBit i == b)
/-- how many signs of letter l are unsaid (b) or said, in the first n words -/
def sgn (len : Nat → Nat) (lt : Nat → Nat → Nat) (u : Nat → Nat) (l : Nat) (b : Bool) (n : Nat) : Nat := sm (fun w => fb_ct (isS (lt w) (u w) l b) (len w)) n
theorem sgn_le {len : Nat → Nat} {lt : Nat → Nat → Nat} {u : Nat → Nat} {l : Nat} {b : Bool} : ∀ {n : Nat}, (∀ w, w < n → len w ≤ 8) → sgn len lt u l b n ≤ 8 * n
  | 0, _ => by simp [sgn, sm]
  | n + 1, h => by
    have h1 := sgn_le (len := len) (lt := lt) (u := u) (l := l) (b := b) (n := n) (fun w hw => h w (by omega))
    have h2 := fb_ct_le (isS (lt n) (u n) l b) (len n)
    have h3 := h n (by omega)
    show sgn len lt u l b n + fb_ct (isS (lt n) (u n) l b) (len n) ≤ _
    omega
section CT
variable {h : Bool × Nat × Nat} {I : Nat → Nat → Int32} {L : Nat → Nat → Int64} {W : Nat} {len : Nat → Nat} {lt : Nat → Nat → Nat}
theorem c_Mo_flag (d : Nat) (b : Bool) : ev_do (d + 1) M_Mo_flag [.int (fl b)] (ev_mk h I L) = ev_ri (fl b) (ev_mk h I L) := by
  rw [e_Mo_flag_0]
  cases b <;> rfl
theorem c_Mo_signsOf (d : Nat) (hB : bkM I W len lt) {c l : Nat} {b : Bool} {u : Nat → Nat} (hc : c = 143 ∨ c = 144) (hl8 : l < 8) (hu : ∀ w, w < W → I c w = nI (u w)) : ev_do (d + 2) M_Mo_signsOf [.ref 139, .ref c, .int (nI l), .int (fl b)] (ev_mk h I L) = ev_ri (nI (sgn len lt u l b W)) (ev_mk h I L) := by
  obtain ⟨hW, hW8, hB⟩ := hB
  have inner : ∀ m i w a : Nat, w < W → i + m = len w → ev_at (d + 1) M_Mo_signsOf 18 [.ref 139, .ref c, .int (nI l), .int (fl b), .int (nI (a + fb_ct (isS (lt w) (u w) l b) i)), .int (nI w), .int (nI i)] [] (ev_mk h I L) = ev_at (d + 1) M_Mo_signsOf 6 [.ref 139, .ref c, .int (nI l), .int (fl b), .int (nI (a + fb_ct (isS (lt w) (u w) l b) (len w))), .int (nI (w + 1)), .float 0] [] (ev_mk h I L) := by
    intro m
    induction m with
    | zero =>
      intro i w a hw hi
      obtain ⟨hl, hl8, hlt⟩ := hB w (by omega)
      rw [e_Mo_signsOf_18 _ _ _ _ _ _ hc, q_in (by omega), if_pos (by simp; omega), q_cl (by omega), hl, if_neg (fun z => absurd ((q_lt (by omega) (by omega)).mp z) (by omega)), show (1 : Int32) = nI 1 from rfl, q_add, show i = len w by omega]
    | succ m ih =>
      intro i w a hw hi
      obtain ⟨hl, hl8', hlt⟩ := hB w (by omega)
      obtain ⟨ht, ht8⟩ := hlt i (by omega)
      have e8 : (8 : Int32) * nI w + nI i = nI (8 * w + i) := by rw [show (8 : Int32) = nI 8 from rfl, q_mul, q_add]
      have e67 : ∀ z : Bool, isS (lt w) (u w) l b i = z → ev_at (d + 1) M_Mo_signsOf 67 [.ref 139, .ref c, .int (nI l), .int (fl b), .float 0, .int (nI w), .int (nI i)] [.int (fl z), .int (nI (a + fb_ct (isS (lt w) (u w) l b) i))] (ev_mk h I L) = ev_at (d + 1) M_Mo_signsOf 6 [.ref 139, .ref c, .int (nI l), .int (fl b), .int (nI (a + fb_ct (isS (lt w) (u w) l b) (len w))), .int (nI (w + 1)), .float 0] [] (ev_mk h I L) := by
        intro z hz
        rw [e_Mo_signsOf_67 _ _ _ _ _ _ _ hc, c_Mo_flag d, k_I, k_1, k_2, k_3, show (1 : Int32) = nI 1 from rfl, q_add, show fl z = nI (if z then 1 else 0) by cases z <;> rfl, q_add]
        have := ih (i + 1) w a hw (by omega)
        rw [fb_ct_succ, hz, ← Nat.add_assoc] at this
        exact this
      rw [e_Mo_signsOf_18 _ _ _ _ _ _ hc, q_in (by omega), if_pos (by simp; omega), q_cl (by omega), hl, if_pos ((q_lt (by omega) (by omega)).mpr (by omega)), e8, q_in (by omega), if_pos (by simp; omega), q_cl (by omega), ht, q_in (by omega), if_pos (c := decide (w < 27) = true) (by simp; omega), hu w hw, c_Mo_has d (by omega), k_I, k_1, k_2, k_3]
      by_cases e1 : lt w i = l
      · rw [if_pos (by rw [e1])]
        have e2 : ((if (u w).testBit i = true then (1 : Int32) else 0) = fl b) ↔ ((u w).testBit i == b) = true := by
          cases (u w).testBit i <;> cases b <;> decide
        by_cases e3 : ((u w).testBit i == b) = true
        · rw [if_pos (e2.mpr e3)]
          exact e67 true (by unfold isS; rw [decide_eq_true e1, e3]; rfl)
        · rw [if_neg (fun z => e3 (e2.mp z))]
          exact e67 false (by unfold isS; rw [decide_eq_true e1, (Bool.not_eq_true _).mp e3]; rfl)
      · rw [if_neg (fun z => e1 ((q_eq (by omega) (by omega)).mp z))]
        exact e67 false (by unfold isS; rw [decide_eq_false e1]; rfl)
  have outer : ∀ m w : Nat, w + m = W → ev_at (d + 1) M_Mo_signsOf 6 [.ref 139, .ref c, .int (nI l), .int (fl b), .int (nI (sgn len lt u l b w)), .int (nI w), .float 0] [] (ev_mk h I L) = ev_ri (nI (sgn len lt u l b W)) (ev_mk h I L) := by
    intro m
    induction m with
    | zero =>
      intro w hw
      rw [e_Mo_signsOf_6 _ _ _ _ _ hc, hW, if_neg (fun z => absurd ((q_lt (by omega) (by omega)).mp z) (by omega)), show w = W by omega]
    | succ m ih =>
      intro w hw
      rw [e_Mo_signsOf_6 _ _ _ _ _ hc, hW, if_pos ((q_lt (by omega) (by omega)).mpr (by omega))]
      have := inner (len w) 0 w (sgn len lt u l b w) (by omega) (by omega)
      exact this.trans (ih (w + 1) (by omega))
  rw [e_Mo_signsOf_0 _ _ _ hc]
  exact outer W 0 (by omega)
/-- the letters that are unsaid somewhere -/
def uns (len : Nat → Nat) (lt : Nat → Nat → Nat) (u : Nat → Nat) (W : Nat) : Nat := msk (fun l => decide (0 < sgn len lt u l true W)) 8
theorem c_Mo_unsaid (d : Nat) (hB : bkM I W len lt) {c : Nat} {u : Nat → Nat} (hc : c = 143 ∨ c = 144) (hu : ∀ w, w < W → I c w = nI (u w)) : ev_do (d + 3) M_Mo_unsaid [.ref 139, .ref c] (ev_mk h I L) = ev_ri (nI (uns len lt u W)) (ev_mk h I L) := by
  have loop : ∀ m l : Nat, l + m = 8 → ev_at (d + 2) M_Mo_unsaid 4 [.ref 139, .ref c, .int (nI (msk (fun l => decide (0 < sgn len lt u l true W)) l)), .int (nI l)] [] (ev_mk h I L) = ev_ri (nI (uns len lt u W)) (ev_mk h I L) := by
    intro m
    induction m with
    | zero =>
      intro l hl
      have : l = 8 := by omega
      subst this
      rw [e_Mo_unsaid_4 _ _ _ hc, if_neg (by decide)]
      rfl
    | succ m ih =>
      intro l hl
      have hs := sgn_le (len := len) (lt := lt) (u := u) (l := l) (b := true) (n := W) (fun w hw => (hB.2.2 w (by have := hB.2.1; omega)).2.1)
      have hW8 := hB.2.1
      rw [e_Mo_unsaid_4 _ _ _ hc, if_pos (show nI l < (8 : Int32) from (q_lt (b := 8) (by omega) (by omega)).mpr (by omega)), show (.int 1 : Value) = .int (fl true) from rfl, c_Mo_signsOf d hB hc (by omega) hu, k_I, k_1, k_2, k_3]
      have ih' := ih (l + 1) (by omega)
      rw [msk] at ih'
      have e0 : (0 : Int32) < nI (sgn len lt u l true W) ↔ 0 < sgn len lt u l true W := q_lt (a := 0) (by omega) (by omega)
      have esh : (1 : Int32) <<< (nI l &&& 31) = nI (2 ^ l) := by
        have := x_sh (j := l) (by omega) true
        simpa using this
      by_cases e : 0 < sgn len lt u l true W
      · rw [if_pos (e0.mpr e), esh, fa_or, show (1 : Int32) = nI 1 from rfl, q_add]
        rw [decide_eq_true e, if_pos rfl] at ih'
        exact ih'
      · rw [if_neg (fun z => e (e0.mp z)), show (0 : Int32) = nI 0 from rfl, fa_or, show (1 : Int32) = nI 1 from rfl, q_add]
        rw [decide_eq_false e, if_neg (by decide)] at ih'
        exact ih'
  rw [e_Mo_unsaid_0 _ hc]
  exact loop 8 0 (by omega)
end CT
