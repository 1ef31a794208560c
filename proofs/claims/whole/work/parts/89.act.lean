/-! Acts, read. -/
def lnC (c : Nat) : Nat := if c = 110 then 2 else if c = 111 ∨ c = 113 ∨ c = 114 ∨ c = 120 then 3 else 0
def kdC (c : Nat) : Nat := if c = 110 then 0 else if c = 120 then 1 else if c = 111 then 2 else if c = 114 then 3 else 4
def ok2 (a c : Nat) : Bool := decide ((if a = 114 ∨ a = 113 then 49 else 48) ≤ c) && decide (c ≤ 57)
def isLt (c : Nat) : Bool := decide (97 ≤ c) && decide (c ≤ 104)
def ok1 (a c : Nat) : Bool := if a = 110 ∨ a = 120 then ok2 a c else isLt c
def cst (a j c : Nat) : Bool := if j = 0 then decide (0 < lnC c) else if j = 1 then ok1 a c else ok2 a c
/-- where the act at p can't be read on -/
def flt (tx : Nat → Nat) (e p : Nat) : Option Nat :=
  if lnC (tx p) = 0 then some p
  else if (decide (p + 1 < e) && ok1 (tx p) (tx (p + 1))) = false then some (p + 1)
  else if tx p = 110 then none
  else if (decide (p + 2 < e) && ok2 (tx p) (tx (p + 2))) = false then some (p + 2)
  else none
def qA (tx : Nat → Nat) : Nat → Nat
  | 0 => 0
  | i + 1 => qA tx i + max 1 (lnC (tx (qA tx i)))
theorem lnC_c (c : Nat) : lnC c = 0 ∨ (c = 110 ∧ lnC c = 2) ∨ (c ≠ 110 ∧ lnC c = 3) := by
  unfold lnC
  by_cases h : c = 110
  · rw [if_pos h]; exact Or.inr (Or.inl ⟨h, rfl⟩)
  · rw [if_neg h]; split
    · exact Or.inr (Or.inr ⟨h, rfl⟩)
    · exact Or.inl rfl
theorem flt_none {tx : Nat → Nat} {e p : Nat} (h : flt tx e p = none) : (tx p = 110 ∧ lnC (tx p) = 2 ∧ p + 1 < e ∧ ok1 (tx p) (tx (p + 1)) = true) ∨ (tx p ≠ 110 ∧ lnC (tx p) = 3 ∧ p + 2 < e ∧ ok1 (tx p) (tx (p + 1)) = true ∧ ok2 (tx p) (tx (p + 2)) = true) := by
  unfold flt at h
  have hc := lnC_c (tx p)
  split at h
  · cases h
  · split at h
    · cases h
    · rename_i h1 h2
      rw [Bool.not_eq_false, Bool.and_eq_true, decide_eq_true_iff] at h2
      split at h
      · rename_i h3
        exact Or.inl ⟨h3, by omega, h2.1, h2.2⟩
      · split at h
        · cases h
        · rename_i h3 h4
          rw [Bool.not_eq_false, Bool.and_eq_true, decide_eq_true_iff] at h4
          exact Or.inr ⟨h3, by omega, h4.1, h2.2, h4.2⟩
theorem qA_s {tx : Nat → Nat} {e i : Nat} (h : flt tx e (qA tx i) = none) : qA tx (i + 1) = qA tx i + lnC (tx (qA tx i)) ∧ qA tx (i + 1) ≤ e ∧ 2 ≤ lnC (tx (qA tx i)) := by
  rcases flt_none h with ⟨_, h2, h3, _⟩ | ⟨_, h2, h3, _⟩
  all_goals
    show qA tx i + max 1 (lnC (tx (qA tx i))) = _ ∧ qA tx i + max 1 (lnC (tx (qA tx i))) ≤ e ∧ _
    rw [h2]
    omega
theorem qA_ge (tx : Nat → Nat) : ∀ i, i ≤ qA tx i
  | 0 => Nat.le_refl _
  | i + 1 => by
    have := qA_ge tx i
    show i + 1 ≤ qA tx i + max 1 (lnC (tx (qA tx i)))
    omega
def gdA (tx : Nat → Nat) (e i : Nat) : Prop := ∀ i', i' < i → qA tx i' < e ∧ flt tx e (qA tx i') = none
theorem gdA_or (tx : Nat → Nat) (e : Nat) : (∃ i f, gdA tx e i ∧ qA tx i < e ∧ flt tx e (qA tx i) = some f) ∨ ∃ n, gdA tx e n ∧ qA tx n = e := by
  have : ∀ m i, e - qA tx i ≤ m → qA tx i ≤ e → gdA tx e i → (∃ i f, gdA tx e i ∧ qA tx i < e ∧ flt tx e (qA tx i) = some f) ∨ ∃ n, gdA tx e n ∧ qA tx n = e := by
    intro m
    induction m with
    | zero => intro i h1 h2 h3; exact Or.inr ⟨i, h3, by omega⟩
    | succ m ih =>
      intro i h1 h2 h3
      by_cases hq : qA tx i = e
      · exact Or.inr ⟨i, h3, hq⟩
      · cases hf : flt tx e (qA tx i) with
        | some f => exact Or.inl ⟨i, f, h3, by omega, hf⟩
        | none =>
          have := qA_s hf
          refine ih (i + 1) (by omega) this.2.1 (fun i' hi' => ?_)
          by_cases z : i' = i
          · rw [z]; exact ⟨by omega, hf⟩
          · exact h3 i' (by omega)
  exact this e 0 (by omega) (Nat.zero_le _) (fun i' h => absurd h (by omega))
section AC
variable {h : Bool × Nat × Nat} {I J K : Nat → Nat → Int32} {L : Nat → Nat → Int64} {tx : Nat → Nat} {e p : Nat}
def lnV (x : Int32) : Int32 := if x = 110 then 2 else if x = 111 then 3 else if x = 112 then 0 else if x = 113 then 3 else if x = 114 then 3 else if x = 115 then 0 else if x = 116 then 0 else if x = 117 then 0 else if x = 118 then 0 else if x = 119 then 0 else if x = 120 then 3 else 0
theorem lnV_is : ∀ c, c < 256 → lnV (nI c) = nI (lnC c) := by decide +kernel
theorem c_len (d : Nat) {c : Nat} (hc : c < 256) : ev_do (d + 1) M_Acts_lengthOf [.int (nI c)] (ev_mk h K L) = ev_ri (nI (lnC c)) (ev_mk h K L) := by
  rw [e_Acts_lengthOf_0, ← lnV_is c hc]
  unfold lnV
  repeat' split
  all_goals rfl
theorem lnC_le (c : Nat) : lnC c ≤ 3 := by have := lnC_c c; omega
theorem c_can2 (d : Nat) {a c : Nat} (ha : a < 256) (hc : c < 256) : ev_at d M_Acts_canStand 52 [.int (nI a), .float 0, .int (nI c), .float 0] [] (ev_mk h K L) = ev_ri (fl (ok2 a c)) (ev_mk h K L) := by
  have e71 : ∀ m, m < 256 → ev_at d M_Acts_canStand 71 [.float 0, .float 0, .int (nI c), .float 0] [.int (nI m)] (ev_mk h K L) = ev_ri (fl (decide (m ≤ c) && decide (c ≤ 57))) (ev_mk h K L) := by
    intro m hm
    rw [e_Acts_canStand_71]
    by_cases z1 : c < m
    · rw [if_pos ((q_lt (by omega) (by omega)).mpr z1), decide_eq_false (show ¬ m ≤ c by omega)]; rfl
    · rw [if_neg (fun z => z1 ((q_lt (by omega) (by omega)).mp z)), decide_eq_true (show m ≤ c by omega)]
      by_cases z2 : 57 < c
      · rw [if_pos (show (57 : Int32) < nI c from (q_lt (a := 57) (by omega) (by omega)).mpr z2), decide_eq_false (show ¬ c ≤ 57 by omega)]; rfl
      · rw [if_neg (show ¬ (57 : Int32) < nI c from fun z => z2 ((q_lt (a := 57) (by omega) (by omega)).mp z)), decide_eq_true (show c ≤ 57 by omega)]; rfl
  rw [e_Acts_canStand_52]
  unfold ok2
  by_cases z1 : a = 114
  · rw [if_pos (show nI a = 114 by rw [z1]; rfl), if_pos (show a = 114 ∨ a = 113 from Or.inl z1)]; exact e71 49 (by omega)
  · rw [if_neg (show ¬ nI a = 114 from fun z => z1 ((q_eq (b := 114) (by omega) (by omega)).mp z))]
    by_cases z2 : a = 113
    · rw [if_pos (show nI a = 113 by rw [z2]; rfl), if_pos (show a = 114 ∨ a = 113 from Or.inr z2)]; exact e71 49 (by omega)
    · rw [if_neg (show ¬ nI a = 113 from fun z => z2 ((q_eq (b := 113) (by omega) (by omega)).mp z)), if_neg (show ¬ (a = 114 ∨ a = 113) from fun z => z.elim z1 z2)]; exact e71 48 (by omega)
theorem c_can (d : Nat) {a j c : Nat} (ha : a < 256) (hc : c < 256) (hj : j < 100) : ev_do (d + 2) M_Acts_canStand [.int (nI a), .int (nI j), .int (nI c)] (ev_mk h K L) = ev_ri (fl (cst a j c)) (ev_mk h K L) := by
  have hl := lnC_le c
  rw [e_Acts_canStand_0]
  unfold cst
  by_cases z0 : j = 0
  · rw [if_pos (show nI j = 0 by rw [z0]; rfl), if_pos z0, c_len d hc, k_I, k_1, k_2, k_3]
    by_cases z : 0 < lnC c
    · rw [if_pos (show (0 : Int32) < nI (lnC c) from (q_lt (a := 0) (by omega) (by omega)).mpr z), decide_eq_true z]; rfl
    · rw [if_neg (show ¬ (0 : Int32) < nI (lnC c) from fun y => z ((q_lt (a := 0) (by omega) (by omega)).mp y)), decide_eq_false z]; rfl
  · rw [if_neg (show ¬ nI j = 0 from fun z => z0 ((q_eq (b := 0) (by omega) (by omega)).mp z)), if_neg z0]
    by_cases z1 : j = 1
    · rw [if_pos (show nI j = 1 by rw [z1]; rfl), if_pos z1]
      unfold ok1
      by_cases z2 : a = 110
      · rw [if_pos (show nI a = 110 by rw [z2]; rfl), if_pos (show a = 110 ∨ a = 120 from Or.inl z2), c_can2 (d + 1) ha hc]
      · rw [if_neg (show ¬ nI a = 110 from fun z => z2 ((q_eq (b := 110) (by omega) (by omega)).mp z))]
        by_cases z3 : a = 120
        · rw [if_pos (show nI a = 120 by rw [z3]; rfl), if_pos (show a = 110 ∨ a = 120 from Or.inr z3), c_can2 (d + 1) ha hc]
        · rw [if_neg (show ¬ nI a = 120 from fun z => z3 ((q_eq (b := 120) (by omega) (by omega)).mp z)), if_neg (show ¬ (a = 110 ∨ a = 120) from fun z => z.elim z2 z3)]
          unfold isLt
          by_cases z4 : c < 97
          · rw [if_pos (show nI c < 97 from (q_lt (b := 97) (by omega) (by omega)).mpr z4), decide_eq_false (show ¬ 97 ≤ c by omega)]; rfl
          · rw [if_neg (show ¬ nI c < 97 from fun z => z4 ((q_lt (b := 97) (by omega) (by omega)).mp z)), decide_eq_true (show 97 ≤ c by omega)]
            by_cases z5 : 104 < c
            · rw [if_pos (show (104 : Int32) < nI c from (q_lt (a := 104) (by omega) (by omega)).mpr z5), decide_eq_false (show ¬ c ≤ 104 by omega)]; rfl
            · rw [if_neg (show ¬ (104 : Int32) < nI c from fun z => z5 ((q_lt (a := 104) (by omega) (by omega)).mp z)), decide_eq_true (show c ≤ 104 by omega)]; rfl
    · rw [if_neg (show ¬ nI j = 1 from fun z => z1 ((q_eq (b := 1) (by omega) (by omega)).mp z)), if_neg z1, c_can2 (d + 1) ha hc]
theorem fit_c : ∀ c, c < 256 → ev_fit .char (nI c) = true := by decide +kernel
theorem c_sgn (d : Nat) {t : Nat × (Nat → Nat)} (ht : txC K t) (h8 : t.1 ≤ 80) (h2 : ∀ j, j < t.1 → t.2 j < 256) {j : Nat} (hj : j < t.1) : ev_do (d + 1) M_Text_signAt [.ref 1, .int (nI j)] (ev_mk h K L) = ev_ri (nI (t.2 j)) (ev_mk h K L) := by
  rw [e_Text_signAt_0, if_neg (q_nn (by omega)), ht.1, if_pos ((q_lt (by omega) (by omega)).mpr hj), q_in (by omega), if_pos (by simp <;> omega), q_cl (by omega), ht.2 j hj, if_pos (fit_c _ (h2 j hj))]
/-- one sign of an act, in the class -/
theorem c_sign1 (d : Nat) {t : Nat × (Nat → Nat)} (ht : txC K t) (h8 : t.1 ≤ 80) (h2 : ∀ j, j < t.1 → t.2 j < 256) (he : e ≤ t.1) {a j : Nat} (ha : a < 256) (hj : j < 3) (hp : p < e) : ev_at (d + 2) M_Acts_faultIn 18 [.ref 1, .int (nI e), .int (nI a), .int (nI j), .int (nI p), .float 0] [] (ev_mk h K L) = if cst (if j = 0 then t.2 p else a) j (t.2 p) = true then ev_at (d + 2) M_Acts_faultIn 18 [.ref 1, .int (nI e), .int (nI (if j = 0 then t.2 p else a)), .int (nI (if j + 1 = lnC (if j = 0 then t.2 p else a) then 0 else j + 1)), .int (nI (p + 1)), .float 0] [] (ev_mk h K L) else ev_ri (nI p) (ev_mk h K L) := by
  have hc := h2 p (by omega)
  have e42 : ∀ b, b < 256 → ev_at (d + 2) M_Acts_faultIn 42 [.ref 1, .int (nI e), .float 0, .int (nI j), .int (nI p), .int (nI (t.2 p))] [.int (nI b)] (ev_mk h K L) = if cst b j (t.2 p) = true then ev_at (d + 2) M_Acts_faultIn 18 [.ref 1, .int (nI e), .int (nI b), .int (nI (if j + 1 = lnC b then 0 else j + 1)), .int (nI (p + 1)), .float 0] [] (ev_mk h K L) else ev_ri (nI p) (ev_mk h K L) := by
    intro b hb
    have hl := lnC_le b
    rw [e_Acts_faultIn_42, c_can d hb hc (by omega), k_I, k_1, k_2, k_3]
    cases cst b j (t.2 p) with
    | false => rw [if_pos (show fl false = 0 from rfl), if_neg (by decide)]
    | true =>
      rw [if_neg (show ¬ fl true = 0 by decide), if_pos rfl, c_len (d + 1) hb, k_I, k_1, k_2, k_3, show nI j + 1 = nI (j + 1) from q_add j 1, show nI p + 1 = nI (p + 1) from q_add p 1]
      by_cases z : j + 1 = lnC b
      · rw [if_pos (by rw [z]), if_pos z]; rfl
      · rw [if_neg (fun y => z ((q_eq (by omega) (by omega)).mp y)), if_neg z]
  rw [e_Acts_faultIn_18, if_pos ((q_lt (by omega) (by omega)).mpr hp), c_sgn (d + 1) ht h8 h2 (by omega), k_I, k_1, k_2, k_3]
  by_cases z : j = 0
  · rw [if_pos (show nI j = 0 by rw [z]; rfl), if_pos z, e42 _ hc]
  · rw [if_neg (show ¬ nI j = 0 from fun y => z ((q_eq (b := 0) (by omega) (by omega)).mp y)), if_neg z, e42 _ ha]
theorem c_endC (d : Nat) {t : Nat × (Nat → Nat)} (ht : txC K t) (h8 : t.1 ≤ 80) (he : e ≤ 80) {a j : Nat} (hj : j < 3) : ev_at d M_Acts_faultIn 18 [.ref 1, .int (nI e), .int (nI a), .int (nI j), .int (nI e), .float 0] [] (ev_mk h K L) = if 60 < t.1 ∨ 0 < j then ev_ri (nI e) (ev_mk h K L) else ev_ri (-1) (ev_mk h K L) := by
  rw [e_Acts_faultIn_18, if_neg (fun z => absurd ((q_lt (by omega) (by omega)).mp z) (by omega)), ht.1]
  by_cases z1 : 60 < t.1
  · rw [if_pos (show (60 : Int32) < nI t.1 from (q_lt (a := 60) (by omega) (by omega)).mpr z1), if_pos (Or.inl z1)]
  · rw [if_neg (show ¬ (60 : Int32) < nI t.1 from fun z => z1 ((q_lt (a := 60) (by omega) (by omega)).mp z))]
    by_cases z2 : 0 < j
    · rw [if_pos (show (0 : Int32) < nI j from (q_lt (a := 0) (by omega) (by omega)).mpr z2), if_pos (Or.inr z2)]
    · rw [if_neg (show ¬ (0 : Int32) < nI j from fun z => z2 ((q_lt (a := 0) (by omega) (by omega)).mp z)), if_neg (fun z => z.elim z1 z2)]
theorem c_actC (d : Nat) {t : Nat × (Nat → Nat)} (ht : txC K t) (h8 : t.1 ≤ 80) (h2 : ∀ j, j < t.1 → t.2 j < 256) (he : e ≤ t.1) {a : Nat} (ha : a < 256) (hp : p < e) : match flt t.2 e p with
    | some f => ev_at (d + 2) M_Acts_faultIn 18 [.ref 1, .int (nI e), .int (nI a), .int (nI 0), .int (nI p), .float 0] [] (ev_mk h K L) = ev_ri (nI f) (ev_mk h K L)
    | none => ev_at (d + 2) M_Acts_faultIn 18 [.ref 1, .int (nI e), .int (nI a), .int (nI 0), .int (nI p), .float 0] [] (ev_mk h K L) = ev_at (d + 2) M_Acts_faultIn 18 [.ref 1, .int (nI e), .int (nI (t.2 p)), .int (nI 0), .int (nI (p + lnC (t.2 p))), .float 0] [] (ev_mk h K L) := by
  have hc := h2 p (by omega)
  have hl := lnC_c (t.2 p)
  rw [c_sign1 d ht h8 h2 he ha (by omega) hp, show (if (0 : Nat) = 0 then t.2 p else a) = t.2 p from rfl, show cst (t.2 p) 0 (t.2 p) = decide (0 < lnC (t.2 p)) from rfl]
  unfold flt
  by_cases z0 : lnC (t.2 p) = 0
  · rw [if_pos z0, decide_eq_false (show ¬ 0 < lnC (t.2 p) by omega), if_neg (by decide)]
  · rw [if_neg z0, decide_eq_true (show 0 < lnC (t.2 p) by omega), if_pos rfl, if_neg (show ¬ 0 + 1 = lnC (t.2 p) by omega)]
    by_cases z1 : p + 1 < e
    · rw [decide_eq_true z1, Bool.true_and, show (0 + 1 : Nat) = 1 from rfl, c_sign1 d ht h8 h2 he hc (j := 1) (by omega) z1, show (if (1 : Nat) = 0 then t.2 (p + 1) else t.2 p) = t.2 p from rfl, show cst (t.2 p) 1 (t.2 (p + 1)) = ok1 (t.2 p) (t.2 (p + 1)) from rfl]
      cases hk : ok1 (t.2 p) (t.2 (p + 1)) with
      | false => rw [if_pos rfl, if_neg (by decide)]
      | true =>
        rw [if_neg (show ¬ true = false by decide), if_pos rfl]
        by_cases z2 : t.2 p = 110
        · rw [if_pos z2, if_pos (show 1 + 1 = lnC (t.2 p) by omega), show lnC (t.2 p) = 2 by omega]
        · rw [if_neg z2, if_neg (show ¬ 1 + 1 = lnC (t.2 p) by omega)]
          by_cases z3 : p + 2 < e
          · rw [decide_eq_true z3, Bool.true_and, show (1 + 1 : Nat) = 2 from rfl, c_sign1 d ht h8 h2 he hc (j := 2) (by omega) z3, show (if (2 : Nat) = 0 then t.2 (p + 1 + 1) else t.2 p) = t.2 p from rfl, show cst (t.2 p) 2 (t.2 (p + 1 + 1)) = ok2 (t.2 p) (t.2 (p + 2)) from rfl]
            cases hk2 : ok2 (t.2 p) (t.2 (p + 2)) with
            | false => rw [if_pos rfl, if_neg (by decide)]
            | true => rw [if_neg (show ¬ true = false by decide), if_pos rfl, if_pos (show 2 + 1 = lnC (t.2 p) by omega), show lnC (t.2 p) = 3 by omega]
          · rw [decide_eq_false z3, Bool.false_and, if_pos rfl, show p + 1 + 1 = e by omega, c_endC (d + 2) ht h8 (by omega) (by omega), if_pos (Or.inr (by omega))]
    · rw [decide_eq_false z1, Bool.false_and, if_pos rfl, show p + 1 = e by omega, c_endC (d + 2) ht h8 (by omega) (by omega), if_pos (Or.inr (by omega))]
theorem c_faultIn (d : Nat) {t : Nat × (Nat → Nat)} (ht : txC K t) (h8 : t.1 ≤ 80) (h2 : ∀ j, j < t.1 → t.2 j < 256) : (∀ i f, gdA t.2 (min 60 t.1) i → qA t.2 i < min 60 t.1 → flt t.2 (min 60 t.1) (qA t.2 i) = some f → ev_do (d + 3) M_Acts_faultIn [.ref 1] (ev_mk h K L) = ev_ri (nI f) (ev_mk h K L)) ∧ ∀ n, gdA t.2 (min 60 t.1) n → qA t.2 n = min 60 t.1 → ev_do (d + 3) M_Acts_faultIn [.ref 1] (ev_mk h K L) = if 60 < t.1 then ev_ri (nI (min 60 t.1)) (ev_mk h K L) else ev_ri (-1) (ev_mk h K L) := by
  have e0 : ev_do (d + 3) M_Acts_faultIn [.ref 1] (ev_mk h K L) = ev_at (d + 2) M_Acts_faultIn 18 [.ref 1, .int (nI (min 60 t.1)), .int (nI 110), .int (nI 0), .int (nI (qA t.2 0)), .float 0] [] (ev_mk h K L) := by
    rw [e_Acts_faultIn_0, ht.1, show (if (60 : Int32) < nI t.1 then (60 : Int32) else nI t.1) = nI (min 60 t.1) from z_min (a := 60) (by omega) (by omega)]; rfl
  have st : ∀ i, gdA t.2 (min 60 t.1) i → ∃ a, a < 256 ∧ ev_do (d + 3) M_Acts_faultIn [.ref 1] (ev_mk h K L) = ev_at (d + 2) M_Acts_faultIn 18 [.ref 1, .int (nI (min 60 t.1)), .int (nI a), .int (nI 0), .int (nI (qA t.2 i)), .float 0] [] (ev_mk h K L) := by
    intro i
    induction i with
    | zero => intro _; exact ⟨110, by omega, e0⟩
    | succ i ih =>
      intro hg
      obtain ⟨a, ha, e1⟩ := ih (fun i' hi' => hg i' (by omega))
      have g := hg i (by omega)
      have hq := qA_s g.2
      have := c_actC (h := h) (L := L) d ht h8 h2 (e := min 60 t.1) (by omega) ha g.1
      rw [g.2] at this
      refine ⟨_, h2 (qA t.2 i) (by omega), e1.trans ?_⟩
      rw [hq.1]
      exact this
  refine ⟨fun i f hg hq hf => ?_, fun n hg hq => ?_⟩
  · obtain ⟨a, ha, e1⟩ := st i hg
    have := c_actC (h := h) (L := L) d ht h8 h2 (e := min 60 t.1) (by omega) ha hq
    rw [hf] at this
    exact e1.trans this
  · obtain ⟨a, ha, e1⟩ := st n hg
    rw [e1, hq, c_endC (d + 2) ht h8 (by omega) (by omega)]
    by_cases z : 60 < t.1
    · rw [if_pos (Or.inl z), if_pos z]
    · rw [if_neg (show ¬ (60 < t.1 ∨ 0 < 0) by omega), if_neg z]
end AC
