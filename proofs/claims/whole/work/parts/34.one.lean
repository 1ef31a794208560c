/-! Two words that are one. -/
def fl (b : Bool) : Int32 := if b then 1 else 0
theorem fl_fit (b : Bool) : ev_fit .boolean (fl b) = true := by cases b <;> decide
theorem fl_0 (b : Bool) : fl b = 0 ↔ b = false := by cases b <;> decide
def eqs (f g : Nat → Int32) : Nat → Nat → Bool
  | _, 0 => true
  | i, m + 1 => decide (f i = g i) && eqs f g (i + 1) m
theorem eqs_iff {f g : Nat → Int32} : ∀ {m i : Nat}, eqs f g i m = true ↔ ∀ j, i ≤ j → j < i + m → f j = g j
  | 0, i => ⟨fun _ j h1 h2 => by omega, fun _ => rfl⟩
  | m + 1, i => by
    rw [eqs, Bool.and_eq_true, eqs_iff, decide_eq_true_eq]
    constructor
    · intro ⟨h1, h2⟩ j h3 h4
      by_cases e : j = i
      · rw [e]; exact h1
      · exact h2 j (by omega) (by omega)
    · intro h
      exact ⟨h i (Nat.le_refl _) (by omega), fun j h1 h2 => h j (by omega) (by omega)⟩
theorem looks_lt {lt : Nat → Nat} {n u s : Nat} (h : ∀ i, i < n → lt i < 8) : ∀ l ∈ looks lt n u s, l < 8 := look_lt h
theorem looks_len (lt : Nat → Nat) (n u s : Nat) : (looks lt n u s).length ≤ n := look_len lt _ n
theorem list_eq_iff {l m : List Nat} (hl : ∀ a ∈ l, a < 8) (hm : ∀ a ∈ m, a < 8) (he : l.length = m.length) : l = m ↔ ∀ j, j < l.length → nI (l.getD j 0) = nI (m.getD j 0) := by
  constructor
  · intro h j _; rw [h]
  · intro h
    apply List.ext_getElem he
    intro j h1 h2
    have e1 : l.getD j 0 = l[j] := by rw [List.getD_eq_getElem?_getD, List.getElem?_eq_getElem h1]; rfl
    have e2 : m.getD j 0 = m[j] := by rw [List.getD_eq_getElem?_getD, List.getElem?_eq_getElem h2]; rfl
    have k1 := hl l[j] (List.getElem_mem h1)
    have k2 := hm m[j] (List.getElem_mem h2)
    have := h j h1
    rw [e1, e2] at this
    exact (q_eq (by omega) (by omega)).mp this
section ON
variable {h : Bool × Nat × Nat} {I : Nat → Nat → Int32} {L : Nat → Nat → Int64} {W : Nat} {len : Nat → Nat} {lt : Nat → Nat → Nat}
theorem c_Mo_isOneBy (d : Nat) (hB : bkM I W len lt) {c a b s ua ub : Nat} (hc : c = 143 ∨ c = 144) (ha : a < 8) (hb : b < 8) (hua : I c a = nI ua) (hub : I c b = nI ub) : ∃ I', ev_do (d + 3) M_Mo_isOneBy [.ref 139, .ref c, .int (nI a), .int (nI b), .int (nI s)] (ev_mk h I L) = ev_ri (fl (decide (looks (lt a) (len a) ua s = looks (lt b) (len b) ub s))) (ev_mk h I' L) ∧ exc [153, 154] I I' := by
  obtain ⟨I1, e1, x1, f1⟩ := c_Mo_lays (h := h) (L := L) d hB (k := 153) (w := a) (u := ua) (s := s) (Or.inl rfl) ha
  have hB1 := hB.ex x1 (by simp) (by simp) (by simp)
  have hub1 : I1 c b = nI ub := by rw [x1 c (by rcases hc with rfl | rfl <;> simp)]; exact hub
  obtain ⟨I2, e2, x2, f2⟩ := c_Mo_lays (h := h) (L := L) d hB1 (k := 154) (w := b) (u := ub) (s := s) (Or.inr rfl) hb
  have x12 : exc [153, 154] I I2 := exc.tr (x1.mono (by simp)) (x2.mono (by simp))
  have hla := looks_len (lt a) (len a) ua s
  have hlb := looks_len (lt b) (len b) ub s
  have ha8 := (hB.2.2 a ha).2.1
  have hb8 := (hB.2.2 b hb).2.1
  have hta := looks_lt (u := ua) (s := s) (fun i hi => ((hB.2.2 a ha).2.2 i hi).2)
  have htb := looks_lt (u := ub) (s := s) (fun i hi => ((hB.2.2 b hb).2.2 i hi).2)
  refine ⟨I2, ?_, x12⟩
  generalize looks (lt a) (len a) ua s = la at *
  generalize looks (lt b) (len b) ub s = lb at *
  have loop : ∀ m i : Nat, i + m = la.length → ∀ z : Bool, ev_at (d + 2) M_Mo_isOneBy 45 [.ref 139, .float 0, .float 0, .float 0, .float 0, .int (nI la.length), .int (fl z), .int (nI i)] [] (ev_mk h I2 L) = ev_ri (fl (z && eqs (I2 153) (I2 154) i m)) (ev_mk h I2 L) := by
    intro m
    induction m with
    | zero =>
      intro i hi z
      rw [e_Mo_isOneBy_45, if_neg (fun y => absurd ((q_lt (by omega) (by omega)).mp y) (by omega)), if_pos (fl_fit z), eqs, Bool.and_true]
    | succ m ih =>
      intro i hi z
      rw [e_Mo_isOneBy_45, if_pos ((q_lt (by omega) (by omega)).mpr (by omega)), q_in (by omega), if_pos (c := decide (i < 8) = true) (by simp; omega), if_pos (c := decide (i < 8) = true) (by simp; omega), q_cl (by omega), show (1 : Int32) = nI 1 from rfl, q_add]
      cases z with
      | false => rw [if_pos (show fl false = 0 from rfl), if_pos (fl_fit false)]; rfl
      | true =>
        rw [if_neg (show ¬ fl true = 0 by decide), eqs]
        by_cases e : I2 153 i = I2 154 i
        · rw [if_pos e, show nI 1 = fl true from rfl, ih (i + 1) (by omega) true]
          simp [e]
        · rw [if_neg e, show (0 : Int32) = fl false from rfl, ih (i + 1) (by omega) false]
          simp [e]
  rw [e_Mo_isOneBy_0 _ _ _ _ hc, q_in (by omega), if_pos (by simp; omega), q_cl (by omega), hua, e1, k_I, k_1, k_2, k_3, q_in (by omega), if_pos (by simp; omega), q_cl (by omega), hub1, e2, k_I, k_1, k_2, k_3]
  have e3 : (if nI la.length = nI lb.length then ev_at (d + 2) M_Mo_isOneBy 45 [.ref 139, .float 0, .float 0, .float 0, .float 0, .int (nI la.length), .int 1, .int 0] [] (ev_mk h I2 L) else ev_at (d + 2) M_Mo_isOneBy 45 [.ref 139, .float 0, .float 0, .float 0, .float 0, .int (nI la.length), .int 0, .int 0] [] (ev_mk h I2 L)) = ev_at (d + 2) M_Mo_isOneBy 45 [.ref 139, .float 0, .float 0, .float 0, .float 0, .int (nI la.length), .int (fl (decide (la.length = lb.length))), .int (nI 0)] [] (ev_mk h I2 L) := by
    by_cases e : la.length = lb.length
    · rw [if_pos (by rw [e]), decide_eq_true e]; rfl
    · rw [if_neg (fun y => e ((q_eq (by omega) (by omega)).mp y)), decide_eq_false e]; rfl
  rw [e3, loop la.length 0 (by omega)]
  congr 2
  rw [Bool.eq_iff_iff, Bool.and_eq_true, decide_eq_true_eq, decide_eq_true_eq, eqs_iff]
  constructor
  · intro ⟨k1, k2⟩
    rw [list_eq_iff hta htb k1]
    intro j hj
    have := k2 j (by omega) (by omega)
    rw [f2 j (by omega), x2 153 (by simp), f1 j hj] at this
    exact this
  · intro k
    refine ⟨by rw [k], fun j _ hj => ?_⟩
    have hj' : j < la.length := by omega
    rw [f2 j (by rw [← k]; exact hj'), x2 153 (by simp), f1 j hj', k]
theorem c_Book_areOne (d : Nat) (hB : bkC I W len lt) {a b s ua ub : Nat} (ha : a < 8) (hb : b < 8) (hua : I 18 a = nI ua) (hub : I 18 b = nI ub) : ev_do (d + 4) M_Book_areOne [.ref 5, .ref 17, .int (nI a), .int (nI b), .int (nI s)] (ev_mk h I L) = ev_ri (fl (decide (looks (lt a) (len a) ua s = looks (lt b) (len b) ub s))) (ev_mk h I L) := by
  rw [e_Book_areOne_0, c_Book_spell d hB (Or.inl rfl) ha hua, k_I, k_1, k_2, k_3, c_Book_spell d hB (Or.inl rfl) hb hub, k_I, k_1, k_2, k_3]
  have hla := looks_len (lt a) (len a) ua s
  have hlb := looks_len (lt b) (len b) ub s
  have ha8 := (hB.2.2 a ha).2.1
  have hb8 := (hB.2.2 b hb).2.1
  have hta := looks_lt (u := ua) (s := s) (fun i hi => ((hB.2.2 a ha).2.2 i hi).2)
  have htb := looks_lt (u := ub) (s := s) (fun i hi => ((hB.2.2 b hb).2.2 i hi).2)
  generalize looks (lt a) (len a) ua s = la at *
  generalize looks (lt b) (len b) ub s = lb at *
  by_cases e : la = lb
  · rw [if_pos (by rw [e]), decide_eq_true e]; rfl
  · rw [if_neg (fun y => e ?_), decide_eq_false e]; rfl
    have k1 := cod_lt 8 la (by omega) hta
    have k2 := cod_lt 8 lb (by omega) htb
    have k3 : (nI (cod la)).toBitVec.toNat = (nI (cod lb)).toBitVec.toNat := by rw [y]
    have t1 : ∀ n, (nI n).toBitVec.toNat = n % 2 ^ 32 := fun n => BitVec.toNat_ofNat n 32
    rw [t1, t1, Nat.mod_eq_of_lt (by omega), Nat.mod_eq_of_lt (by omega)] at k3
    exact cod_inj 8 la lb (by omega) hta htb k3
end ON
