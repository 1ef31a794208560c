/-! Fractions; misread. -/
theorem cmp0 {n : Nat} (hn : n < 2 ^ 63) : lg_cmp (lN n) 0 = 0 ↔ n = 0 := by
  rw [show (0 : Int64) = lN 0 from rfl]
  have e := pk_lEQ hn (show 0 < 2 ^ 63 by decide)
  have l := pk_lLT (show 0 < 2 ^ 63 by decide) hn
  unfold lg_cmp
  by_cases h : n = 0
  · subst h
    rw [if_neg (show ¬ lN 0 > lN 0 by decide), if_pos rfl]
    exact ⟨fun _ => rfl, fun _ => rfl⟩
  · rw [if_pos (show lN n > lN 0 from l.mpr (by omega))]
    exact ⟨fun z => absurd z (by decide), fun z => absurd z h⟩
theorem l0 {n : Nat} (hn : n < 2 ^ 63) : lN n = 0 ↔ n = 0 := by
  rw [show (0 : Int64) = lN 0 from rfl]
  exact pk_lEQ hn (by decide)
theorem mod_half {a b : Nat} (hb : 0 < b) (hab : b ≤ a) : 2 * (a % b) ≤ a := by
  have h1 := Nat.mod_lt a hb
  have h2 := Nat.div_add_mod a b
  have h3 : 1 ≤ a / b := (Nat.one_le_div_iff hb).mpr hab
  have h4 : b * 1 ≤ b * (a / b) := Nat.mul_le_mul_left b h3
  omega
/-- a fraction in lowest terms -/
def frc (u v : Nat) : Nat × (Nat → Int64) := if u = 0 then snoc (snoc nil0 0) 1 else snoc (snoc nil0 (lN (u / Nat.gcd u v))) (lN (v / Nat.gcd u v))
theorem frc_len (u v : Nat) : (frc u v).1 = 2 := by
  unfold frc
  split <;> rfl
section OT
variable {h : Bool × Nat × Nat} {d : Nat} {I J : Nat → Nat → Int32} {L : Nat → Nat → Int64} {A : aP}
theorem c_frac (d : Nat) {u v : Nat} (hu : u < 2 ^ 62) (hv : v ≤ 100000000) (huv : v = 0 → u = 0) : ∃ p : sIL, ev_do (d + 3) M_Row_tellFraction [.ref 3, .long (lN u), .long (lN v)] (ev_mk h J L) = ev_rn (ev_mk h p.1 p.2) ∧ exc [3] J p.1 ∧ (∀ a, a ≠ 4 → p.2 a = L a) ∧ rwC p.1 p.2 (frc u v) := by
  rw [e_Row_tellFraction_0]
  unfold frc
  by_cases h0 : u = 0
  · obtain ⟨K, L1, e1, x1, l1, r1⟩ := t_two (h := h) (I := J) (L := L) (x := 0) (y := 1) d
    refine ⟨(K, L1), ?_, x1, l1, by rw [if_pos h0]; exact r1⟩
    rw [if_pos ((cmp0 (by omega)).mpr h0), e_Row_tellFraction_12, e1, k_V, k_1, k_2, k_3]
  · have hv0 : v ≠ 0 := fun z => h0 (huv z)
    rw [if_neg (fun z => h0 ((cmp0 (by omega)).mp z)), if_neg (fun z => hv0 ((cmp0 (by omega)).mp z)), if_neg h0]
    have hg0 : Nat.gcd u v ≠ 0 := fun z => h0 (Nat.gcd_eq_zero_iff.mp z).1
    have hgu : Nat.gcd u v ≤ v := Nat.gcd_le_right u (by omega)
    obtain ⟨K, L1, e1, x1, l1, r1⟩ := t_two (h := h) (I := J) (L := L) (x := lN (u / Nat.gcd u v)) (y := lN (v / Nat.gcd u v)) d
    have e63 : ev_at (d + 2) M_Row_tellFraction 63 [.ref 3, .long (lN u), .float 0, .long (lN v), .float 0, .long (lN (Nat.gcd u v)), .float 0, .float 0, .float 0, .float 0, .float 0, .float 0] [] (ev_mk h J L) = ev_rn (ev_mk h K L1) := by
      rw [e_Row_tellFraction_63, if_neg (fun z => hg0 ((cmp0 (by omega)).mp z)), if_neg (fun z => hg0 ((l0 (by omega)).mp z)), if_neg (fun z => hg0 ((l0 (by omega)).mp z)), pk_lDiv (by omega) (by omega) (by omega), pk_lDiv (by omega) (by omega) (by omega), e1, k_V, k_1, k_2, k_3]
    refine lpX (σ := Nat × Nat) (τ := sIL) (F := fun i q => ev_at (d + 2) M_Row_tellFraction 28 [.ref 3, .long (lN u), .float 0, .long (lN v), .float 0, .long (lN q.1), .float 0, .long (lN q.2), .float 0, .int (nI i), .float 0, .float 0] [] (ev_mk h J L)) (fun i q => Nat.gcd q.1 q.2 = Nat.gcd u v ∧ q.1 < 2 ^ 62 ∧ q.2 ≤ 100000000 ∧ (i ≠ 0 → q.2 < q.1 ∧ q.1 ≤ 100000000 ∧ q.1 * q.2 * 2 ^ i < 2 ^ 56)) 100 ?_ ?_ 0 (by omega) (u, v) ⟨rfl, hu, hv, fun z => absurd rfl z⟩
    · intro i q hi' ⟨p1, p2, p3, p4⟩
      rw [e_Row_tellFraction_28, if_pos (show nI i < (100 : Int32) from (q_lt (b := 100) (by omega) (by omega)).mpr hi')]
      by_cases e : q.2 = 0
      · refine Or.inr ⟨(K, L1), ?_, x1, l1, r1⟩
        rw [e, Nat.gcd_zero_right] at p1
        rw [if_pos ((cmp0 (by omega)).mpr e), p1, e63]
      · refine Or.inl ⟨(q.2, q.1 % q.2), ?_, ?_, by show q.2 < 2 ^ 62; omega, ?_, fun _ => ?_⟩
        · rw [if_neg (fun z => e ((cmp0 (by omega)).mp z)), if_neg (fun z => e ((l0 (by omega)).mp z)), pk_lRem (by omega) (by omega) (by omega), show nI i + 1 = nI (i + 1) from q_add i 1]
        · show Nat.gcd q.2 (q.1 % q.2) = _
          rw [← p1, Nat.gcd_comm q.2, ← Nat.gcd_rec, Nat.gcd_comm]
        · show q.1 % q.2 ≤ 100000000
          have := Nat.mod_lt q.1 (show 0 < q.2 by omega)
          omega
        · have hm := Nat.mod_lt q.1 (show 0 < q.2 by omega)
          refine ⟨hm, p3, ?_⟩
          show q.2 * (q.1 % q.2) * 2 ^ (i + 1) < 2 ^ 56
          by_cases ei : i = 0
          · subst ei
            have h1 : q.2 * (q.1 % q.2) ≤ 100000000 * 100000000 := Nat.mul_le_mul p3 (by omega)
            omega
          · obtain ⟨s1, s2, s3⟩ := p4 ei
            have hh := mod_half (show 0 < q.2 by omega) (show q.2 ≤ q.1 by omega)
            have h2 : q.2 * (2 * (q.1 % q.2)) ≤ q.2 * q.1 := Nat.mul_le_mul_left _ hh
            have h3 : q.2 * (q.1 % q.2) * 2 ^ (i + 1) = q.2 * (2 * (q.1 % q.2)) * 2 ^ i := by
              rw [Nat.pow_succ, Nat.mul_comm (2 ^ i) 2, ← Nat.mul_assoc, Nat.mul_assoc q.2, Nat.mul_comm (q.1 % q.2) 2]
            rw [h3]
            refine Nat.lt_of_le_of_lt (Nat.mul_le_mul_right _ h2) ?_
            rw [Nat.mul_comm q.2 q.1]; exact s3
    · intro q ⟨p1, p2, p3, p4⟩
      obtain ⟨s1, s2, s3⟩ := p4 (by omega)
      have hq2 : q.2 = 0 := by
        refine Classical.byContradiction fun z => ?_
        have h1 : 1 ≤ q.1 * q.2 := Nat.mul_pos (by omega) (by omega)
        have h2 : 1 * 2 ^ 100 ≤ q.1 * q.2 * 2 ^ 100 := Nat.mul_le_mul_right _ h1
        omega
      rw [hq2, Nat.gcd_zero_right] at p1
      refine ⟨(K, L1), ?_, x1, l1, r1⟩
      rw [e_Row_tellFraction_28, if_neg (by decide), p1, e63]
theorem c_common1 : ∀ (n d a b : Nat), b < a → a ≤ 100000000 → a * b < 2 ^ n → ev_do (d + n + 1) M_Mo_common [.long (lN a), .long (lN b)] (ev_mk h J L) = ev_rl (lN (Nat.gcd a b)) (ev_mk h J L) := by
  intro n
  induction n with
  | zero =>
    intro d a b h1 h2 h3
    have hb : b = 0 := by
      refine Classical.byContradiction fun z => ?_
      have : 1 ≤ a * b := Nat.mul_pos (by omega) (by omega)
      omega
    subst hb
    rw [e_Mo_common_0, if_pos ((cmp0 (by decide)).mpr rfl), Nat.gcd_zero_right]
  | succ n ih =>
    intro d a b h1 h2 h3
    rw [e_Mo_common_0]
    by_cases hb : b = 0
    · subst hb
      rw [if_pos ((cmp0 (by decide)).mpr rfl), Nat.gcd_zero_right]
    · have hh := mod_half (show 0 < b by omega) (show b ≤ a by omega)
      have h4 : b * (2 * (a % b)) ≤ b * a := Nat.mul_le_mul_left _ hh
      have h5 : b * (a % b) < 2 ^ n := by
        rw [Nat.pow_succ] at h3
        have : b * (2 * (a % b)) = 2 * (b * (a % b)) := by rw [← Nat.mul_assoc, Nat.mul_comm b 2, Nat.mul_assoc]
        rw [this, Nat.mul_comm b a] at h4
        omega
      have := ih d b (a % b) (Nat.mod_lt a (by omega)) (by omega) h5
      rw [if_neg (fun z => hb ((cmp0 (by omega)).mp z)), if_neg (fun z => hb ((l0 (by omega)).mp z)), pk_lRem (by omega) (by omega) (by omega), show d + (n + 1) = d + n + 1 from rfl, this, k_L, k_1, k_2, k_3, show Nat.gcd b (a % b) = Nat.gcd a b by rw [Nat.gcd_comm b, ← Nat.gcd_rec, Nat.gcd_comm]]
theorem c_common (d : Nat) {u v : Nat} (hu : u < 2 ^ 62) (hv : v ≤ 100000000) (hv0 : 0 < v) : ev_do (d + 60) M_Mo_common [.long (lN u), .long (lN v)] (ev_mk h J L) = ev_rl (lN (Nat.gcd u v)) (ev_mk h J L) := by
  rw [e_Mo_common_0, if_neg (fun z => absurd ((cmp0 (by omega)).mp z) (by omega)), if_neg (fun z => absurd ((l0 (by omega)).mp z) (by omega)), pk_lRem (by omega) hv0 (by omega)]
  have hm := Nat.mod_lt u hv0
  have := c_common1 (h := h) (J := J) (L := L) 58 d v (u % v) hm hv (by
    have h1 : v * (u % v) ≤ 100000000 * 100000000 := Nat.mul_le_mul hv (by omega)
    omega)
  rw [show d + 59 = d + 58 + 1 from rfl, this, k_L, k_1, k_2, k_3, show Nat.gcd v (u % v) = Nat.gcd u v by rw [Nat.gcd_comm v, ← Nat.gcd_rec, Nat.gcd_comm]]
theorem c_fracM (d : Nat) {u v : Nat} (hu : u < 2 ^ 62) (hv : v ≤ 100000000) (hv0 : 0 < v) : ∃ p : sIL, ev_do (d + 61) M_Mo_tellsFraction [.ref 139, .long (lN u), .long (lN v)] (ev_mk h J L) = ev_rn (ev_mk h p.1 p.2) ∧ exc [139] J p.1 ∧ (∀ j, j ≠ 1 → p.1 139 j = J 139 j) ∧ (∀ a, a ≠ 140 → p.2 a = L a) ∧ rwM p.1 p.2 (frc u v) := by
  have hg0 : Nat.gcd u v ≠ 0 := fun z => by have := (Nat.gcd_eq_zero_iff.mp z).2; omega
  have hgu : Nat.gcd u v ≤ v := Nat.gcd_le_right u hv0
  obtain ⟨K2, L2, e2, x2, n2, l2, r2⟩ := t_enters (h := h) (x := lN (u / Nat.gcd u v)) (d + 59) (rwM.nil (I := J) (L := L)) (show 0 < 24 by decide)
  obtain ⟨K3, L3, e3, x3, n3, l3, r3⟩ := t_enters (h := h) (x := lN (v / Nat.gcd u v)) (d + 59) r2 (show 1 < 24 by decide)
  refine ⟨(K3, L3), ?_, ((exc.rf.up (by simp)).tr x2).tr x3, fun j hj => by show K3 139 j = _; rw [n3 j hj, n2 j hj, u_j hj], fun a ha => (l3 a ha).trans (l2 a ha), ?_⟩
  · rw [e_Mo_tellsFraction_0, c_common d hu hv hv0, k_L, k_1, k_2, k_3, if_neg (fun z => hg0 ((l0 (by omega)).mp z)), pk_lDiv (by omega) (by omega) (by omega), e2, k_V, k_1, k_2, k_3, if_neg (fun z => hg0 ((l0 (by omega)).mp z)), pk_lDiv (by omega) (by omega) (by omega), e3, k_V, k_1, k_2, k_3]
  · unfold frc
    by_cases h0 : u = 0
    · subst h0
      rw [if_pos rfl]
      rw [Nat.gcd_zero_left, Nat.zero_div, Nat.div_self hv0] at r3
      exact r3
    · rw [if_neg h0]; exact r3
theorem c_raised (d : Nat) {b n : Nat} (hn : n < 100) : ev_do (d + 1) M_SL_raised [.long (lN b), .int (nI n)] (ev_mk h J L) = ev_rl (lN (b ^ n)) (ev_mk h J L) := by
  rw [e_SL_raised_0]
  refine lpE (F := fun i (_ : Unit) => ev_at d M_SL_raised 5 [.long (lN b), .float 0, .int (nI n), .long (lN (b ^ i)), .float 0, .int (nI i)] [] (ev_mk h J L)) (fun _ _ => True) (fun o => o = ev_rl (lN (b ^ n)) (ev_mk h J L)) n ?_ ?_ 0 (by omega) () trivial
  · intro i _ hi _
    refine Or.inl ⟨(), ?_, trivial⟩
    rw [e_SL_raised_5, if_pos ((q_lt (by omega) (by omega)).mpr hi), lN_mul, ← Nat.pow_succ, show nI i + 1 = nI (i + 1) from q_add i 1]
  · intro _ _
    rw [e_SL_raised_5, if_neg (fun z => absurd ((q_lt (by omega) (by omega)).mp z) (by omega))]
/-- the chance of a strike, in 10^8 parts -/
def pd (p st : Nat) : Nat → Nat
  | 0 => 1
  | l + 1 => pd p st l * (if st.testBit l then p else 10 - p)
theorem pd_pw (p st : Nat) : ∀ l, pd p st l = p ^ fb_ct (fun i => st.testBit i) l * (10 - p) ^ (l - fb_ct (fun i => st.testBit i) l)
  | 0 => rfl
  | l + 1 => by
    have hle := fb_ct_le (fun i => st.testBit i) l
    rw [pd, pd_pw p st l, fb_ct_succ]
    cases st.testBit l with
    | true =>
      simp only [if_true]
      rw [Nat.pow_succ, show l + 1 - (fb_ct (fun i => st.testBit i) l + 1) = l - fb_ct (fun i => st.testBit i) l by omega, Nat.mul_assoc, Nat.mul_comm ((10 - p) ^ _) p, ← Nat.mul_assoc]
    | false =>
      simp only [Bool.false_eq_true, if_false, Nat.add_zero]
      rw [show l + 1 - fb_ct (fun i => st.testBit i) l = (l - fb_ct (fun i => st.testBit i) l) + 1 by omega, Nat.pow_succ, ← Nat.mul_assoc]
theorem pd_le {p st : Nat} (hp : p ≤ 10) : ∀ l, pd p st l ≤ 10 ^ l
  | 0 => Nat.le_refl _
  | l + 1 => by
    rw [pd, Nat.pow_succ]
    refine Nat.mul_le_mul (pd_le hp l) ?_
    split <;> omega
def upS2 (A : aP) (a b p : Nat) (n : Nat) : Nat := sm (fun st => if on A a b st then pd p st 8 else 0) n
theorem upS2_le {a b p : Nat} (hp : p ≤ 10) (n : Nat) : upS2 A a b p n ≤ 100000000 * n := sm_le (fun st => by
  have := pd_le (st := st) hp 8
  split <;> omega) n
theorem op_misread {x y z : Int32} (hi : inv I L) : okI h d M_SL_misread M_Mo_misread [.int x, .int y, .int z] I L := by
  refine ok_q (fun A hw => ?_) hi
  have hW := hw.2.2.1.1
  have rC : ∀ (I : Nat → Nat → Int32) (L : Nat → Nat → Int64), invC I L A → ev_do (d + 100) M_SL_misread (.ref 0 :: [.int x, .int y, .int z]) (ev_mk h I L) = if (blw x (aBk A).1 && blw y (aBk A).1 && decide (x ≠ y)) && blw z 11 then ev_at (d + 99) M_SL_misread 30 [.ref 0, .int x, .int y, .int z, .long 0, .float 0, .int 0] [] (ev_mk h I L) else ev_ri (-1) (ev_mk h I L) := by
    intro I L hi
    rw [e_SL_misread_0, c_Book_hasBoth (d + 97) hi.2.2.1.1.1, k_I, k_1, k_2, k_3, show (10 : Int32) = nI 10 from rfl, r_two (by omega)]
    cases blw x (aBk A).1 && blw y (aBk A).1 && decide (x ≠ y) with
    | false => rw [if_pos (show fl false = 0 from rfl)]; rfl
    | true => rw [if_neg (show ¬ fl true = 0 by decide), Bool.true_and]
  have rM : ∀ (I : Nat → Nat → Int32) (L : Nat → Nat → Int64), invM I L A → ev_do (d + 100) M_Mo_misread (.ref 139 :: [.int x, .int y, .int z]) (ev_mk h I L) = if (blw x (aBk A).1 && blw y (aBk A).1 && decide (x ≠ y)) && blw z 11 then ev_at (d + 99) M_Mo_misread 34 [.ref 139, .int x, .int y, .int z, .long 0, .float 0, .int 0, .float 0, .float 0, .float 0] [] (ev_mk h (ev_up I 139 0 0) L) else ev_ri (-1) (ev_mk h (ev_up I 139 0 0) L) := by
    intro I L hi
    rw [e_Mo_misread_0, c_Mo_arePair (d + 96) hi.th.2.2.1.1 hW, k_I, k_1, k_2, k_3]
    cases blw x (aBk A).1 && blw y (aBk A).1 && decide (x ≠ y) with
    | false => rw [if_pos (show fl false = 0 from rfl)]; rfl
    | true =>
      rw [if_neg (show ¬ fl true = 0 by decide), c_in10, k_I, k_1, k_2, k_3, Bool.true_and]
      cases blw z 11 with
      | false => rw [if_pos (show fl false = 0 from rfl)]; rfl
      | true => rw [if_neg (show ¬ fl true = 0 by decide), if_pos (c := true = true) rfl]
  cases hc : (blw x (aBk A).1 && blw y (aBk A).1 && decide (x ≠ y)) && blw z 11 with
  | false =>
    rw [hc] at rC rM
    exact no_q (v := -1) hw (fun I L hi => (rC I L hi).trans (if_neg (by decide))) (fun I L hi => (rM I L hi).trans (if_neg (by decide)))
  | true =>
    rw [hc] at rC rM
    rw [Bool.and_eq_true, Bool.and_eq_true, Bool.and_eq_true] at hc
    obtain ⟨⟨⟨c1, c2⟩, c3⟩, c4⟩ := hc
    obtain ⟨a, ha, rfl⟩ := (blw_iff (by omega)).mp c1
    obtain ⟨b, hb, rfl⟩ := (blw_iff (by omega)).mp c2
    obtain ⟨p, hp, rfl⟩ := (blw_iff (by omega)).mp c4
    have hup := upS2_le (A := A) (a := a) (b := b) (show p ≤ 10 by omega) 256
    have e10 : (10 : Int32) - nI p = nI (10 - p) := q_sub (a := 10) (by omega)
    refine ⟨0, frc (upS2 A a b p 256) 100000000, by rw [frc_len]; decide, fun I L hi => ?_, fun I L hi => ?_⟩
    · have lp : ev_at (d + 99) M_SL_misread 30 [.ref 0, .int (nI a), .int (nI b), .int (nI p), .long (lN (upS2 A a b p 0)), .float 0, .int (nI 0)] [] (ev_mk h I L) = ev_at (d + 99) M_SL_misread 30 [.ref 0, .int (nI a), .int (nI b), .int (nI p), .long (lN (upS2 A a b p 256)), .float 0, .int (nI 256)] [] (ev_mk h I L) := by
        refine lpE (F := fun i (_ : Unit) => ev_at (d + 99) M_SL_misread 30 [.ref 0, .int (nI a), .int (nI b), .int (nI p), .long (lN (upS2 A a b p i)), .float 0, .int (nI i)] [] (ev_mk h I L)) (fun _ _ => True) (fun o => o = ev_at (d + 99) M_SL_misread 30 [.ref 0, .int (nI a), .int (nI b), .int (nI p), .long (lN (upS2 A a b p 256)), .float 0, .int (nI 256)] [] (ev_mk h I L)) 256 ?_ (fun _ _ => rfl) 0 (by omega) () trivial
        intro i _ hi' _
        refine Or.inl ⟨(), ?_, trivial⟩
        have k1 := c_Book_areOne (h := h) (L := L) (s := i) (d + 95) hi.2.2.1.1 (show a < 8 by omega) (show b < 8 by omega) (hi.u hw frC.rf a ha) (hi.u hw frC.rf b hb)
        rw [show fl (decide (looks ((aBk A).2.2 a) ((aBk A).2.1 a) (uO (aS A) a) i = looks ((aBk A).2.2 b) ((aBk A).2.1 b) (uO (aS A) b) i)) = fl (on A a b i) from rfl] at k1
        have hpc := pcn_le i
        have eU : upS2 A a b p (i + 1) = upS2 A a b p i + if on A a b i then pd p i 8 else 0 := rfl
        rw [eU, e_SL_misread_30, if_pos (show nI i < (256 : Int32) from (q_lt (b := 256) (by omega) (by omega)).mpr hi'), k1, k_I, k_1, k_2, k_3, show nI i + 1 = nI (i + 1) from q_add i 1]
        cases on A a b i with
        | false => rw [if_pos (show fl false = 0 from rfl), if_neg (by decide)]; rfl
        | true =>
          rw [if_neg (show ¬ fl true = 0 by decide), if_pos rfl, e_SL_chanceOf_0, c_bitCount (d + 97) hi', k_I, k_1, k_2, k_3, nI_l (by omega), c_raised (d + 97) (by omega), k_L, k_1, k_2, k_3, e10, nI_l (by omega), show (8 : Int32) - nI (pcn i) = nI (8 - pcn i) from q_sub (a := 8) (by omega), c_raised (d + 97) (by omega), k_L, k_1, k_2, k_3, k_L, k_1, k_2, k_3, lN_mul, lN_add, pd_pw]
          rfl
      obtain ⟨q, e1, x1, l1, r1⟩ := c_frac (h := h) (J := I) (L := L) (d + 96) (u := upS2 A a b p 256) (v := 100000000) (by omega) (by omega) (by omega)
      refine ⟨q, ?_, frC.rf.x x1 (by simp [scC]), r1, l1 140 (by omega)⟩
      rw [rC I L hi, if_pos rfl]
      refine lp.trans ?_
      rw [e_SL_misread_30, if_neg (by decide), show (.long 10 : Value) = .long (lN 10) from rfl, show (.int 8 : Value) = .int (nI 8) from rfl, c_raised (d + 98) (by omega), k_L, k_1, k_2, k_3, show 10 ^ 8 = 100000000 by decide, e1, k_V, k_1, k_2, k_3]
    · have lp : ∃ K, ev_at (d + 99) M_Mo_misread 34 [.ref 139, .int (nI a), .int (nI b), .int (nI p), .long (lN (upS2 A a b p 0)), .float 0, .int (nI 0), .float 0, .float 0, .float 0] [] (ev_mk h (ev_up I 139 0 0) L) = ev_at (d + 99) M_Mo_misread 34 [.ref 139, .int (nI a), .int (nI b), .int (nI p), .long (lN (upS2 A a b p 256)), .float 0, .int (nI 256), .float 0, .float 0, .float 0] [] (ev_mk h K L) ∧ frM I K := by
        refine lpX (F := fun i J => ev_at (d + 99) M_Mo_misread 34 [.ref 139, .int (nI a), .int (nI b), .int (nI p), .long (lN (upS2 A a b p i)), .float 0, .int (nI i), .float 0, .float 0, .float 0] [] (ev_mk h J L)) (fun i J => frM I J) 256 ?_ (fun J p1 => ⟨J, rfl, p1⟩) 0 (by omega) _ frM.t0
        intro i J hi' p1
        obtain ⟨K, g1, g2, g3⟩ := xOne (h := h) (L' := L) (d + 96) hw hi p1 ha hb i
        refine Or.inl ⟨K, ?_, g2⟩
        have eU : upS2 A a b p (i + 1) = upS2 A a b p i + if on A a b i then pd p i 8 else 0 := rfl
        have inn : ∀ c : Nat, c ≤ 1 → ev_at (d + 99) M_Mo_misread 63 [.ref 139, .int (nI a), .int (nI b), .int (nI p), .long (lN (upS2 A a b p i)), .float 0, .int (nI i), .long (lN (c * pd p i 0)), .float 0, .int (nI 0)] [] (ev_mk h K L) = ev_at (d + 99) M_Mo_misread 34 [.ref 139, .int (nI a), .int (nI b), .int (nI p), .long (lN (upS2 A a b p i + c * pd p i 8)), .float 0, .int (nI (i + 1)), .float 0, .float 0, .float 0] [] (ev_mk h K L) := by
          intro c hc
          refine lpE (F := fun l (_ : Unit) => ev_at (d + 99) M_Mo_misread 63 [.ref 139, .int (nI a), .int (nI b), .int (nI p), .long (lN (upS2 A a b p i)), .float 0, .int (nI i), .long (lN (c * pd p i l)), .float 0, .int (nI l)] [] (ev_mk h K L)) (fun _ _ => True) (fun o => o = ev_at (d + 99) M_Mo_misread 34 [.ref 139, .int (nI a), .int (nI b), .int (nI p), .long (lN (upS2 A a b p i + c * pd p i 8)), .float 0, .int (nI (i + 1)), .float 0, .float 0, .float 0] [] (ev_mk h K L)) 8 ?_ ?_ 0 (by omega) () trivial
          · intro l _ hl _
            refine Or.inl ⟨(), ?_, trivial⟩
            rw [e_Mo_misread_63, if_pos (show nI l < (8 : Int32) from (q_lt (b := 8) (by omega) (by omega)).mpr hl), xHas (d + 98) (by omega), k_I, k_1, k_2, k_3, e10, nI_l (by omega), nI_l (by omega), lN_mul, lN_mul, show nI l + 1 = nI (l + 1) from q_add l 1, pd, ← Nat.mul_assoc]
            cases i.testBit l with
            | true => rw [if_neg (show ¬ fl true = 0 by decide), if_pos rfl]
            | false => rw [if_pos (show fl false = 0 from rfl), if_neg (by decide)]
          · intro _ _
            rw [e_Mo_misread_63, if_neg (by decide), lN_add, show nI i + 1 = nI (i + 1) from q_add i 1]
        rw [eU, e_Mo_misread_34, if_pos (show nI i < (256 : Int32) from (q_lt (b := 256) (by omega) (by omega)).mpr hi'), g1, k_I, k_1, k_2, k_3, c_Mo_flag (d + 98), k_I, k_1, k_2, k_3]
        cases on A a b i with
        | true =>
          have := inn 1 (by omega)
          rw [Nat.one_mul, Nat.one_mul] at this
          rw [if_pos rfl]
          exact this
        | false =>
          have := inn 0 (by omega)
          rw [Nat.zero_mul, Nat.zero_mul] at this
          rw [if_neg (by decide)]
          exact this
      obtain ⟨K, e2, f2⟩ := lp
      obtain ⟨q, e1, x1, n1, l1, r1⟩ := c_fracM (h := h) (J := K) (L := L) (d + 38) (u := upS2 A a b p 256) (v := 100000000) (by omega) (by omega) (by omega)
      refine ⟨q, ?_, f2.e x1 n1, r1, l1 4 (by omega)⟩
      rw [rM I L hi, if_pos rfl]
      refine e2.trans ?_
      rw [e_Mo_misread_34, if_neg (by decide), show (.long 100000000 : Value) = .long (lN 100000000) from rfl, e1, k_V, k_1, k_2, k_3]
end OT
