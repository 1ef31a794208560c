/-! Calls: most, safe. -/
def sub (k s : Nat) : Bool := (List.range 8).all fun i => !k.testBit i || s.testBit i
theorem sub_iff {k s : Nat} : sub k s = true ↔ ∀ i, i < 8 → (!k.testBit i || s.testBit i) = true := by
  unfold sub
  rw [List.all_eq_true]
  exact ⟨fun z i hi => z i (List.mem_range.mpr hi), fun z i hi => z i (List.mem_range.mp hi)⟩
theorem sub_at {k s i : Nat} (h : sub k s = true) (hi : i < 8) (hk : k.testBit i = true) : s.testBit i = true := by
  have := sub_iff.mp h i hi
  rw [hk] at this
  exact this
theorem z_sub {k s : Nat} (hk : k < 256) : nI k &&& (nI s ^^^ (-1)) = 0 ↔ sub k s = true := by
  rw [sub_iff]
  constructor
  · intro z i hi
    have h1 : bt (nI k &&& (nI s ^^^ (-1))) i = false := by rw [z]; exact b_0 i
    rw [b_and, b_xor, b_m1 i (by omega), x_bt (by omega), x_bt (by omega)] at h1
    cases hs : s.testBit i with
    | true => simp
    | false =>
      cases hb : k.testBit i with
      | false => rfl
      | true => rw [hs, hb] at h1; cases h1
  · intro z
    apply b_ext
    intro i hi
    rw [b_and, b_xor, b_m1 i hi, x_bt hi, x_bt hi, b_0]
    cases hb : k.testBit i with
    | false => rfl
    | true =>
      have : i < 8 := by
        by_cases e : i < 8
        · exact e
        · rw [Nat.testBit_lt_two_pow (Nat.lt_of_lt_of_le hk (show 2 ^ 8 ≤ 2 ^ i from Nat.pow_le_pow_right (by decide) (by omega)))] at hb; cases hb
      have h2 := z i this
      rw [hb] at h2
      rw [show s.testBit i = true from h2]; rfl
theorem sub_le {k s : Nat} (hk : k < 256) (h : sub k s = true) : k ≤ s := by
  have e : k &&& s = k := by
    apply Nat.eq_of_testBit_eq
    intro i
    rw [Nat.testBit_and]
    cases hb : k.testBit i with
    | false => rfl
    | true =>
      have : i < 8 := by
        by_cases e : i < 8
        · exact e
        · rw [Nat.testBit_lt_two_pow (Nat.lt_of_lt_of_le hk (show 2 ^ 8 ≤ 2 ^ i from Nat.pow_le_pow_right (by decide) (by omega)))] at hb; cases hb
      rw [sub_at h this hb]; rfl
  rw [← e]; exact Nat.and_le_right
/-- the first of the most below k -/
def bM (Q : Nat → Bool) : Nat → Nat
  | 0 => 0
  | k + 1 => if decide (pcn (bM Q k) < pcn k) && Q k then k else bM Q k
theorem bM_lt (Q : Nat → Bool) : ∀ k, k ≤ 256 → bM Q k < 256
  | 0, _ => (show 0 < 256 by decide)
  | k + 1, hk => by
    rw [bM]
    split
    · omega
    · exact bM_lt Q k (by omega)
theorem bM_cut {Q : Nat → Bool} {n : Nat} (h : ∀ k, n ≤ k → k < 256 → Q k = false) : ∀ m, n + m ≤ 256 → bM Q (n + m) = bM Q n
  | 0, _ => rfl
  | m + 1, hm => by rw [← Nat.add_assoc, bM, h (n + m) (by omega) (by omega), Bool.and_false, if_neg (by decide), bM_cut h m (by omega)]
theorem bM_congr {Q Q' : Nat → Bool} : ∀ {k : Nat}, (∀ i, i < k → Q i = Q' i) → bM Q k = bM Q' k
  | 0, _ => rfl
  | k + 1, h => by rw [bM, bM, bM_congr (k := k) (fun i hi => h i (by omega)), h k (by omega)]
section OK
variable {h : Bool × Nat × Nat} {d : Nat} {I J : Nat → Nat → Int32} {L : Nat → Nat → Int64} {A : aP}
theorem xUl (d : Nat) (hw : wfA A) (hi : invC I L A) (f : frC I J) {L' : Nat → Nat → Int64} : ev_do (d + 2) M_Book_unsaidLetters [.ref 5, .ref 17] (ev_mk h J L') = ev_ri (nI (unL A)) (ev_mk h J L') := c_Book_unsaidLetters d (hi.bk f).1 (hi.u hw f)
theorem xUm (d : Nat) (hw : wfA A) (hi : invM I L A) (f : frM I J) {L' : Nat → Nat → Int64} : ev_do (d + 3) M_Mo_unsaid [.ref 139, .ref 143] (ev_mk h J L') = ev_ri (nI (unL A)) (ev_mk h J L') := c_Mo_unsaid d (hi.bk f) (Or.inl rfl) (hi.u hw f)
theorem ones_bit {W a : Nat} (ha : a < W) : (2 ^ W - 1).testBit a = true := by rw [Nat.testBit_two_pow_sub_one]; simpa using ha
theorem op_most (hi : inv I L) : okI h d M_SL_most M_Mo_most [] I L := by
  refine ok_q (fun A hw => ?_) hi
  have hW := hw.2.2.1.1
  have h8 := pw8 hW
  have hp1 : 0 < 2 ^ (aBk A).1 := Nat.two_pow_pos _
  have hun := unL_lt A
  obtain ⟨Q, hQ⟩ : ∃ Q : Nat → Bool, Q = fun k => sub k (unL A) && apA A 255 k := ⟨_, rfl⟩
  have hQk : ∀ k, Q k = (sub k (unL A) && apA A 255 k) := fun k => by rw [hQ]
  have hap : ∀ k, apA A (2 ^ (aBk A).1 - 1) k = apA A 255 k := fun k => apA_ws (fun a ha => by rw [ones_bit ha, b255 a (by omega)])
  have hcut : bM Q 256 = bM Q (unL A + 1) := by
    have := bM_cut (Q := Q) (n := unL A + 1) (fun k h1 h2 => by
      rw [hQk]
      cases hs : sub k (unL A) with
      | false => rfl
      | true => have := sub_le h2 hs; omega) (256 - (unL A + 1)) (by omega)
    rw [show unL A + 1 + (256 - (unL A + 1)) = 256 by omega] at this
    exact this
  have hq := bM_lt Q 256 (Nat.le_refl _)
  refine ⟨nI (pcn (bM Q 256)), snoc nil0 (nI (bM Q 256)).toInt64, show 1 ≤ 9 by decide, fun I L hi => ?_, fun I L hi => ?_⟩
  · have lp : ∃ K, ev_at (d + 99) M_SL_most 16 [.ref 0, .int (nI (unL A)), .int (nI (bM Q 0)), .int (nI 0)] [] (ev_mk h I L) = ev_at (d + 99) M_SL_most 16 [.ref 0, .int (nI (unL A)), .int (nI (bM Q 256)), .int (nI 256)] [] (ev_mk h K L) ∧ frC I K := by
      refine lpX (F := fun i J => ev_at (d + 99) M_SL_most 16 [.ref 0, .int (nI (unL A)), .int (nI (bM Q i)), .int (nI i)] [] (ev_mk h J L)) (fun i J => frC I J) 256 ?_ (fun J p1 => ⟨J, rfl, p1⟩) 0 (by omega) I frC.rf
      intro i J hi' p1
      have hb := bM_lt Q i (by omega)
      have h1 := pcn_le i
      have h2 := pcn_le (bM Q i)
      rw [e_SL_most_16, if_pos (show nI i < (256 : Int32) from (q_lt (b := 256) (by omega) (by omega)).mpr hi'), show nI i + 1 = nI (i + 1) from q_add i 1, bM, hQk]
      cases hs : sub i (unL A) with
      | false =>
        refine Or.inl ⟨J, ?_, p1⟩
        rw [if_neg (fun z => by rw [(z_sub hi').mp z] at hs; cases hs), Bool.false_and, Bool.and_false, if_neg (by decide)]
      | true =>
        rw [if_pos ((z_sub hi').mpr hs), c_bitCount (d + 98) hi', k_I, k_1, k_2, k_3, c_bitCount (d + 98) hb, k_I, k_1, k_2, k_3]
        by_cases e : pcn (bM Q i) < pcn i
        · obtain ⟨K, g1, g2, g3⟩ := xAp (h := h) (L' := L) (d + 94) hw hi p1 255 i
          refine Or.inl ⟨K, ?_, g2⟩
          rw [if_pos ((q_lt (by omega) (by omega)).mpr e), show (.int 255 : Value) = .int (nI 255) from rfl, g1, k_I, k_1, k_2, k_3, decide_eq_true e, Bool.true_and, Bool.true_and]
          cases apA A 255 i with
          | true => rw [if_neg (show ¬ fl true = 0 by decide), if_pos rfl]
          | false => rw [if_pos (show fl false = 0 from rfl), if_neg (by decide)]
        · refine Or.inl ⟨J, ?_, p1⟩
          rw [if_neg (fun z => e ((q_lt (by omega) (by omega)).mp z)), decide_eq_false e, Bool.false_and, if_neg (by decide)]
    obtain ⟨K, e1, f1⟩ := lp
    obtain ⟨p, e2, x2, l2, r2⟩ := c_tellSet (h := h) (J := K) (L := L) (d + 97) hq
    refine ⟨p, ?_, f1.x x2 (by simp [scC]), r2, l2 140 (by omega)⟩
    rw [e_SL_most_0, xUl (d + 97) hw hi frC.rf, k_I, k_1, k_2, k_3]
    refine e1.trans ?_
    rw [e_SL_most_16, if_neg (by decide), e2, k_I, k_1, k_2, k_3]
  · have lp : ∃ K, ev_at (d + 99) M_Mo_most 18 [.ref 139, .int (nI (unL A)), .int (nI (bM Q 0)), .int (nI 0)] [] (ev_mk h (ev_up I 139 0 0) L) = ev_at (d + 99) M_Mo_most 18 [.ref 139, .int (nI (unL A)), .int (nI (bM Q (unL A + 1))), .int (nI (unL A + 1))] [] (ev_mk h K L) ∧ frM I K := by
      refine lpX (F := fun i J => ev_at (d + 99) M_Mo_most 18 [.ref 139, .int (nI (unL A)), .int (nI (bM Q i)), .int (nI i)] [] (ev_mk h J L)) (fun i J => frM I J) (unL A + 1) ?_ (fun J p1 => ⟨J, rfl, p1⟩) 0 (by omega) _ frM.t0
      intro i J hi' p1
      have hb := bM_lt Q i (by omega)
      have h1 := pcn_le i
      have h2 := pcn_le (bM Q i)
      rw [e_Mo_most_18, if_neg (fun z => absurd ((q_lt (by omega) (by omega)).mp z) (by omega)), show nI i + 1 = nI (i + 1) from q_add i 1, bM, hQk]
      cases hs : sub i (unL A) with
      | false =>
        refine Or.inl ⟨J, ?_, p1⟩
        rw [if_neg (fun z => by rw [(z_sub (by omega)).mp z] at hs; cases hs), Bool.false_and, Bool.and_false, if_neg (by decide)]
      | true =>
        rw [if_pos ((z_sub (by omega)).mpr hs), c_bitCount (d + 98) (by omega), k_I, k_1, k_2, k_3, c_bitCount (d + 98) hb, k_I, k_1, k_2, k_3]
        by_cases e : pcn (bM Q i) < pcn i
        · obtain ⟨K, g1, g2, g3⟩ := xAm (h := h) (L' := L) (d + 95) hw hi p1 (2 ^ (aBk A).1 - 1) i
          refine Or.inl ⟨K, ?_, g2⟩
          rw [if_pos ((q_lt (by omega) (by omega)).mpr e), (hi.bk p1).1, z_pw hW, show nI (2 ^ (aBk A).1) - 1 = nI (2 ^ (aBk A).1 - 1) from q_sub (b := 1) (by omega), g1, k_I, k_1, k_2, k_3, decide_eq_true e, Bool.true_and, Bool.true_and, hap]
          cases apA A 255 i with
          | true => rw [if_neg (show ¬ fl true = 0 by decide), if_pos rfl]
          | false => rw [if_pos (show fl false = 0 from rfl), if_neg (by decide)]
        · refine Or.inl ⟨J, ?_, p1⟩
          rw [if_neg (fun z => e ((q_lt (by omega) (by omega)).mp z)), decide_eq_false e, Bool.false_and, if_neg (by decide)]
    obtain ⟨K, e1, f1⟩ := lp
    obtain ⟨p, e2, x2, n2, l2, r2⟩ := c_tellsSet (h := h) (J := K) (L := L) (d + 97) hq
    refine ⟨p, ?_, f1.e x2 n2, r2, l2 4 (by omega)⟩
    rw [e_Mo_most_0, xUm (d + 96) hw hi frM.t0, k_I, k_1, k_2, k_3]
    refine e1.trans ?_
    rw [e_Mo_most_18, if_pos ((q_lt (by omega) (by omega)).mpr (by omega)), ← hcut, e2, k_I, k_1, k_2, k_3]
/-- how often each pair is one, by the strikes that S takes, below n -/
def pct (A : aP) (S : Nat → Bool) (n a b : Nat) : Nat := fb_ct (fun st => S st && on A a b st) n
theorem pct_le (A : aP) (S : Nat → Bool) (n a b : Nat) : pct A S n a b ≤ n := fb_ct_le _ n
/-- the class's pairs hold these counts -/
def pr8 (A : aP) (K : Nat → Nat → Int32) (c : Nat → Nat → Nat) : Prop := ∀ a b, a < b → b < (aBk A).1 → K 134 (a * 8 + b) = nI (c a b)
theorem xCp (d : Nat) (hw : wfA A) (hi : invC I L A) (f : frC I J) (st : Nat) {c : Nat → Nat → Nat} (hc : pr8 A J c) {L' : Nat → Nat → Int64} : ∃ K, ev_do (d + 5) M_SL_countPairsThatAreOne [.ref 0, .int (nI st)] (ev_mk h J L') = ev_rn (ev_mk h K L') ∧ frC I K ∧ exc [133, 134] J K ∧ pr8 A K (fun a b => c a b + if on A a b st then 1 else 0) := by
  have hW := hw.2.2.1.1
  obtain ⟨K0, e1, f1, x1, c1⟩ := xSp (h := h) (L' := L') d hw hi f st
  rw [e_SL_countPairsThatAreOne_0, e1, k_V, k_1, k_2, k_3]
  refine lpP (F := fun a K => ev_at (d + 4) M_SL_countPairsThatAreOne 18 [.ref 0, .float 0, .int (nI a), .float 0] [] (ev_mk h K L')) (G := fun a b K => ev_at (d + 4) M_SL_countPairsThatAreOne 33 [.ref 0, .float 0, .int (nI a), .int (nI b)] [] (ev_mk h K L')) (fun a K => exc [134] K0 K ∧ ∀ a' b', a' < b' → b' < (aBk A).1 → K 134 (a' * 8 + b') = nI (if a' < a then c a' b' + (if on A a' b' st then 1 else 0) else c a' b')) (fun a b K => exc [134] K0 K ∧ ∀ a' b', a' < b' → b' < (aBk A).1 → K 134 (a' * 8 + b') = nI (if a' < a ∨ (a' = a ∧ b' < b) then c a' b' + (if on A a' b' st then 1 else 0) else c a' b')) (fun o => ∃ K, o = ev_rn (ev_mk h K L') ∧ frC I K ∧ exc [133, 134] J K ∧ pr8 A K (fun a b => c a b + if on A a b st then 1 else 0)) (aBk A).1 ?_ ?_ ?_ ?_ K0 ⟨exc.rf, fun a' b' h3 h4 => ?_⟩
  · intro a K ha ⟨p1, p2⟩
    refine ⟨K, ?_, p1, fun a' b' h3 h4 => ?_⟩
    · rw [e_SL_countPairsThatAreOne_18]; simp (disch := first | omega | assumption) only [(hi.bk (f1.x p1 (by simp [scC]))).1.1, k_I, k_L, k_V, k_1, k_2, k_3, q_cl, z_in, z_lt_t, z_lt_f, z_eq_t, z_eq_f, q_add, q_sub, q_mul, z_tt, z_bit, z_shl, u_at, u_c, u_j, fa_or, z_fl, z_flf, eq_self, ↓reduceIte, z_0, z_1, z_2, z_3, z_4, z_5, z_6, z_7, z_8, z_9, z_10, z_12, z_15, z_16, z_24, z_27, z_40, z_60, z_79, z_80, z_99, z_255, z_256, z_405, z_432, z_9999, z_1000000]
    · rw [p2 a' b' h3 h4]
      by_cases e : a' < a
      · rw [if_pos e, if_pos (Or.inl e)]
      · rw [if_neg e, if_neg (by omega)]
  · intro a b K hab hb ⟨p1, p2⟩
    have fK := f1.x p1 (by simp [scC])
    have q0 : K 134 (a * 8 + b) = nI (c a b) := by rw [p2 a b hab hb, if_neg (by omega)]
    have ca : K 133 a = nI (cod (lk A a st)) := by rw [p1 133 (by simp)]; exact c1 a (by omega)
    have cb : K 133 b = nI (cod (lk A b st)) := by rw [p1 133 (by simp)]; exact c1 b hb
    refine Or.inl ⟨ev_up K 134 (a * 8 + b) (nI (c a b + if on A a b st then 1 else 0)), ?_, p1.up (by simp), fun a' b' h3 h4 => ?_⟩
    · rw [e_SL_countPairsThatAreOne_33]
      cases ho : on A a b st with
      | true =>
        have := (cod_on hw (show a < (aBk A).1 by omega) hb st).mpr ho
        simp (disch := first | omega | assumption) only [(hi.bk fK).1.1, ca, cb, this, q0, k_I, k_L, k_V, k_1, k_2, k_3, q_cl, z_in, z_lt_t, z_lt_f, z_eq_t, z_eq_f, q_add, q_sub, q_mul, z_tt, z_bit, z_shl, u_at, u_c, u_j, fa_or, z_fl, z_flf, eq_self, ↓reduceIte, z_0, z_1, z_2, z_3, z_4, z_5, z_6, z_7, z_8, z_9, z_10, z_12, z_15, z_16, z_24, z_27, z_40, z_60, z_79, z_80, z_99, z_255, z_256, z_405, z_432, z_9999, z_1000000]
      | false =>
        have : ¬ nI (cod (lk A a st)) = nI (cod (lk A b st)) := fun z => by
          rw [(cod_on hw (show a < (aBk A).1 by omega) hb st).mp z] at ho; cases ho
        simp (disch := first | omega | assumption) only [(hi.bk fK).1.1, ca, cb, this, q0, Bool.false_eq_true, k_I, k_L, k_V, k_1, k_2, k_3, q_cl, z_in, z_lt_t, z_lt_f, z_eq_t, z_eq_f, q_add, q_sub, q_mul, z_tt, z_bit, z_shl, u_at, u_c, u_j, fa_or, z_fl, z_flf, eq_self, ↓reduceIte, z_0, z_1, z_2, z_3, z_4, z_5, z_6, z_7, z_8, z_9, z_10, z_12, z_15, z_16, z_24, z_27, z_40, z_60, z_79, z_80, z_99, z_255, z_256, z_405, z_432, z_9999, z_1000000]
    · by_cases e : a' = a ∧ b' = b
      · rw [e.1, e.2, u_at, if_pos (c := a < a ∨ (a = a ∧ b < b + 1)) (by omega)]
      · rw [u_j (by omega), p2 a' b' h3 h4]
        by_cases e2 : a' < a ∨ (a' = a ∧ b' < b)
        · rw [if_pos e2, if_pos (c := a' < a ∨ (a' = a ∧ b' < b + 1)) (by omega)]
        · rw [if_neg e2, if_neg (c := a' < a ∨ (a' = a ∧ b' < b + 1)) (by omega)]
  · intro a K ha ⟨p1, p2⟩
    refine ⟨K, ?_, p1, fun a' b' h3 h4 => ?_⟩
    · rw [e_SL_countPairsThatAreOne_33]; simp (disch := first | omega | assumption) only [(hi.bk (f1.x p1 (by simp [scC]))).1.1, k_I, k_L, k_V, k_1, k_2, k_3, q_cl, z_in, z_lt_t, z_lt_f, z_eq_t, z_eq_f, q_add, q_sub, q_mul, z_tt, z_bit, z_shl, u_at, u_c, u_j, fa_or, z_fl, z_flf, eq_self, ↓reduceIte, z_0, z_1, z_2, z_3, z_4, z_5, z_6, z_7, z_8, z_9, z_10, z_12, z_15, z_16, z_24, z_27, z_40, z_60, z_79, z_80, z_99, z_255, z_256, z_405, z_432, z_9999, z_1000000]
    · rw [p2 a' b' h3 h4]
      by_cases e : a' < a + 1
      · rw [if_pos e, if_pos (by omega)]
      · rw [if_neg e, if_neg (by omega)]
  · intro K ⟨p1, p2⟩
    have fK := f1.x p1 (by simp [scC])
    refine ⟨K, ?_, fK, (x1.mono (by simp)).tr (p1.mono (by simp)), fun a' b' h3 h4 => ?_⟩
    · rw [e_SL_countPairsThatAreOne_18]; simp (disch := first | omega | assumption) only [(hi.bk fK).1.1, k_I, k_L, k_V, k_1, k_2, k_3, q_cl, z_in, z_lt_t, z_lt_f, z_eq_t, z_eq_f, q_add, q_sub, q_mul, z_tt, z_bit, z_shl, u_at, u_c, u_j, fa_or, z_fl, z_flf, eq_self, ↓reduceIte, z_0, z_1, z_2, z_3, z_4, z_5, z_6, z_7, z_8, z_9, z_10, z_12, z_15, z_16, z_24, z_27, z_40, z_60, z_79, z_80, z_99, z_255, z_256, z_405, z_432, z_9999, z_1000000]
    · rw [p2 a' b' h3 h4, if_pos (by omega)]
  · rw [if_neg (by omega), x1 134 (by simp)]; exact hc a' b' h3 h4
theorem c_fill64 (d : Nat) {x : Int32} {L' : Nat → Nat → Int64} : ∃ I', ev_do (d + 1) M_Arr_fill [.ref 134, .int x] (ev_mk h J L') = ev_rn (ev_mk h I' L') ∧ exc [134] J I' ∧ ∀ j, j < 64 → I' 134 j = x := by
  rw [e_Arr_fill_0_v0]
  refine lpX (F := fun i K => ev_at d M_Arr_fill 5 [.ref 134, .int x, .int (nI i), .int (nI 64)] [] (ev_mk h K L')) (fun i K => exc [134] J K ∧ ∀ j, j < i → K 134 j = x) 64 ?_ ?_ 0 (by omega) J ⟨exc.rf, fun j hj => by omega⟩
  · intro i K hi ⟨p1, p2⟩
    refine Or.inl ⟨ev_up K 134 i x, ?_, p1.up (by simp), fun j hj => ?_⟩
    · rw [e_Arr_fill_5_v0]; simp (disch := first | omega | assumption) only [k_I, k_L, k_V, k_1, k_2, k_3, q_cl, z_in, z_lt_t, z_lt_f, z_eq_t, z_eq_f, q_add, q_sub, q_mul, z_tt, z_bit, z_shl, u_at, u_c, u_j, fa_or, z_fl, z_flf, eq_self, ↓reduceIte, z_0, z_1, z_2, z_3, z_4, z_5, z_6, z_7, z_8, z_9, z_10, z_12, z_15, z_16, z_24, z_27, z_40, z_60, z_79, z_80, z_99, z_255, z_256, z_405, z_432, z_9999, z_1000000]
    · by_cases e : j = i
      · rw [e, u_at]
      · rw [u_j e]; exact p2 j (by omega)
  · intro K ⟨p1, p2⟩
    refine ⟨K, ?_, p1, p2⟩
    rw [e_Arr_fill_5_v0]; simp (disch := first | omega | assumption) only [k_I, k_L, k_V, k_1, k_2, k_3, q_cl, z_in, z_lt_t, z_lt_f, z_eq_t, z_eq_f, q_add, q_sub, q_mul, z_tt, z_bit, z_shl, u_at, u_c, u_j, fa_or, z_fl, z_flf, eq_self, ↓reduceIte, z_0, z_1, z_2, z_3, z_4, z_5, z_6, z_7, z_8, z_9, z_10, z_12, z_15, z_16, z_24, z_27, z_40, z_60, z_79, z_80, z_99, z_255, z_256, z_405, z_432, z_9999, z_1000000]
end OK
