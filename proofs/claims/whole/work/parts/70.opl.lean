/-! Calls: safe. -/
/-- two words can be one by some strike -/
def cn (lta : Nat → Nat) (la ua : Nat) (ltb : Nat → Nat) (lb ub : Nat) : Bool := (List.range 256).any fun st => decide (looks lta la ua st = looks ltb lb ub st)
def can (A : aP) (a b : Nat) : Bool := (List.range 256).any fun st => on A a b st
theorem can_iff {A : aP} {a b : Nat} : can A a b = true ↔ ∃ st, st < 256 ∧ on A a b st = true := by
  unfold can
  rw [List.any_eq_true]
  exact ⟨fun ⟨x, h1, h2⟩ => ⟨x, List.mem_range.mp h1, h2⟩, fun ⟨x, h1, h2⟩ => ⟨x, List.mem_range.mpr h1, h2⟩⟩
theorem can_comm (A : aP) (a b : Nat) : can A a b = can A b a := by
  unfold can
  congr 1
  funext st
  exact on_comm A a b st
theorem ct_pos {f : Nat → Bool} : ∀ {n : Nat}, 0 < fb_ct f n ↔ ∃ i, i < n ∧ f i = true
  | 0 => ⟨fun z => absurd z (by simp [fb_ct]), fun ⟨i, h1, _⟩ => absurd h1 (by omega)⟩
  | n + 1 => by
    rw [fb_ct_succ]
    have ih := ct_pos (f := f) (n := n)
    constructor
    · intro z
      cases hf : f n with
      | true => exact ⟨n, by omega, hf⟩
      | false =>
        rw [hf] at z
        obtain ⟨i, h1, h2⟩ := ih.mp (by simpa using z)
        exact ⟨i, by omega, h2⟩
    · rintro ⟨i, h1, h2⟩
      by_cases e : i = n
      · rw [← e, h2]; simp
      · have := ih.mpr ⟨i, by omega, h2⟩
        omega
def nPr (A : aP) (s a b : Nat) : Bool := s.testBit a && s.testBit b && can A a b
def nvA (A : aP) (s : Nat) : Bool := decide (∀ a, a < (aBk A).1 → ∀ b, b < (aBk A).1 → a < b → nPr A s a b = false)
theorem nvA_t {A : aP} {s : Nat} (h : ∀ a b, a < b → b < (aBk A).1 → nPr A s a b = false) : nvA A s = true := decide_eq_true (fun a _ b hb hab => h a b hab hb)
theorem nvA_f {A : aP} {s a b : Nat} (hab : a < b) (hb : b < (aBk A).1) (h : nPr A s a b = true) : nvA A s = false := decide_eq_false (fun z => by rw [z a (by omega) b hb hab] at h; cases h)
section OL
variable {h : Bool × Nat × Nat} {d : Nat} {I J : Nat → Nat → Int32} {L : Nat → Nat → Int64} {A : aP}
theorem c_canBeOne (d : Nat) {W : Nat} {len : Nat → Nat} {lt : Nat → Nat → Nat} {c a b ua ub : Nat} (hB : bkM J W len lt) (hc : c = 143 ∨ c = 144) (ha : a < 8) (hb : b < 8) (hua : J c a = nI ua) (hub : J c b = nI ub) : ∃ K, ev_do (d + 4) M_Mo_canBeOne [.ref 139, .ref c, .int (nI a), .int (nI b)] (ev_mk h J L) = ev_ri (fl (cn (lt a) (len a) ua (lt b) (len b) ub)) (ev_mk h K L) ∧ exc [153, 154] J K := by
  rw [e_Mo_canBeOne_0 (hk1 := hc)]
  have any_t : ∀ st, st < 256 → decide (looks (lt a) (len a) ua st = looks (lt b) (len b) ub st) = true → cn (lt a) (len a) ua (lt b) (len b) ub = true := fun st h1 h2 => List.any_eq_true.mpr ⟨st, List.mem_range.mpr h1, h2⟩
  refine lpX (σ := (Nat → Nat → Int32) × Bool) (F := fun i p => ev_at (d + 3) M_Mo_canBeOne 6 [.ref 139, .ref c, .int (nI a), .int (nI b), .int (fl p.2), .int (nI i)] [] (ev_mk h p.1 L)) (fun i p => exc [153, 154] J p.1 ∧ (p.2 = true → cn (lt a) (len a) ua (lt b) (len b) ub = true) ∧ (p.2 = false → ∀ st, st < i → decide (looks (lt a) (len a) ua st = looks (lt b) (len b) ub st) = false)) 256 ?_ ?_ 0 (by omega) (J, false) ⟨exc.rf, fun z => (by cases z), fun _ st z => absurd z (by omega)⟩
  · intro i p hi' ⟨p1, p2, p3⟩
    rw [e_Mo_canBeOne_6 (hk1 := hc), if_pos (show nI i < (256 : Int32) from (q_lt (b := 256) (by omega) (by omega)).mpr hi'), show nI i + 1 = nI (i + 1) from q_add i 1]
    cases hz : p.2 with
    | true =>
      refine Or.inr ⟨p.1, ?_, p1⟩
      rw [if_neg (show ¬ fl true = 0 by decide), if_pos (fl_fit true), p2 hz]
    | false =>
      have hcn : c ∉ [153, 154] := by simp <;> omega
      obtain ⟨K, g1, g2⟩ := c_Mo_isOneBy (h := h) (L := L) (s := i) d (hB.ex p1 (by simp) (by simp) (by simp)) hc ha hb (by rw [p1 c hcn]; exact hua) (by rw [p1 c hcn]; exact hub)
      refine Or.inl ⟨(K, decide (looks (lt a) (len a) ua i = looks (lt b) (len b) ub i)), ?_, p1.tr g2, fun z => any_t i hi' z, fun z st hst => ?_⟩
      · rw [if_pos (show fl false = 0 from rfl), g1, k_I, k_1, k_2, k_3]
      · by_cases e : st = i
        · rw [e]; exact z
        · exact p3 hz st (by omega)
  · intro p ⟨p1, p2, p3⟩
    refine ⟨p.1, ?_, p1⟩
    have : p.2 = cn (lt a) (len a) ua (lt b) (len b) ub := by
      cases hz : p.2 with
      | true => exact (p2 hz).symm
      | false =>
        symm
        cases hc : cn (lt a) (len a) ua (lt b) (len b) ub with
        | false => rfl
        | true =>
          obtain ⟨x, h1, h2⟩ := List.any_eq_true.mp hc
          rw [p3 hz x (List.mem_range.mp h1)] at h2; cases h2
    rw [e_Mo_canBeOne_6 (hk1 := hc), if_neg (by decide), this, if_pos (fl_fit _)]
theorem xCn (d : Nat) (hw : wfA A) (hi : invM I L A) (f : frM I J) {a b : Nat} (ha : a < (aBk A).1) (hb : b < (aBk A).1) {L' : Nat → Nat → Int64} : ∃ K, ev_do (d + 4) M_Mo_canBeOne [.ref 139, .ref 143, .int (nI a), .int (nI b)] (ev_mk h J L') = ev_ri (fl (can A a b)) (ev_mk h K L') ∧ frM I K ∧ exc [153, 154] J K := by
  have hW := hw.2.2.1.1
  obtain ⟨K, e1, x1⟩ := c_canBeOne (h := h) (L := L') d (hi.bk f) (Or.inl rfl : 143 = 143 ∨ 143 = 144) (by omega : a < 8) (by omega : b < 8) (hi.u hw f a ha) (hi.u hw f b hb)
  exact ⟨K, e1, f.x x1 (by simp [scM]), x1⟩
theorem c_neverMeet (d : Nat) (hw : wfA A) (hi : invC I L A) (f : frC I J) {c : Nat → Nat → Nat} (hc : pr8 A J c) (hc2 : ∀ a b, c a b ≤ 256 ∧ (0 < c a b ↔ can A a b = true)) (s : Nat) {L' : Nat → Nat → Int64} : ev_do (d + 1) M_SL_neverMeet [.ref 0, .int (nI s)] (ev_mk h J L') = ev_ri (fl (nvA A s)) (ev_mk h J L') := by
  have hW := hw.2.2.1.1
  have hW5 := (hi.bk f).1.1
  rw [e_SL_neverMeet_0]
  have e8 : ∀ a b : Nat, nI a * 8 + nI b = nI (a * 8 + b) := fun a b => by rw [show (8 : Int32) = nI 8 from rfl, q_mul, q_add]
  refine lpS (F := fun a (_ : Unit) => ev_at d M_SL_neverMeet 2 [.ref 0, .int (nI s), .int (nI a), .float 0] [] (ev_mk h J L')) (G := fun a b _ => ev_at d M_SL_neverMeet 17 [.ref 0, .int (nI s), .int (nI a), .int (nI b)] [] (ev_mk h J L')) (fun _ => True) (nPr A s) (fun o => o = ev_ri (fl (nvA A s)) (ev_mk h J L')) (aBk A).1 ?_ ?_ ?_ ?_ ?_ () trivial
  · intro a _ ha _
    refine ⟨(), ?_, trivial⟩
    rw [e_SL_neverMeet_2]; simp (disch := first | omega | assumption) only [hW5, k_I, k_L, k_V, k_1, k_2, k_3, q_cl, z_in, z_lt_t, z_lt_f, z_eq_t, z_eq_f, q_add, q_sub, q_mul, z_tt, z_bit, z_shl, u_at, u_c, u_j, fa_or, z_fl, z_flf, eq_self, ↓reduceIte, z_0, z_1, z_2, z_3, z_4, z_5, z_6, z_7, z_8, z_9, z_10, z_12, z_15, z_16, z_24, z_27, z_40, z_60, z_79, z_80, z_99, z_255, z_256, z_405, z_432, z_9999, z_1000000]
  · intro a b _ hab hb _ hp
    refine ⟨(), ?_, trivial⟩
    rw [e_SL_neverMeet_17, hW5, if_pos ((q_lt (by omega) (by omega)).mpr hb), z_two (by omega) (by omega), show nI b + 1 = nI (b + 1) from q_add b 1, e8]
    unfold nPr at hp
    cases hws : s.testBit a && s.testBit b with
    | false => rw [if_neg (show ¬ fl false = 1 by decide)]
    | true =>
      rw [hws, Bool.true_and] at hp
      have h2 := hc2 a b
      have h3 : c a b = 0 := by
        by_cases e : 0 < c a b
        · rw [h2.2.mp e] at hp; cases hp
        · omega
      rw [if_pos (show fl true = 1 from rfl), q_in (by omega), if_pos (by simp <;> omega), q_cl (by omega), hc a b hab hb, h3, if_neg (by decide)]
  · intro a _ ha _
    refine ⟨(), ?_, trivial⟩
    rw [e_SL_neverMeet_17]; simp (disch := first | omega | assumption) only [hW5, k_I, k_L, k_V, k_1, k_2, k_3, q_cl, z_in, z_lt_t, z_lt_f, z_eq_t, z_eq_f, q_add, q_sub, q_mul, z_tt, z_bit, z_shl, u_at, u_c, u_j, fa_or, z_fl, z_flf, eq_self, ↓reduceIte, z_0, z_1, z_2, z_3, z_4, z_5, z_6, z_7, z_8, z_9, z_10, z_12, z_15, z_16, z_24, z_27, z_40, z_60, z_79, z_80, z_99, z_255, z_256, z_405, z_432, z_9999, z_1000000]
  · intro a b _ hab hb _ hp _
    rw [nvA_f hab hb hp]
    have hp' := hp
    unfold nPr at hp'
    simp only [Bool.and_eq_true] at hp'
    obtain ⟨⟨b1, b2⟩, b3⟩ := hp'
    have h2 := hc2 a b
    have h3 := h2.2.mpr b3
    rw [e_SL_neverMeet_17, hW5, if_pos ((q_lt (by omega) (by omega)).mpr hb), z_two (by omega) (by omega), b1, b2, if_pos (show fl (true && true) = 1 from rfl), e8, q_in (by omega), if_pos (by simp <;> omega), q_cl (by omega), hc a b hab hb, if_pos (show (0 : Int32) < nI (c a b) from (q_lt (a := 0) (by omega) (by omega)).mpr h3)]
    rfl
  · intro _ _ hall
    rw [nvA_t hall, e_SL_neverMeet_2]; simp (disch := first | omega | assumption) only [hW5, k_I, k_L, k_V, k_1, k_2, k_3, q_cl, z_in, z_lt_t, z_lt_f, z_eq_t, z_eq_f, q_add, q_sub, q_mul, z_tt, z_bit, z_shl, u_at, u_c, u_j, fa_or, z_fl, z_flf, eq_self, ↓reduceIte, z_0, z_1, z_2, z_3, z_4, z_5, z_6, z_7, z_8, z_9, z_10, z_12, z_15, z_16, z_24, z_27, z_40, z_60, z_79, z_80, z_99, z_255, z_256, z_405, z_432, z_9999, z_1000000]
    rfl
/-- the reference's words that a isn't safe from -/
def usf (A : aP) (a n : Nat) : Nat := msk (fun b => decide (a ≠ b) && can A a b) n
theorem usf_lt {A : aP} (hw : wfA A) (a : Nat) {n : Nat} (hn : n ≤ 8) : usf A a n < 256 := Nat.lt_of_lt_of_le (msk_lt _ n) (pw8 hn)
theorem and0 {s u : Nat} (hs : s < 256) : nI s &&& nI u = 0 ↔ ∀ i, i < 8 → (s.testBit i && u.testBit i) = false := by
  rw [fa_and]
  constructor
  · intro z i hi
    have : bt (nI (s &&& u)) i = false := by rw [z]; exact b_0 i
    rw [x_bt (by omega), Nat.testBit_and] at this
    exact this
  · intro z
    apply b_ext
    intro i hi
    rw [x_bt hi, Nat.testBit_and, b_0]
    by_cases e : i < 8
    · exact z i e
    · rw [Nat.testBit_lt_two_pow (Nat.lt_of_lt_of_le hs (show 2 ^ 8 ≤ 2 ^ i from Nat.pow_le_pow_right (by decide) (by omega)))]; rfl
theorem op_safe (hi : inv I L) : okI h d M_SL_safe M_Mo_safe [] I L := by
  refine ok_q (fun A hw => ?_) hi
  have hW := hw.2.2.1.1
  have h8 := pw8 hW
  have hq := bM_lt (nvA A) (2 ^ (aBk A).1) h8
  refine ⟨nI (pcn (bM (nvA A) (2 ^ (aBk A).1))), snoc nil0 (nI (bM (nvA A) (2 ^ (aBk A).1))).toInt64, show 1 ≤ 9 by decide, fun I L hi => ?_, fun I L hi => ?_⟩
  · obtain ⟨I1, e1, x1, f1⟩ := c_fill64 (h := h) (J := I) (x := 0) (L' := L) (d + 98)
    have fr1 : frC I I1 := frC.rf.x x1 (by simp [scC])
    have lp : ∃ K, ev_at (d + 99) M_SL_safe 10 [.ref 0, .int (nI 0), .float 0] [] (ev_mk h I1 L) = ev_at (d + 99) M_SL_safe 32 [.ref 0, .int (nI (bM (nvA A) 0)), .int (nI 0)] [] (ev_mk h K L) ∧ frC I K ∧ pr8 A K (pct A (fun _ => true) 256) := by
      refine lpX (F := fun i J => ev_at (d + 99) M_SL_safe 10 [.ref 0, .int (nI i), .float 0] [] (ev_mk h J L)) (fun i J => frC I J ∧ pr8 A J (pct A (fun _ => true) i)) 256 ?_ ?_ 0 (by omega) I1 ⟨fr1, fun a b h3 h4 => f1 _ (by omega)⟩
      · intro i J hi' ⟨p1, p2⟩
        obtain ⟨K, g1, g2, g3, g4⟩ := xCp (h := h) (L' := L) (d + 94) hw hi p1 i p2
        refine Or.inl ⟨K, ?_, g2, ?_⟩
        · rw [e_SL_safe_10, if_pos (show nI i < (256 : Int32) from (q_lt (b := 256) (by omega) (by omega)).mpr hi'), g1, k_V, k_1, k_2, k_3, show nI i + 1 = nI (i + 1) from q_add i 1]
        · intro a b h3 h4
          rw [g4 a b h3 h4]
          unfold pct
          rw [fb_ct_succ, Bool.true_and]
      · intro J ⟨p1, p2⟩
        refine ⟨J, ?_, p1, p2⟩
        rw [e_SL_safe_10, if_neg (by decide)]
        rfl
    obtain ⟨K, e2, f2, c2⟩ := lp
    have hcc : ∀ a b, pct A (fun _ => true) 256 a b ≤ 256 ∧ (0 < pct A (fun _ => true) 256 a b ↔ can A a b = true) := fun a b => ⟨pct_le _ _ _ _ _, by unfold pct; rw [ct_pos, can_iff]; simp⟩
    have lp2 : ev_at (d + 99) M_SL_safe 32 [.ref 0, .int (nI (bM (nvA A) 0)), .int (nI 0)] [] (ev_mk h K L) = ev_at (d + 99) M_SL_safe 32 [.ref 0, .int (nI (bM (nvA A) (2 ^ (aBk A).1))), .int (nI (2 ^ (aBk A).1))] [] (ev_mk h K L) := by
      refine lpE (F := fun i (_ : Unit) => ev_at (d + 99) M_SL_safe 32 [.ref 0, .int (nI (bM (nvA A) i)), .int (nI i)] [] (ev_mk h K L)) (fun _ _ => True) (fun o => o = ev_at (d + 99) M_SL_safe 32 [.ref 0, .int (nI (bM (nvA A) (2 ^ (aBk A).1))), .int (nI (2 ^ (aBk A).1))] [] (ev_mk h K L)) (2 ^ (aBk A).1) ?_ (fun _ _ => rfl) 0 (Nat.zero_le _) () trivial
      intro i _ hi' _
      refine Or.inl ⟨(), ?_, trivial⟩
      have hb := bM_lt (nvA A) i (by omega)
      have h1 := pcn_le i
      have h2 := pcn_le (bM (nvA A) i)
      rw [e_SL_safe_32, (hi.bk f2).1.1, z_pw hW, if_pos ((q_lt (by omega) (by omega)).mpr hi'), c_bitCount (d + 98) (by omega), k_I, k_1, k_2, k_3, c_bitCount (d + 98) hb, k_I, k_1, k_2, k_3, show nI i + 1 = nI (i + 1) from q_add i 1, bM]
      by_cases e : pcn (bM (nvA A) i) < pcn i
      · rw [if_pos ((q_lt (by omega) (by omega)).mpr e), c_neverMeet (d + 98) hw hi f2 c2 hcc i, k_I, k_1, k_2, k_3, decide_eq_true e, Bool.true_and]
        cases nvA A i with
        | true => rw [if_neg (show ¬ fl true = 0 by decide), if_pos rfl]
        | false => rw [if_pos (show fl false = 0 from rfl), if_neg (by decide)]
      · rw [if_neg (fun z => e ((q_lt (by omega) (by omega)).mp z)), decide_eq_false e, Bool.false_and, if_neg (by decide)]
    obtain ⟨p, e3, x3, l3, r3⟩ := c_tellSet (h := h) (J := K) (L := L) (d + 97) hq
    refine ⟨p, ?_, f2.x x3 (by simp [scC]), r3, l3 140 (by omega)⟩
    rw [e_SL_safe_0, e1, k_V, k_1, k_2, k_3]
    refine e2.trans (lp2.trans ?_)
    rw [e_SL_safe_32, (hi.bk f2).1.1, z_pw hW, if_neg (fun z => absurd ((q_lt (by omega) (by omega)).mp z) (by omega)), e3, k_I, k_1, k_2, k_3]
  · have lp : ∃ K, ev_at (d + 99) M_Mo_safe 7 [.ref 139, .int (nI 0), .float 0, .float 0, .float 0] [] (ev_mk h (ev_up I 139 0 0) L) = ev_at (d + 99) M_Mo_safe 82 [.ref 139, .int (nI (bM (nvA A) 0)), .int (nI 0), .float 0, .float 0] [] (ev_mk h K L) ∧ frM I K ∧ ∀ a, a < (aBk A).1 → K 161 a = nI (usf A a (aBk A).1) := by
      refine lpX (F := fun i J => ev_at (d + 99) M_Mo_safe 7 [.ref 139, .int (nI i), .float 0, .float 0, .float 0] [] (ev_mk h J L)) (fun i J => frM I J ∧ ∀ a, a < i → J 161 a = nI (usf A a (aBk A).1)) (aBk A).1 ?_ ?_ 0 (by omega) _ ⟨frM.t0, fun a ha => by omega⟩
      · intro i J hi' ⟨p1, p2⟩
        have inn : ∃ K, ev_at (d + 99) M_Mo_safe 24 [.ref 139, .int (nI i), .int (nI 0), .float 0, .float 0] [] (ev_mk h (ev_up J 161 i 0) L) = ev_at (d + 99) M_Mo_safe 7 [.ref 139, .int (nI (i + 1)), .float 0, .float 0, .float 0] [] (ev_mk h K L) ∧ frM I K ∧ ∀ a, a < i + 1 → K 161 a = nI (usf A a (aBk A).1) := by
          refine lpX (F := fun b K => ev_at (d + 99) M_Mo_safe 24 [.ref 139, .int (nI i), .int (nI b), .float 0, .float 0] [] (ev_mk h K L)) (fun b K => frM I K ∧ (∀ a, a < i → K 161 a = nI (usf A a (aBk A).1)) ∧ K 161 i = nI (usf A i b)) (aBk A).1 ?_ ?_ 0 (by omega) _ ⟨p1.up (by unfold scM; omega) (by omega), fun a ha => by rw [u_j (by omega)]; exact p2 a ha, u_at _ _ _ _⟩
          · intro b K hb ⟨q1, q2, q3⟩
            have eS : usf A i (b + 1) = usf A i b ||| (if decide (i ≠ b) && can A i b then 2 ^ b else 0) := rfl
            by_cases e : i = b
            · subst e
              have hid : ev_up K 161 i (nI (usf A i i)) = K := by
                funext a c
                by_cases e : a = 161 ∧ c = i
                · rw [e.1, e.2, u_at, q3]
                · rw [u_no e]
              refine Or.inl ⟨K, ?_, q1, q2, by rw [q3, eS]; simp⟩
              rw [e_Mo_safe_24, (hi.bk q1).1, if_pos ((q_lt (by omega) (by omega)).mpr hb), q_in (by omega), if_pos (by simp <;> omega), if_pos rfl, if_pos (by simp <;> omega), q_cl (by omega), q3, show nI i + 1 = nI (i + 1) from q_add i 1, show (0 : Int32) = nI 0 from rfl, fa_or, Nat.or_zero, hid]
            · obtain ⟨K2, g1, g2, g3⟩ := xCn (h := h) (L' := L) (d + 95) hw hi q1 hi' hb
              have k161 : K2 161 = K 161 := g3 161 (by simp)
              refine Or.inl ⟨ev_up K2 161 i (nI (usf A i (b + 1))), ?_, g2.up (by unfold scM; omega) (by omega), fun a ha => ?_, u_at _ _ _ _⟩
              · rw [e_Mo_safe_24, (hi.bk q1).1, if_pos ((q_lt (by omega) (by omega)).mpr hb), show ev_in (nI i) 8 = true from z_in (by omega) (by omega)]
                simp only [↓reduceIte]
                rw [if_neg (fun z => e ((q_eq (by omega) (by omega)).mp z)), g1, k_I, k_1, k_2, k_3, q_cl (by omega), q3, show nI b + 1 = nI (b + 1) from q_add b 1, show (1 : Int32) <<< (nI b &&& 31) = nI (2 ^ b) from z_shl (by omega), fa_or, show nI (usf A i b) ||| (0 : Int32) = nI (usf A i b) by rw [show (0 : Int32) = nI 0 from rfl, fa_or, Nat.or_zero], eS, decide_eq_true e, Bool.true_and]
                cases can A i b with
                | true => rw [if_neg (show ¬ fl true = 0 by decide), if_pos rfl]
                | false => rw [if_pos (show fl false = 0 from rfl), if_neg (by decide), Nat.or_zero]
              · rw [u_j (by omega), k161]; exact q2 a ha
          · intro K ⟨q1, q2, q3⟩
            refine ⟨K, ?_, q1, fun a ha => ?_⟩
            · rw [e_Mo_safe_24, (hi.bk q1).1, if_neg (fun z => absurd ((q_lt (by omega) (by omega)).mp z) (by omega)), show nI i + 1 = nI (i + 1) from q_add i 1]
            · by_cases e : a = i
              · rw [e]; exact q3
              · exact q2 a (by omega)
        obtain ⟨K, g1, g2, g3⟩ := inn
        refine Or.inl ⟨K, ?_, g2, g3⟩
        rw [e_Mo_safe_7, (hi.bk p1).1, if_pos ((q_lt (by omega) (by omega)).mpr hi'), q_in (by omega), if_pos (by simp <;> omega), q_cl (by omega)]
        exact g1
      · intro J ⟨p1, p2⟩
        refine ⟨J, ?_, p1, p2⟩
        rw [e_Mo_safe_7, (hi.bk p1).1, if_neg (fun z => absurd ((q_lt (by omega) (by omega)).mp z) (by omega))]
        rfl
    obtain ⟨K, e1, f1, u1⟩ := lp
    have lp2 : ev_at (d + 99) M_Mo_safe 82 [.ref 139, .int (nI (bM (nvA A) 0)), .int (nI 0), .float 0, .float 0] [] (ev_mk h K L) = ev_at (d + 99) M_Mo_safe 82 [.ref 139, .int (nI (bM (nvA A) (2 ^ (aBk A).1))), .int (nI (2 ^ (aBk A).1)), .float 0, .float 0] [] (ev_mk h K L) := by
      refine lpE (F := fun i (_ : Unit) => ev_at (d + 99) M_Mo_safe 82 [.ref 139, .int (nI (bM (nvA A) i)), .int (nI i), .float 0, .float 0] [] (ev_mk h K L)) (fun _ _ => True) (fun o => o = ev_at (d + 99) M_Mo_safe 82 [.ref 139, .int (nI (bM (nvA A) (2 ^ (aBk A).1))), .int (nI (2 ^ (aBk A).1)), .float 0, .float 0] [] (ev_mk h K L)) (2 ^ (aBk A).1) ?_ (fun _ _ => rfl) 0 (Nat.zero_le _) () trivial
      intro i _ hi' _
      refine Or.inl ⟨(), ?_, trivial⟩
      have hb := bM_lt (nvA A) i (by omega)
      have h1 := pcn_le i
      have h2 := pcn_le (bM (nvA A) i)
      have inn : ev_at (d + 99) M_Mo_safe 97 [.ref 139, .int (nI (bM (nvA A) i)), .int (nI i), .int (fl true), .int (nI 0)] [] (ev_mk h K L) = ev_at (d + 99) M_Mo_safe 97 [.ref 139, .int (nI (bM (nvA A) i)), .int (nI i), .int (fl (nvA A i)), .int (nI (aBk A).1)] [] (ev_mk h K L) := by
        refine lpE (F := fun a (z : Bool) => ev_at (d + 99) M_Mo_safe 97 [.ref 139, .int (nI (bM (nvA A) i)), .int (nI i), .int (fl z), .int (nI a)] [] (ev_mk h K L)) (fun a z => (z = true → ∀ a' b', a' < a → b' < (aBk A).1 → a' ≠ b' → nPr A i a' b' = false) ∧ (z = false → nvA A i = false)) (fun o => o = ev_at (d + 99) M_Mo_safe 97 [.ref 139, .int (nI (bM (nvA A) i)), .int (nI i), .int (fl (nvA A i)), .int (nI (aBk A).1)] [] (ev_mk h K L)) (aBk A).1 ?_ ?_ 0 (by omega) true ⟨fun _ a' b' z => absurd z (by omega), fun z => by cases z⟩
        · intro a z ha ⟨q1, q2⟩
          refine Or.inl ?_
          rw [e_Mo_safe_97, (hi.bk f1).1, if_pos ((q_lt (by omega) (by omega)).mpr ha), show nI a + 1 = nI (a + 1) from q_add a 1]
          cases z with
          | false => exact ⟨false, by rw [if_pos (show fl false = 0 from rfl)]; rfl, fun z => (by cases z), q2⟩
          | true =>
            rw [if_neg (show ¬ fl true = 0 by decide), xHas (d + 98) (by omega), k_I, k_1, k_2, k_3]
            cases hba : i.testBit a with
            | false =>
              refine ⟨true, by rw [if_pos (show fl false = 0 from rfl)]; rfl, fun _ a' b' h3 h4 h5 => ?_, fun z => by cases z⟩
              by_cases e : a' = a
              · rw [e]; unfold nPr; rw [hba]; rfl
              · exact q1 rfl a' b' (by omega) h4 h5
            | true =>
              rw [if_neg (show ¬ fl true = 0 by decide), q_in (by omega), if_pos (by simp <;> omega), q_cl (by omega), u1 a ha]
              by_cases e0 : nI i &&& nI (usf A a (aBk A).1) = 0
              · refine ⟨true, by rw [if_pos e0]; rfl, fun _ a' b' h3 h4 h5 => ?_, fun z => by cases z⟩
                by_cases e : a' = a
                · subst e
                  have := (and0 (by omega)).mp e0 b' (by omega)
                  unfold usf at this
                  rw [msk_bit, decide_eq_true h4, Bool.true_and, decide_eq_true h5, Bool.true_and] at this
                  unfold nPr
                  rw [hba, Bool.true_and]; exact this
                · exact q1 rfl a' b' (by omega) h4 h5
              · refine ⟨false, by rw [if_neg e0]; rfl, fun z => (by cases z), fun _ => ?_⟩
                cases hv : nvA A i with
                | false => rfl
                | true =>
                  exfalso
                  apply e0
                  refine (and0 (by omega)).mpr (fun b hb8 => ?_)
                  unfold usf
                  rw [msk_bit]
                  by_cases hbW : b < (aBk A).1
                  · rw [decide_eq_true hbW, Bool.true_and]
                    by_cases hne : a = b
                    · rw [decide_eq_false (by simpa using hne)]; simp
                    · rw [decide_eq_true hne, Bool.true_and]
                      have hv' := of_decide_eq_true hv
                      by_cases hlt : a < b
                      · have := hv' a ha b hbW hlt
                        unfold nPr at this
                        rw [hba, Bool.true_and] at this; exact this
                      · have := hv' b hbW a ha (by omega)
                        unfold nPr at this
                        rw [hba, Bool.and_true, can_comm] at this; exact this
                  · rw [decide_eq_false hbW]; simp
        · intro z ⟨q1, q2⟩
          have : z = nvA A i := by
            cases z with
            | true => exact (nvA_t (fun a b h3 h4 => q1 rfl a b (by omega) h4 (by omega))).symm
            | false => exact (q2 rfl).symm
          rw [this]
      rw [e_Mo_safe_82, (hi.bk f1).1, z_pw hW, if_pos ((q_lt (by omega) (by omega)).mpr hi')]
      refine inn.trans ?_
      rw [e_Mo_safe_97, (hi.bk f1).1, if_neg (fun z => absurd ((q_lt (by omega) (by omega)).mp z) (by omega)), show nI i + 1 = nI (i + 1) from q_add i 1, bM]
      cases nvA A i with
      | false => rw [if_pos (show fl false = 0 from rfl), Bool.and_false, if_neg (by decide)]
      | true =>
        rw [if_neg (show ¬ fl true = 0 by decide), c_bitCount (d + 98) (by omega), k_I, k_1, k_2, k_3, c_bitCount (d + 98) hb, k_I, k_1, k_2, k_3, Bool.and_true]
        by_cases e : pcn (bM (nvA A) i) < pcn i
        · rw [if_pos ((q_lt (by omega) (by omega)).mpr e), if_pos (decide_eq_true e)]
        · rw [if_neg (fun z => e ((q_lt (by omega) (by omega)).mp z)), if_neg (by rw [decide_eq_false e]; decide)]
    obtain ⟨p, e3, x3, n3, l3, r3⟩ := c_tellsSet (h := h) (J := K) (L := L) (d + 97) hq
    refine ⟨p, ?_, f1.e x3 n3, r3, l3 4 (by omega)⟩
    rw [e_Mo_safe_0]
    refine e1.trans (lp2.trans ?_)
    rw [e_Mo_safe_82, (hi.bk f1).1, z_pw hW, if_neg (fun z => absurd ((q_lt (by omega) (by omega)).mp z) (by omega)), e3, k_I, k_1, k_2, k_3]
end OL
