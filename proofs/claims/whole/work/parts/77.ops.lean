/-! Calls: buys. -/
section OS
variable {h : Bool × Nat × Nat} {d : Nat} {I J : Nat → Nat → Int32} {L : Nat → Nat → Int64} {A : aP}
theorem c_sumOver (d : Nat) {s : Nat} {f : Nat → Nat} (hf : ∀ l, l < 8 → s.testBit l = true → J 135 l = nI (f l)) : ev_do (d + 1) M_SL_sumOver [.ref 0, .int (nI s)] (ev_mk h J L) = ev_ri (nI (smS s f 8)) (ev_mk h J L) := by
  rw [e_SL_sumOver_0]
  refine lpE (F := fun i (_ : Unit) => ev_at d M_SL_sumOver 4 [.ref 0, .int (nI s), .int (nI (smS s f i)), .int (nI i)] [] (ev_mk h J L)) (fun _ _ => True) (fun o => o = ev_ri (nI (smS s f 8)) (ev_mk h J L)) 8 ?_ ?_ 0 (by omega) () trivial
  · intro i _ hi _
    refine Or.inl ⟨(), ?_, trivial⟩
    rw [smS, e_SL_sumOver_4]
    cases hb : s.testBit i with
    | true => simp (disch := first | omega | assumption) only [hb, hf i hi hb, k_I, k_L, k_V, k_1, k_2, k_3, q_cl, z_in, z_lt_t, z_lt_f, z_eq_t, z_eq_f, q_add, q_sub, q_mul, z_tt, z_bit, z_shl, u_at, u_c, u_j, fa_or, z_fl, z_flf, eq_self, ↓reduceIte, z_0, z_1, z_2, z_3, z_4, z_5, z_6, z_7, z_8, z_9, z_10, z_12, z_15, z_16, z_24, z_27, z_40, z_60, z_79, z_80, z_99, z_255, z_256, z_405, z_432, z_9999, z_1000000]
    | false => simp (disch := first | omega | assumption) only [hb, Bool.false_eq_true, k_I, k_L, k_V, k_1, k_2, k_3, q_cl, z_in, z_lt_t, z_lt_f, z_eq_t, z_eq_f, q_add, q_sub, q_mul, z_tt, z_bit, z_shl, u_at, u_c, u_j, fa_or, z_fl, z_flf, eq_self, ↓reduceIte, z_0, z_1, z_2, z_3, z_4, z_5, z_6, z_7, z_8, z_9, z_10, z_12, z_15, z_16, z_24, z_27, z_40, z_60, z_79, z_80, z_99, z_255, z_256, z_405, z_432, z_9999, z_1000000]
  · intro _ _
    rw [e_SL_sumOver_4]; simp (disch := first | omega | assumption) only [k_I, k_L, k_V, k_1, k_2, k_3, q_cl, z_in, z_lt_t, z_lt_f, z_eq_t, z_eq_f, q_add, q_sub, q_mul, z_tt, z_bit, z_shl, u_at, u_c, u_j, fa_or, z_fl, z_flf, eq_self, ↓reduceIte, z_0, z_1, z_2, z_3, z_4, z_5, z_6, z_7, z_8, z_9, z_10, z_12, z_15, z_16, z_24, z_27, z_40, z_60, z_79, z_80, z_99, z_255, z_256, z_405, z_432, z_9999, z_1000000]
/-- the letters whose grudge can be bought off -/
def sal (A : aP) (l : Nat) : Bool := uns1 A l && (match prc A l with | some q => decide (0 < q) | none => false)
def onS (A : aP) : Nat := msk (sal A) 8
theorem onS_lt (A : aP) : onS A < 256 := msk_lt _ 8
theorem onS_bit {l : Nat} (hl : l < 8) : (onS A).testBit l = sal A l := by unfold onS; rw [msk_bit, decide_eq_true hl, Bool.true_and]
def skA (A : aP) : Nat := stN (aBk A).1 (aBk A).2.1 (aBk A).2.2 (aRl A).2 (aRl A).1 (aS A)
theorem skA_lt (A : aP) : skA A < 256 := stN_lt _ _ _ _ _ _
theorem skA_bit {l : Nat} (hl : l < 8) : (skA A).testBit l = (uns1 A l && decide (0 < gA A (aRl A) l (aS A (16 + l)))) := by
  unfold skA stN
  rw [msk_bit, decide_eq_true hl, Bool.true_and]
  rfl
theorem xSn (d : Nat) (hw : wfA A) (hi : invM I L A) (f : frM I J) {L' : Nat → Nat → Int64} : ∃ K, ev_do (d + 6) M_Mo_strikeNext [.ref 139, .ref 143] (ev_mk h J L') = ev_ri (nI (skA A)) (ev_mk h K L') ∧ frM I K ∧ exc [151, 152] J K := by
  obtain ⟨K, e1, x1⟩ := c_Mo_strikeNext (h := h) (L := L') d (hi.bk f) (Or.inl rfl : 143 = 143 ∨ 143 = 144) (hi.u hw f) (hi.rl f) hw.2.2.2.2.1 (hi.st3 hw f) hw.2.2.2.1.s.2
  have est : msk (sks (aBk A).2.1 (aBk A).2.2 (aBk A).1 (uO (aS A)) (fun l => J 143 (8 + l)) (fun l => J 143 (16 + l)) (uO (aS A) 24) (J 143 25) (aRl A).2 (aRl A).1) 8 = skA A := by
    refine msk_congr fun j hj => ?_
    have hs := hi.s f
    unfold sks grd
    simp only [hs.at (show 8 + j < 27 by omega), hs.at (show 16 + j < 27 by omega), hs.at (show 25 < 27 by omega)]
  rw [est] at e1
  exact ⟨K, e1, f.x x1 (by simp [scM]), x1⟩
theorem prc_0 (hw : wfA A) {l : Nat} (hl : l < 8) : prc A l = some 0 ↔ ¬ 0 < gA A (aRl A) l (aS A (16 + l)) := by
  have ho := hw.2.2.2.1.o hl
  unfold prc
  rw [show 10 - uO (aS A) (16 + l) = (9 - uO (aS A) (16 + l)) + 1 by omega, cS]
  have eg : gOk A l (uO (aS A) (16 + l)) = !decide (0 < gA A (aRl A) l (aS A (16 + l))) := by unfold gOk; rw [← ho.1]
  rw [eg]
  by_cases e : 0 < gA A (aRl A) l (aS A (16 + l))
  · rw [decide_eq_true e, if_neg (by decide)]
    constructor
    · intro z
      cases hc : cS (gOk A l) (9 - uO (aS A) (16 + l)) (uO (aS A) (16 + l) + 1) with
      | none => rw [hc] at z; cases z
      | some q =>
        rw [hc] at z
        have h1 := cS_ge hc
        have h2 : q - uO (aS A) (16 + l) = 0 := by
          have : some (q - uO (aS A) (16 + l)) = some 0 := z
          exact Option.some.inj this
        omega
    · intro z; exact absurd e z
  · rw [decide_eq_false e, if_pos (by decide)]
    simp [e]
/-- what is bought so far -/
def byS (T : Nat → Bool) (c : Nat → Nat) : Nat → Nat × Nat
  | 0 => (0, 0)
  | i + 1 => if T i && (decide (pcn (byS T c i).1 < pcn i) || (decide (pcn i = pcn (byS T c i).1) && decide (c i < (byS T c i).2))) then (i, c i) else byS T c i
theorem byS_lt {T : Nat → Bool} {c : Nat → Nat} {m : Nat} (hc : ∀ i, i < 256 → T i = true → c i ≤ m) : ∀ i, i ≤ 256 → (byS T c i).1 < 256 ∧ (byS T c i).2 ≤ m
  | 0, _ => ⟨(show 0 < 256 by decide), Nat.zero_le _⟩
  | i + 1, hi => by
    rw [byS]
    split
    · rename_i hT
      rw [Bool.and_eq_true] at hT
      exact ⟨show i < 256 by omega, hc i (by omega) hT.1⟩
    · exact byS_lt hc i (by omega)
theorem byS_cut {T : Nat → Bool} {c : Nat → Nat} {n : Nat} (h : ∀ k, n ≤ k → k < 256 → T k = false) : ∀ m, n + m ≤ 256 → byS T c (n + m) = byS T c n
  | 0, _ => rfl
  | m + 1, hm => by rw [← Nat.add_assoc, byS, h (n + m) (by omega) (by omega), Bool.false_and, if_neg (by decide), byS_cut h m (by omega)]
theorem df_1 : ∀ a, a < 9 → ∀ b, b < 9 → ((0 : Int32) < nI a - nI b ↔ b < a) := by decide +kernel
theorem df_2 : ∀ a, a < 9 → ∀ b, b < 9 → (nI a - nI b = (0 : Int32) ↔ a = b) := by decide +kernel
theorem op_buys {x : Int32} (hi : inv I L) : okI h d M_SL_buys M_Mo_buys [.int x] I L := by
  refine ok_q (fun A hw => ?_) hi
  have hW := hw.2.2.1.1
  cases hx : blw x 100 with
  | false =>
    refine no_q (v := -1) hw (fun I L hi => ?_) (fun I L hi => ?_)
    · rw [e_SL_buys_0, show (99 : Int32) = nI 99 from rfl, r_two (by omega), hx, if_neg (by decide)]
    · rw [e_Mo_buys_0, c_in99, k_I, k_1, k_2, k_3, hx, if_pos (show fl false = 0 from rfl)]
  | true =>
    obtain ⟨v, hv, rfl⟩ := (blw_iff (by omega)).mp hx
    -- prices
    obtain ⟨p, hp⟩ : ∃ p : Nat → Nat, p = fun l => (prc A l).getD 0 := ⟨_, rfl⟩
    have hpk : ∀ l, p l = (prc A l).getD 0 := fun l => by rw [hp]
    have hp9 : ∀ l, p l ≤ 9 := fun l => by
      rw [hpk]
      cases hc : prc A l with
      | none => exact Nat.zero_le _
      | some q => have := prc_lt hc; show q ≤ 9; omega
    obtain ⟨m, hm⟩ : ∃ m : Nat → Nat, m = fun l => if (skA A).testBit l then (prc A l).getD 1000000 else 0 := ⟨_, rfl⟩
    have hmk : ∀ l, m l = if (skA A).testBit l then (prc A l).getD 1000000 else 0 := fun l => by rw [hm]
    have hm1 : ∀ l, m l ≤ 1000000 := fun l => by
      rw [hmk]
      split
      · cases hc : prc A l with
        | none => exact Nat.le_refl _
        | some q => have := prc_lt hc; show q ≤ 1000000; omega
      · exact Nat.zero_le _
    have hon : onS A < 256 := onS_lt A
    have hsk : skA A < 256 := skA_lt A
    obtain ⟨c, hc⟩ : ∃ c : Nat → Nat, c = fun s => smS s p 8 := ⟨_, rfl⟩
    have hck : ∀ s, c s = smS s p 8 := fun s => by rw [hc]
    have hc72 : ∀ s, c s ≤ 72 := fun s => by rw [hck]; have := smS_le (s := s) hp9 8; omega
    obtain ⟨T, hT⟩ : ∃ T : Nat → Bool, T = fun s => sub s (onS A) && decide (c s ≤ v) := ⟨_, rfl⟩
    have hTk : ∀ s, T s = (sub s (onS A) && decide (c s ≤ v)) := fun s => by rw [hT]
    -- a letter on sale strikes
    have sal_sk : ∀ l, l < 8 → sal A l = true → (skA A).testBit l = true := fun l hl hs => by
      unfold sal at hs
      rw [Bool.and_eq_true] at hs
      rw [skA_bit hl, hs.1, Bool.true_and]
      apply decide_eq_true
      refine Classical.byContradiction fun z => ?_
      rw [(prc_0 hw hl).mpr z] at hs
      exact absurd hs.2 (by decide)
    have sk_sal : ∀ l, l < 8 → (skA A).testBit l = true → sal A l = false → prc A l = none := fun l hl hs hn => by
      rw [skA_bit hl, Bool.and_eq_true] at hs
      have hg := of_decide_eq_true hs.2
      cases hc : prc A l with
      | none => rfl
      | some q =>
        unfold sal at hn
        rw [hs.1, Bool.true_and, hc] at hn
        have hq : q = 0 := by
          have : decide (0 < q) = false := hn
          have := of_decide_eq_false this
          omega
        rw [hq] at hc
        exact absurd hg ((prc_0 hw hl).mp hc)
    have subs : ∀ s, s < 256 → sub s (onS A) = true → sub s (skA A) = true ∧ smS s m 8 = c s := fun s hs hz => by
      refine ⟨sub_iff.mpr (fun i hi => ?_), ?_⟩
      · cases hb : s.testBit i with
        | false => rfl
        | true =>
          have := sub_at hz hi hb
          rw [onS_bit hi] at this
          rw [sal_sk i hi this]; rfl
      · rw [hck]
        refine smS_congr (fun l hl hb => ?_)
        have h1 := sub_at hz hl hb
        rw [onS_bit hl] at h1
        rw [hmk, hpk, sal_sk l hl h1, if_pos rfl]
        unfold sal at h1
        rw [Bool.and_eq_true] at h1
        cases hc : prc A l with
        | some q => rfl
        | none => rw [hc] at h1; exact absurd h1.2 (by decide)
    have subm : ∀ s, s < 256 → (sub s (skA A) && decide (smS s m 8 ≤ v)) = T s := fun s hs => by
      rw [hTk]
      cases h1 : sub s (onS A) with
      | true =>
        obtain ⟨h2, h3⟩ := subs s hs h1
        rw [h2, h3]
      | false =>
        rw [Bool.false_and]
        cases h2 : sub s (skA A) with
        | false => rfl
        | true =>
          rw [Bool.true_and]
          apply decide_eq_false
          intro hle
          have : ∃ l, l < 8 ∧ s.testBit l = true ∧ sal A l = false := by
            refine Classical.byContradiction fun z => ?_
            have : sub s (onS A) = true := sub_iff.mpr (fun i hi => by
              cases hb : s.testBit i with
              | false => rfl
              | true =>
                rw [onS_bit hi]
                cases hs : sal A i with
                | true => rfl
                | false => exact absurd ⟨i, hi, hb, hs⟩ z)
            rw [this] at h1; cases h1
          obtain ⟨l, hl, hb, hs⟩ := this
          have h5 := sub_at h2 hl hb
          have h6 : m l = 1000000 := by rw [hmk, h5, if_pos rfl, sk_sal l hl h5 hs]; rfl
          have := smS_ge (f := m) hb hl
          omega
    have hby := byS_lt (T := T) (c := c) (m := v) (fun i _ h => by rw [hTk, Bool.and_eq_true] at h; exact of_decide_eq_true h.2)
    have hb8 := hby 256 (Nat.le_refl _)
    have lC : ∀ (I : Nat → Nat → Int32) (L : Nat → Nat → Int64), invC I L A → ∃ K, ev_do (d + 100) M_SL_buys (.ref 0 :: [.int (nI v)]) (ev_mk h I L) = ev_at (d + 99) M_SL_buys 25 [.ref 0, .int (nI v), .int (nI (onS A)), .int (nI (byS T c 256).1), .int (nI (byS T c 256).2), .int (nI 256), .float 0, .float 0] [] (ev_mk h K L) ∧ frC I K := by
      intro I L hi
      obtain ⟨I1, e1, f1, x1, t1⟩ := xTl (h := h) (L' := L) (d + 96) hw hi frC.rf
      have lp : ∃ K, ev_at (d + 98) M_SL_priceStrikers 15 [.ref 0, .int (nI (msk (sal A) 0)), .int (nI 0)] [] (ev_mk h I1 L) = ev_ri (nI (onS A)) (ev_mk h K L) ∧ frC I K ∧ ∀ l, l < 8 → sal A l = true → K 135 l = nI (p l) := by
        refine lpX (F := fun i J => ev_at (d + 98) M_SL_priceStrikers 15 [.ref 0, .int (nI (msk (sal A) i)), .int (nI i)] [] (ev_mk h J L)) (fun i J => frC I J ∧ tly A J ∧ ∀ l, l < i → sal A l = true → J 135 l = nI (p l)) 8 ?_ ?_ 0 (by omega) _ ⟨f1, t1, fun l hl => by omega⟩
        · intro i J hi' ⟨p1, p2, p3⟩
          have hsg := sg_le hw i true
          have nx : ∀ K y, frC I K → tly A K → K 135 = J 135 → (sal A i = true → y = nI (p i)) → (frC I (ev_up K 135 i y) ∧ tly A (ev_up K 135 i y) ∧ ∀ l, l < i + 1 → sal A l = true → ev_up K 135 i y 135 l = nI (p l)) := fun K y k1 k2 k3 k4 => ⟨k1.up (by unfold scC; omega) (by omega) (by omega), fun l hl => by rw [u_c (by omega), u_c (by omega)]; exact k2 l hl, fun l hl hs => by
            by_cases e : l = i
            · subst e; rw [u_at]; exact k4 hs
            · rw [u_j e, k3]; exact p3 l (by omega) hs⟩
          have e58 : ∀ (K : Nat → Nat → Int32) (o : Option Nat), (∀ q, o = some q → q < 10) → (sal A i = match o with | some q => decide (0 < q) | none => false) → ev_at (d + 98) M_SL_priceStrikers 58 [.ref 0, .int (nI (msk (sal A) i)), .int (nI i)] [.int (enc o), .int (nI i), .ref 135] (ev_mk h K L) = ev_at (d + 98) M_SL_priceStrikers 15 [.ref 0, .int (nI (msk (sal A) (i + 1))), .int (nI (i + 1))] [] (ev_mk h (ev_up K 135 i (enc o)) L) := by
            intro K o ho hs
            rw [e_SL_priceStrikers_58, show ev_in (nI i) 8 = true from z_in (by omega) (by omega)]
            simp only [↓reduceIte]
            rw [q_cl (by omega), u_at, show nI i + 1 = nI (i + 1) from q_add i 1, show (1 : Int32) <<< (nI i &&& 31) = nI (2 ^ i) from z_shl (by omega), fa_or, msk, hs]
            cases o with
            | none => rw [if_neg (by decide)]; simp only [Bool.false_eq_true, if_false, Nat.or_zero]
            | some q =>
              have hq := ho q rfl
              by_cases e : 0 < q
              · rw [if_pos (show (0 : Int32) < enc (some q) from (q_lt (a := 0) (by omega) (by omega)).mpr e)]; simp only [e, decide_true, if_true]
              · rw [if_neg (show ¬ (0 : Int32) < enc (some q) from fun z => e ((q_lt (a := 0) (by omega) (by omega)).mp z))]; simp only [e, decide_false, Bool.false_eq_true, if_false, Nat.or_zero]
          rw [e_SL_priceStrikers_15, if_pos (show nI i < (8 : Int32) from (q_lt (b := 8) (by omega) (by omega)).mpr hi'), q_in (by omega), if_pos (by simp <;> omega), q_cl (by omega), (p2 i hi').1]
          by_cases e0 : 0 < sgn (aBk A).2.1 (aBk A).2.2 (uO (aS A)) i true (aBk A).1
          · obtain ⟨K, g1, g2, g3, g4⟩ := xPr (h := h) (L' := L) (d + 94) hw hi p1 p2 hi'
            have hu : uns1 A i = true := decide_eq_true e0
            refine Or.inl ⟨ev_up K 135 i (enc (prc A i)), ?_, nx K _ g2 g3 (g4 135 (by simp)) (fun hs => ?_)⟩
            · rw [if_neg (show ¬ nI (sgn (aBk A).2.1 (aBk A).2.2 (uO (aS A)) i true (aBk A).1) = 0 from fun z => absurd ((q_eq (b := 0) (by omega) (by omega)).mp z) (by omega)), g1, k_I, k_1, k_2, k_3, e58 K _ (fun q hq => prc_lt hq) (by unfold sal; rw [hu, Bool.true_and])]
            · rw [hpk]
              unfold sal at hs
              rw [hu, Bool.true_and] at hs
              cases hc : prc A i with
              | none => rw [hc] at hs; cases hs
              | some q => rfl
          · have e0' : sgn (aBk A).2.1 (aBk A).2.2 (uO (aS A)) i true (aBk A).1 = 0 := by omega
            have hu : uns1 A i = false := decide_eq_false e0
            have hs0 : sal A i = false := by unfold sal; rw [hu, Bool.false_and]
            refine Or.inl ⟨ev_up J 135 i (enc (some 0)), ?_, nx J _ p1 p2 rfl (fun hs => by rw [hs0] at hs; cases hs)⟩
            rw [if_pos (by rw [e0']; rfl)]
            exact e58 J (some 0) (fun q hq => by cases hq; omega) (by rw [hs0]; rfl)
        · intro J ⟨p1, p2, p3⟩
          refine ⟨J, ?_, p1, p3⟩
          rw [e_SL_priceStrikers_15, if_neg (by decide)]
          rfl
      obtain ⟨K, e2, f2, c2⟩ := lp
      refine ⟨K, ?_, f2⟩
      rw [e_SL_buys_0, show (99 : Int32) = nI 99 from rfl, r_two (by omega), hx, if_pos rfl, e_SL_priceStrikers_0, e1, k_V, k_1, k_2, k_3]
      have e2' : ev_at (d + 98) M_SL_priceStrikers 15 [.ref 0, .int 0, .int 0] [] (ev_mk h I1 L) = _ := e2
      rw [e2', k_I, k_1, k_2, k_3]
      have hT0 : byS T c 1 = (0, 0) := by
        rw [byS]
        have : c 0 = 0 := by
          rw [hck]
          have : ∀ n, smS 0 p n = 0 := by
            intro n
            induction n with
            | zero => rfl
            | succ n ih => rw [smS, ih]; simp
          exact this 8
        show (if T 0 && (decide (pcn 0 < pcn 0) || (decide (pcn 0 = pcn 0) && decide (c 0 < 0))) then _ else _) = _
        rw [decide_eq_false (show ¬ pcn 0 < pcn 0 by omega), decide_eq_false (show ¬ c 0 < 0 by omega)]
        simp [byS]
      have lp2 : ∀ i, i ≤ 255 → ∀ u : Unit, True → ev_at (d + 99) M_SL_buys 25 [.ref 0, .int (nI v), .int (nI (onS A)), .int (nI (byS T c (i + 1)).1), .int (nI (byS T c (i + 1)).2), .int (nI (i + 1)), .float 0, .float 0] [] (ev_mk h K L) = ev_at (d + 99) M_SL_buys 25 [.ref 0, .int (nI v), .int (nI (onS A)), .int (nI (byS T c 256).1), .int (nI (byS T c 256).2), .int (nI 256), .float 0, .float 0] [] (ev_mk h K L) := by
        refine lpE (F := fun i (_ : Unit) => ev_at (d + 99) M_SL_buys 25 [.ref 0, .int (nI v), .int (nI (onS A)), .int (nI (byS T c (i + 1)).1), .int (nI (byS T c (i + 1)).2), .int (nI (i + 1)), .float 0, .float 0] [] (ev_mk h K L)) (fun _ _ => True) (fun o => o = ev_at (d + 99) M_SL_buys 25 [.ref 0, .int (nI v), .int (nI (onS A)), .int (nI (byS T c 256).1), .int (nI (byS T c 256).2), .int (nI 256), .float 0, .float 0] [] (ev_mk h K L)) 255 ?_ (fun _ _ => rfl)
        intro i _ hi' _
        refine Or.inl ⟨(), ?_, trivial⟩
        obtain ⟨j, hj⟩ : ∃ j, j = i + 1 := ⟨_, rfl⟩
        rw [← hj]
        have hbj := hby j (by omega)
        have hcj := hc72 j
        have h1 := pcn_le j
        have h2 := pcn_le (byS T c j).1
        rw [e_SL_buys_25, if_pos (show nI j < (256 : Int32) from (q_lt (b := 256) (by omega) (by omega)).mpr (by omega)), show nI j + 1 = nI (j + 1) from q_add j 1, byS, hTk]
        cases hs : sub j (onS A) with
        | false => rw [if_neg (fun z => by rw [(z_sub (by omega)).mp z] at hs; cases hs), Bool.false_and, Bool.false_and, if_neg (by decide)]
        | true =>
          rw [if_pos ((z_sub (by omega)).mpr hs), c_sumOver (d + 98) (f := p) (fun l hl hb => c2 l hl (by have := sub_at hs hl hb; rwa [onS_bit hl] at this)), k_I, k_1, k_2, k_3, ← hck, c_bitCount (d + 98) (by omega), k_I, k_1, k_2, k_3, c_bitCount (d + 98) hbj.1, k_I, k_1, k_2, k_3, Bool.true_and]
          by_cases c1 : c j ≤ v
          · rw [if_neg (fun z => absurd ((q_lt (by omega) (by omega)).mp z) (by omega)), decide_eq_true c1, Bool.true_and]
            by_cases c3 : pcn (byS T c j).1 < pcn j
            · rw [if_pos ((df_1 _ (by omega) _ (by omega)).mpr c3), decide_eq_true c3, Bool.true_or, if_pos rfl]
            · rw [if_neg (fun z => c3 ((df_1 _ (by omega) _ (by omega)).mp z)), decide_eq_false c3, Bool.false_or]
              by_cases c4 : pcn j = pcn (byS T c j).1
              · rw [if_pos ((df_2 _ (by omega) _ (by omega)).mpr c4), decide_eq_true c4, Bool.true_and]
                by_cases c5 : c j < (byS T c j).2
                · rw [if_pos ((q_lt (by omega) (by omega)).mpr c5), decide_eq_true c5, if_pos rfl]
                · rw [if_neg (fun z => c5 ((q_lt (by omega) (by omega)).mp z)), decide_eq_false c5, if_neg (by decide)]
              · rw [if_neg (fun z => c4 ((df_2 _ (by omega) _ (by omega)).mp z)), decide_eq_false c4, Bool.false_and, if_neg (by decide)]
          · rw [if_pos ((q_lt (by omega) (by omega)).mpr (by omega)), decide_eq_false c1, Bool.false_and, if_neg (by decide)]
      have := lp2 0 (by omega) () trivial
      rw [show 0 + 1 = 1 from rfl, hT0] at this
      exact this
    have lM : ∀ (I : Nat → Nat → Int32) (L : Nat → Nat → Int64), invM I L A → ∃ K, ev_do (d + 100) M_Mo_buys (.ref 139 :: [.int (nI v)]) (ev_mk h I L) = ev_at (d + 99) M_Mo_buys 73 [.ref 139, .int (nI v), .int (nI (skA A)), .int (nI (byS T c 256).1), .int (nI (byS T c 256).2), .int (nI (skA A + 1)), .float 0, .float 0] [] (ev_mk h K L) ∧ frM I K := by
      intro I L hi
      obtain ⟨I1, e1, f1, x1⟩ := xSn (h := h) (L' := L) (d + 93) hw hi frM.t0
      have lp : ∃ K, ev_at (d + 99) M_Mo_buys 30 [.ref 139, .int (nI v), .int (nI (skA A)), .int (nI 0), .float 0, .float 0, .float 0, .float 0] [] (ev_mk h I1 L) = ev_at (d + 99) M_Mo_buys 73 [.ref 139, .int (nI v), .int (nI (skA A)), .int 0, .int 0, .int 0, .float 0, .float 0] [] (ev_mk h K L) ∧ frM I K ∧ ∀ l, l < 8 → K 166 l = nI (m l) := by
        refine lpX (F := fun i J => ev_at (d + 99) M_Mo_buys 30 [.ref 139, .int (nI v), .int (nI (skA A)), .int (nI i), .float 0, .float 0, .float 0, .float 0] [] (ev_mk h J L)) (fun i J => frM I J ∧ ∀ l, l < i → J 166 l = nI (m l)) 8 ?_ ?_ 0 (by omega) _ ⟨f1, fun l hl => by omega⟩
        · intro i J hi' ⟨p1, p2⟩
          have nx : ∀ K, frM I K → K 166 = J 166 → (frM I (ev_up K 166 i (nI (m i))) ∧ ∀ l, l < i + 1 → ev_up K 166 i (nI (m i)) 166 l = nI (m l)) := fun K k1 k3 => ⟨k1.up (by unfold scM; omega) (by omega), fun l hl => by
            by_cases e : l = i
            · rw [e, u_at]
            · rw [u_j e, k3]; exact p2 l (by omega)⟩
          rw [e_Mo_buys_30, if_pos (show nI i < (8 : Int32) from (q_lt (b := 8) (by omega) (by omega)).mpr hi'), xHas (d + 98) (by omega), k_I, k_1, k_2, k_3, show nI i + 1 = nI (i + 1) from q_add i 1]
          cases hb : (skA A).testBit i with
          | false =>
            refine Or.inl ⟨ev_up J 166 i (nI (m i)), ?_, nx J p1 rfl⟩
            rw [if_pos (show fl false = 0 from rfl), q_in (by omega), if_pos (by simp <;> omega), q_cl (by omega), hmk, hb, if_neg (by decide)]
            rfl
          | true =>
            obtain ⟨K, g1, g2, g3⟩ := xCo (h := h) (L' := L) (d + 94) hw hi p1 hi'
            refine Or.inl ⟨ev_up K 166 i (nI (m i)), ?_, nx K g2 (g3 166 (by simp))⟩
            rw [if_neg (show ¬ fl true = 0 by decide), g1, k_I, k_1, k_2, k_3, q_in (by omega), if_pos (by simp <;> omega), q_cl (by omega), hmk, hb, if_pos rfl]
        · intro J ⟨p1, p2⟩
          refine ⟨J, ?_, p1, p2⟩
          rw [e_Mo_buys_30, if_neg (by decide)]
      obtain ⟨K, e2, f2, c2⟩ := lp
      refine ⟨K, ?_, f2⟩
      have hcut : byS T c 256 = byS T c (skA A + 1) := by
        have := byS_cut (T := T) (c := c) (n := skA A + 1) (fun k h1 h2 => by
          rw [← subm k h2]
          cases hs : sub k (skA A) with
          | false => rfl
          | true => have := sub_le h2 hs; omega) (256 - (skA A + 1)) (by omega)
        rw [show skA A + 1 + (256 - (skA A + 1)) = 256 by omega] at this
        exact this
      have lp2 : ev_at (d + 99) M_Mo_buys 73 [.ref 139, .int (nI v), .int (nI (skA A)), .int (nI (byS T c 0).1), .int (nI (byS T c 0).2), .int (nI 0), .float 0, .float 0] [] (ev_mk h K L) = ev_at (d + 99) M_Mo_buys 73 [.ref 139, .int (nI v), .int (nI (skA A)), .int (nI (byS T c (skA A + 1)).1), .int (nI (byS T c (skA A + 1)).2), .int (nI (skA A + 1)), .float 0, .float 0] [] (ev_mk h K L) := by
        refine lpE (F := fun j (_ : Unit) => ev_at (d + 99) M_Mo_buys 73 [.ref 139, .int (nI v), .int (nI (skA A)), .int (nI (byS T c j).1), .int (nI (byS T c j).2), .int (nI j), .float 0, .float 0] [] (ev_mk h K L)) (fun _ _ => True) (fun o => o = ev_at (d + 99) M_Mo_buys 73 [.ref 139, .int (nI v), .int (nI (skA A)), .int (nI (byS T c (skA A + 1)).1), .int (nI (byS T c (skA A + 1)).2), .int (nI (skA A + 1)), .float 0, .float 0] [] (ev_mk h K L)) (skA A + 1) ?_ (fun _ _ => rfl) 0 (by omega) () trivial
        intro j _ hj _
        refine Or.inl ⟨(), ?_, trivial⟩
        have hbj := hby j (by omega)
        have hsj := smS_le (s := j) hm1 8
        have h1 := pcn_le j
        have h2 := pcn_le (byS T c j).1
        have inn : ev_at (d + 99) M_Mo_buys 85 [.ref 139, .int (nI v), .int (nI (skA A)), .int (nI (byS T c j).1), .int (nI (byS T c j).2), .int (nI j), .int (nI (smS j m 0)), .int (nI 0)] [] (ev_mk h K L) = ev_at (d + 99) M_Mo_buys 85 [.ref 139, .int (nI v), .int (nI (skA A)), .int (nI (byS T c j).1), .int (nI (byS T c j).2), .int (nI j), .int (nI (smS j m 8)), .int (nI 8)] [] (ev_mk h K L) := by
          refine lpE (F := fun l (_ : Unit) => ev_at (d + 99) M_Mo_buys 85 [.ref 139, .int (nI v), .int (nI (skA A)), .int (nI (byS T c j).1), .int (nI (byS T c j).2), .int (nI j), .int (nI (smS j m l)), .int (nI l)] [] (ev_mk h K L)) (fun _ _ => True) (fun o => o = ev_at (d + 99) M_Mo_buys 85 [.ref 139, .int (nI v), .int (nI (skA A)), .int (nI (byS T c j).1), .int (nI (byS T c j).2), .int (nI j), .int (nI (smS j m 8)), .int (nI 8)] [] (ev_mk h K L)) 8 ?_ (fun _ _ => rfl) 0 (by omega) () trivial
          intro l _ hl _
          refine Or.inl ⟨(), ?_, trivial⟩
          rw [smS, e_Mo_buys_85, if_pos (show nI l < (8 : Int32) from (q_lt (b := 8) (by omega) (by omega)).mpr hl), xHas (d + 98) (by omega), k_I, k_1, k_2, k_3, show nI l + 1 = nI (l + 1) from q_add l 1]
          cases hb : j.testBit l with
          | false => rw [if_pos (show fl false = 0 from rfl), if_neg (by decide), show nI (smS j m l) + 0 = nI (smS j m l + 0) from q_add _ 0]
          | true => rw [if_neg (show ¬ fl true = 0 by decide), if_pos rfl, q_in (by omega), if_pos (by simp <;> omega), q_cl (by omega), c2 l hl, q_add]
        rw [e_Mo_buys_73, if_neg (fun z => absurd ((q_lt (by omega) (by omega)).mp z) (by omega))]
        refine inn.trans ?_
        rw [e_Mo_buys_85, if_neg (by decide), c_bitCount (d + 98) (by omega), k_I, k_1, k_2, k_3, c_bitCount (d + 98) hbj.1, k_I, k_1, k_2, k_3, show nI j + 1 = nI (j + 1) from q_add j 1, byS, ← subm j (by omega)]
        cases hs : sub j (skA A) with
        | false => rw [if_neg (fun z => by rw [(z_sub (by omega)).mp z] at hs; cases hs), Bool.false_and, Bool.false_and, if_neg (by decide)]
        | true =>
          rw [if_pos ((z_sub (by omega)).mpr hs), Bool.true_and]
          by_cases c1 : smS j m 8 ≤ v
          · have hTj : T j = true := by rw [← subm j (by omega), hs, decide_eq_true c1]; rfl
            have hcm : smS j m 8 = c j := by
              rw [hTk, Bool.and_eq_true] at hTj
              exact (subs j (by omega) hTj.1).2
            rw [if_neg (fun z => absurd ((q_lt (by omega) (by omega)).mp z) (by omega)), decide_eq_true c1, Bool.true_and, hcm]
            have hcj := hc72 j
            by_cases c3 : pcn (byS T c j).1 < pcn j
            · rw [if_pos ((df_1 _ (by omega) _ (by omega)).mpr c3), decide_eq_true c3, Bool.true_or, if_pos rfl]
            · rw [if_neg (fun z => c3 ((df_1 _ (by omega) _ (by omega)).mp z)), decide_eq_false c3, Bool.false_or]
              by_cases c4 : pcn j = pcn (byS T c j).1
              · rw [if_pos ((df_2 _ (by omega) _ (by omega)).mpr c4), decide_eq_true c4, Bool.true_and]
                by_cases c5 : c j < (byS T c j).2
                · rw [if_pos ((q_lt (by omega) (by omega)).mpr c5), decide_eq_true c5, if_pos rfl]
                · rw [if_neg (fun z => c5 ((q_lt (by omega) (by omega)).mp z)), decide_eq_false c5, if_neg (by decide)]
              · rw [if_neg (fun z => c4 ((df_2 _ (by omega) _ (by omega)).mp z)), decide_eq_false c4, Bool.false_and, if_neg (by decide)]
          · rw [if_pos ((q_lt (by omega) (by omega)).mpr (by omega)), decide_eq_false c1, Bool.false_and, if_neg (by decide)]
      rw [e_Mo_buys_0, c_in99, k_I, k_1, k_2, k_3, hx, if_neg (show ¬ fl true = 0 by decide), e1, k_I, k_1, k_2, k_3, hcut]
      exact e2.trans lp2
    refine ⟨nI (pcn (byS T c 256).1), snoc (snoc nil0 (nI (byS T c 256).1).toInt64) (nI (v - (byS T c 256).2)).toInt64, show 2 ≤ 9 by decide, fun I L hi => ?_, fun I L hi => ?_⟩
    · obtain ⟨K, e, f⟩ := lC I L hi
      obtain ⟨K2, L2, e2, x2, l2, r2⟩ := t_two (h := h) (I := K) (L := L) (x := (nI (byS T c 256).1).toInt64) (y := (nI (v - (byS T c 256).2)).toInt64) (d + 97)
      refine ⟨(K2, L2), ?_, f.x x2 (by simp [scC]), r2, l2 140 (by omega)⟩
      rw [e, e_SL_buys_25, if_neg (by decide), q_sub hb8.2, e2, k_V, k_1, k_2, k_3, c_bitCount (d + 98) hb8.1, k_I, k_1, k_2, k_3]
    · obtain ⟨K, e, f⟩ := lM I L hi
      obtain ⟨K2, L2, e2, x2, n2, l2, r2⟩ := t_enters (h := h) (x := (nI (byS T c 256).1).toInt64) (d + 98) (rwM.nil (I := K) (L := L)) (show 0 < 24 by decide)
      obtain ⟨K3, L3, e3, x3, n3, l3, r3⟩ := t_enters (h := h) (x := (nI (v - (byS T c 256).2)).toInt64) (d + 98) r2 (show 1 < 24 by decide)
      refine ⟨(K3, L3), ?_, ((f.t1 _).e x2 n2).e x3 n3, r3, (l3 4 (by omega)).trans (l2 4 (by omega))⟩
      rw [e, e_Mo_buys_73, if_pos ((q_lt (by omega) (by omega)).mpr (by omega)), e2, k_V, k_1, k_2, k_3, q_sub hb8.2, e3, k_V, k_1, k_2, k_3, c_bitCount (d + 98) hb8.1, k_I, k_1, k_2, k_3]
end OS
