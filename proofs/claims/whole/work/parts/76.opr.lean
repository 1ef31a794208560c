/-! Calls: calms, buys. -/
def cS (G : Nat → Bool) : Nat → Nat → Option Nat
  | 0, _ => none
  | m + 1, k => if G k then some k else cS G m (k + 1)
theorem cS_ge {G : Nat → Bool} : ∀ {m k q : Nat}, cS G m k = some q → k ≤ q ∧ q < k + m
  | 0, k, q, h => by cases h
  | m + 1, k, q, h => by
    rw [cS] at h
    split at h
    · cases h; omega
    · have := cS_ge h; omega
/-- a sum over a set -/
def smS (s : Nat) (f : Nat → Nat) : Nat → Nat
  | 0 => 0
  | n + 1 => smS s f n + if s.testBit n then f n else 0
theorem smS_le {s : Nat} {f : Nat → Nat} {c : Nat} (h : ∀ l, f l ≤ c) : ∀ n, smS s f n ≤ c * n
  | 0 => Nat.le_refl _
  | n + 1 => by
    have h1 := smS_le (s := s) h n
    have h2 := h n
    rw [smS, Nat.mul_succ]
    split <;> omega
theorem smS_ge {s : Nat} {f : Nat → Nat} {l : Nat} (hl : s.testBit l = true) : ∀ {n : Nat}, l < n → f l ≤ smS s f n
  | 0, h => absurd h (by omega)
  | n + 1, h => by
    rw [smS]
    by_cases e : l = n
    · rw [← e, hl, if_pos rfl]; omega
    · have := smS_ge (s := s) (f := f) hl (n := n) (by omega)
      omega
theorem smS_congr {s : Nat} {f g : Nat → Nat} : ∀ {n : Nat}, (∀ l, l < n → s.testBit l = true → f l = g l) → smS s f n = smS s g n
  | 0, _ => rfl
  | n + 1, h => by
    rw [smS, smS, smS_congr (n := n) (fun l hl => h l (by omega))]
    cases hb : s.testBit n with
    | true => rw [h n (by omega) hb]
    | false => rfl
section OR
variable {h : Bool × Nat × Nat} {d : Nat} {I J : Nat → Nat → Int32} {L : Nat → Nat → Int64} {A : aP}
/-- with the offer k the letter l has no grudge -/
def gOk (A : aP) (l k : Nat) : Bool := !decide (0 < gA A (aRl A) l (nI k))
/-- the least that must be added -/
def prc (A : aP) (l : Nat) : Option Nat := (cS (gOk A l) (10 - uO (aS A) (16 + l)) (uO (aS A) (16 + l))).map (fun q => q - uO (aS A) (16 + l))
theorem prc_lt {l q : Nat} (hq : prc A l = some q) : q < 10 := by
  unfold prc at hq
  cases hc : cS (gOk A l) (10 - uO (aS A) (16 + l)) (uO (aS A) (16 + l)) with
  | none => rw [hc] at hq; cases hq
  | some r =>
    rw [hc] at hq
    cases hq
    have := cS_ge hc
    show r - _ < 10
    omega
theorem xPr (d : Nat) (hw : wfA A) (hi : invC I L A) (f : frC I J) (ht : tly A J) {l : Nat} (hl : l < 8) {L' : Nat → Nat → Int64} : ∃ K, ev_do (d + 4) M_Union_priceOf [.ref 109, .ref 101, .ref 17, .int (nI l)] (ev_mk h J L') = ev_ri (enc (prc A l)) (ev_mk h K L') ∧ frC I K ∧ tly A K ∧ exc [111, 101, 103] J K := by
  obtain ⟨o, ho⟩ : ∃ o, o = uO (aS A) (16 + l) := ⟨_, rfl⟩
  have ho9 : o < 10 := by rw [ho]; exact (hw.2.2.2.1.o hl).2
  have h20 : ∀ K, frC I K → K 20 l = nI o := fun K fK => by rw [ho]; exact (((hi.s fK).1 l hl).2.2).trans (hw.2.2.2.1.o hl).1
  rw [e_Union_priceOf_0, q_in (by omega), if_pos (by simp <;> omega), q_cl (by omega), h20 J f]
  have lp : ∀ i, i ≤ 10 - o → ∀ K, (frC I K ∧ tly A K ∧ exc [111, 101, 103] J K) ∧ cS (gOk A l) (10 - o - i) (o + i) = cS (gOk A l) (10 - o) o → ∃ K', ev_at (d + 3) M_Union_priceOf 8 [.ref 109, .ref 101, .ref 17, .int (nI l), .int (nI (o + i))] [] (ev_mk h K L') = ev_ri (enc (prc A l)) (ev_mk h K' L') ∧ frC I K' ∧ tly A K' ∧ exc [111, 101, 103] J K' := by
    refine lpX (F := fun i K => ev_at (d + 3) M_Union_priceOf 8 [.ref 109, .ref 101, .ref 17, .int (nI l), .int (nI (o + i))] [] (ev_mk h K L')) (fun i K => (frC I K ∧ tly A K ∧ exc [111, 101, 103] J K) ∧ cS (gOk A l) (10 - o - i) (o + i) = cS (gOk A l) (10 - o) o) (10 - o) ?_ ?_
    · intro i K hi' ⟨⟨p1, p2, p3⟩, p4⟩
      obtain ⟨K1, g1, g2, g3, g4⟩ := xGr (h := h) (L' := L') d hw hi p1 p2 hl (nI (o + i))
      rw [show 10 - o - i = (10 - o - (i + 1)) + 1 by omega, cS] at p4
      rw [e_Union_priceOf_8, if_neg (show ¬ (9 : Int32) < nI (o + i) from fun z => absurd ((q_lt (a := 9) (by omega) (by omega)).mp z) (by omega)), g1, k_I, k_1, k_2, k_3]
      by_cases e : 0 < gA A (aRl A) l (nI (o + i))
      · refine Or.inl ⟨K1, ?_, ⟨g2, g3, p3.tr g4⟩, ?_⟩
        · rw [if_pos e, show nI (o + i) + 1 = nI (o + (i + 1)) from q_add _ 1]
        · rw [if_neg (by unfold gOk; rw [decide_eq_true e]; decide)] at p4
          exact p4
      · refine Or.inr ⟨K1, ?_, g2, g3, p3.tr g4⟩
        rw [if_pos (by unfold gOk; rw [decide_eq_false e]; rfl)] at p4
        rw [if_neg e, q_in (by omega), if_pos (by simp <;> omega), q_cl (by omega), h20 K1 g2, q_sub (by omega)]
        unfold prc
        rw [← ho, ← p4]
        rfl
    · intro K ⟨⟨p1, p2, p3⟩, p4⟩
      refine ⟨K, ?_, p1, p2, p3⟩
      rw [Nat.sub_self] at p4
      have p4' : none = cS (gOk A l) (10 - o) o := p4
      rw [e_Union_priceOf_8, if_pos (show (9 : Int32) < nI (o + (10 - o)) from (q_lt (a := 9) (by omega) (by omega)).mpr (by omega))]
      unfold prc
      rw [← ho, ← p4']
      rfl
  exact lp 0 (by omega) J ⟨⟨f, ht, exc.rf⟩, rfl⟩
theorem xCo (d : Nat) (hw : wfA A) (hi : invM I L A) (f : frM I J) {l : Nat} (hl : l < 8) {L' : Nat → Nat → Int64} : ∃ K, ev_do (d + 5) M_Mo_cost [.ref 139, .int (nI l)] (ev_mk h J L') = ev_ri (nI ((prc A l).getD 1000000)) (ev_mk h K L') ∧ frM I K ∧ exc [151, 152] J K := by
  obtain ⟨o, ho⟩ : ∃ o, o = uO (aS A) (16 + l) := ⟨_, rfl⟩
  have ho9 : o < 10 := by rw [ho]; exact (hw.2.2.2.1.o hl).2
  have h16 : ∀ K, frM I K → K 143 (16 + l) = nI o := fun K fK => by rw [ho]; exact ((hi.s fK).at (by omega)).trans (hw.2.2.2.1.o hl).1
  have e16 : (16 : Int32) + nI l = nI (16 + l) := q_add 16 l
  rw [e_Mo_cost_0]
  have lp : ∀ i, i ≤ 10 - o → ∀ K, (frM I K ∧ exc [151, 152] J K) ∧ cS (gOk A l) (10 - o - i) (o + i) = cS (gOk A l) (10 - o) o → ∃ K', ev_at (d + 4) M_Mo_cost 2 [.ref 139, .int (nI l), .int (nI i)] [] (ev_mk h K L') = ev_ri (nI ((prc A l).getD 1000000)) (ev_mk h K' L') ∧ frM I K' ∧ exc [151, 152] J K' := by
    refine lpX (F := fun i K => ev_at (d + 4) M_Mo_cost 2 [.ref 139, .int (nI l), .int (nI i)] [] (ev_mk h K L')) (fun i K => (frM I K ∧ exc [151, 152] J K) ∧ cS (gOk A l) (10 - o - i) (o + i) = cS (gOk A l) (10 - o) o) (10 - o) ?_ ?_
    · intro i K hi' ⟨⟨p1, p3⟩, p4⟩
      obtain ⟨K1, g1, g2, g4⟩ := xGm (h := h) (L' := L') d hw hi p1 hl (nI (o + i))
      rw [show 10 - o - i = (10 - o - (i + 1)) + 1 by omega, cS] at p4
      rw [e_Mo_cost_2, e16, show ev_in (nI (16 + l)) 27 = true from z_in (by omega) (by omega)]
      simp only [↓reduceIte]
      rw [q_cl (by omega), h16 K p1, q_add i o, q_add o i, if_neg (show ¬ (9 : Int32) < nI (i + o) from fun z => absurd ((q_lt (a := 9) (by omega) (by omega)).mp z) (by omega)), g1, k_I, k_1, k_2, k_3]
      by_cases e : 0 < gA A (aRl A) l (nI (o + i))
      · refine Or.inl ⟨K1, ?_, ⟨g2, p3.tr g4⟩, ?_⟩
        · rw [if_pos e, show nI i + 1 = nI (i + 1) from q_add _ 1]
        · rw [if_neg (by unfold gOk; rw [decide_eq_true e]; decide)] at p4
          exact p4
      · refine Or.inr ⟨K1, ?_, g2, p3.tr g4⟩
        rw [if_pos (by unfold gOk; rw [decide_eq_false e]; rfl)] at p4
        rw [if_neg e]
        unfold prc
        rw [← ho, ← p4]
        show _ = ev_ri (nI (o + i - o)) _
        rw [show o + i - o = i by omega]
    · intro K ⟨⟨p1, p3⟩, p4⟩
      refine ⟨K, ?_, p1, p3⟩
      rw [Nat.sub_self] at p4
      have p4' : none = cS (gOk A l) (10 - o) o := p4
      rw [e_Mo_cost_2, e16, q_in (by omega), if_pos (by simp <;> omega), q_cl (by omega), h16 K p1, q_add, if_pos (show (9 : Int32) < nI (10 - o + o) from (q_lt (a := 9) (by omega) (by omega)).mpr (by omega))]
      unfold prc
      rw [← ho, ← p4']
      rfl
  exact lp 0 (by omega) J ⟨⟨f, exc.rf⟩, rfl⟩
def uns1 (A : aP) (l : Nat) : Bool := decide (0 < sgn (aBk A).2.1 (aBk A).2.2 (uO (aS A)) l true (aBk A).1)
theorem unL_bit {l : Nat} (hl : l < 8) : (unL A).testBit l = uns1 A l := by
  unfold unL uns uns1
  rw [msk_bit, decide_eq_true hl, Bool.true_and]
def pl (A : aP) (l : Nat) : Option Nat := if uns1 A l then prc A l else some 0
theorem pl_lt {l q : Nat} (hq : pl A l = some q) : q < 10 := by
  unfold pl at hq
  split at hq
  · exact prc_lt hq
  · cases hq; omega
theorem op_calms (hi : inv I L) : okI h d M_SL_calms M_Mo_calms [] I L := by
  refine ok_q (fun A hw => ?_) hi
  have hW := hw.2.2.1.1
  obtain ⟨c, hc⟩ : ∃ c : Nat → Nat, c = fun l => (pl A l).getD 1000000 := ⟨_, rfl⟩
  have hck : ∀ l, c l = (pl A l).getD 1000000 := fun l => by rw [hc]
  have hc1 : ∀ l, c l ≤ 1000000 := fun l => by
    rw [hck]
    cases hp : pl A l with
    | none => exact Nat.le_refl _
    | some q => have := pl_lt hp; show q ≤ 1000000; omega
  have hs1 : ∀ n, sm c n ≤ 1000000 * n := sm_le hc1
  have lM : ∀ (I : Nat → Nat → Int32) (L : Nat → Nat → Int64), invM I L A → ∃ K, ev_do (d + 100) M_Mo_calms (.ref 139 :: []) (ev_mk h I L) = ev_at (d + 99) M_Mo_calms 18 [.ref 139, .int (nI (unL A)), .int (nI (sm c 8)), .int (nI 8)] [] (ev_mk h K L) ∧ frM I K ∧ K 139 1 = I 139 1 ∧ ∀ l, l < 8 → K 166 l = nI (c l) := by
    intro I L hi
    rw [e_Mo_calms_0, xUm (d + 96) hw hi frM.t0, k_I, k_1, k_2, k_3]
    refine lpX (F := fun i J => ev_at (d + 99) M_Mo_calms 18 [.ref 139, .int (nI (unL A)), .int (nI (sm c i)), .int (nI i)] [] (ev_mk h J L)) (fun i J => frM I J ∧ J 139 1 = I 139 1 ∧ ∀ l, l < i → J 166 l = nI (c l)) 8 ?_ (fun J p => ⟨J, rfl, p⟩) 0 (by omega) _ ⟨frM.t0, u_j (by omega), fun l hl => by omega⟩
    intro i J hi' ⟨p1, p2, p3⟩
    have e46 : ∀ K y, y = nI (c i) → ev_at (d + 99) M_Mo_calms 46 [.ref 139, .int (nI (unL A)), .int (nI (sm c i)), .int (nI i)] [.int y, .int (nI i), .ref 166] (ev_mk h K L) = ev_at (d + 99) M_Mo_calms 18 [.ref 139, .int (nI (unL A)), .int (nI (sm c (i + 1))), .int (nI (i + 1))] [] (ev_mk h (ev_up K 166 i (nI (c i))) L) := by
      intro K y hy
      rw [e_Mo_calms_46, q_in (by omega), if_pos (by simp <;> omega), if_pos (by simp <;> omega), q_cl (by omega), u_at, hy, q_add, show nI i + 1 = nI (i + 1) from q_add i 1]
      rfl
    have nx : ∀ K, frM I K → K 139 1 = I 139 1 → K 166 = J 166 → (frM I (ev_up K 166 i (nI (c i))) ∧ ev_up K 166 i (nI (c i)) 139 1 = I 139 1 ∧ ∀ l, l < i + 1 → ev_up K 166 i (nI (c i)) 166 l = nI (c l)) := fun K k1 k2 k3 => ⟨k1.up (by unfold scM; omega) (by omega), by rw [u_c (by omega)]; exact k2, fun l hl => by
      by_cases e : l = i
      · rw [e, u_at]
      · rw [u_j e, k3]; exact p3 l (by omega)⟩
    rw [e_Mo_calms_18, if_pos (show nI i < (8 : Int32) from (q_lt (b := 8) (by omega) (by omega)).mpr hi'), xHas (d + 98) (by omega), k_I, k_1, k_2, k_3, unL_bit hi']
    cases hu : uns1 A i with
    | false =>
      refine Or.inl ⟨ev_up J 166 i (nI (c i)), ?_, nx J p1 p2 rfl⟩
      rw [if_pos (show fl false = 0 from rfl), e46 J 0 (by rw [hck]; unfold pl; rw [hu]; rfl)]
    | true =>
      obtain ⟨K, g1, g2, g3⟩ := xCo (h := h) (L' := L) (d + 94) hw hi p1 hi'
      refine Or.inl ⟨ev_up K 166 i (nI (c i)), ?_, nx K g2 (by rw [g3 139 (by simp)]; exact p2) (g3 166 (by simp))⟩
      rw [if_neg (show ¬ fl true = 0 by decide), g1, k_I, k_1, k_2, k_3, e46 K _ (by rw [hck]; unfold pl; rw [hu]; rfl)]
  by_cases hall : ∀ l, l < 8 → ∃ q, pl A l = some q
  · have hcl : ∀ l, l < 8 → c l < 10 := fun l hl => by
      obtain ⟨q, hq⟩ := hall l hl
      rw [hck, hq]; exact pl_lt hq
    have hsum : ∀ n, n ≤ 8 → sm c n ≤ 9 * n := by
      intro n
      induction n with
      | zero => intro _; exact Nat.le_refl _
      | succ n ih => intro hn; have := ih (by omega); have := hcl n (by omega); rw [sm]; omega
    have hsum8 := hsum 8 (by omega)
    refine ⟨nI (sm c 8), rowF (fun l => (nI (c l)).toInt64) 8, by rw [rowF_len]; omega, fun I L hi => ?_, fun I L hi => ?_⟩
    · obtain ⟨I1, e1, f1, x1, t1⟩ := xTl (h := h) (L' := L) (d + 97) hw hi frC.rf
      have lp : ∃ K, ev_at (d + 99) M_SL_calms 15 [.ref 0, .int (nI (sm c 0)), .int (nI 0)] [] (ev_mk h I1 L) = ev_at (d + 99) M_SL_calms 15 [.ref 0, .int (nI (sm c 8)), .int (nI 8)] [] (ev_mk h K L) ∧ frC I K ∧ tly A K ∧ ∀ l, l < 8 → K 135 l = nI (c l) := by
        refine lpX (F := fun i J => ev_at (d + 99) M_SL_calms 15 [.ref 0, .int (nI (sm c i)), .int (nI i)] [] (ev_mk h J L)) (fun i J => frC I J ∧ tly A J ∧ ∀ l, l < i → J 135 l = nI (c l)) 8 ?_ (fun J p => ⟨J, rfl, p⟩) 0 (by omega) _ ⟨f1, t1, fun l hl => by omega⟩
        intro i J hi' ⟨p1, p2, p3⟩
        have hsg := sg_le hw i true
        have hci := hcl i hi'
        have e58 : ∀ K y, y = nI (c i) → ev_at (d + 99) M_SL_calms 58 [.ref 0, .int (nI (sm c i)), .int (nI i)] [.int y, .int (nI i), .ref 135] (ev_mk h K L) = ev_at (d + 99) M_SL_calms 15 [.ref 0, .int (nI (sm c (i + 1))), .int (nI (i + 1))] [] (ev_mk h (ev_up K 135 i (nI (c i))) L) := by
          intro K y hy
          rw [e_SL_calms_58, show ev_in (nI i) 8 = true from z_in (by omega) (by omega)]
          simp only [↓reduceIte]
          rw [q_cl (by omega), u_at, hy, if_neg (show ¬ nI (c i) = -1 from fun z => absurd (show nI (c i) < 0 by rw [z]; decide) (q_nn (by omega))), q_add, show nI i + 1 = nI (i + 1) from q_add i 1]
          rfl
        have nx : ∀ K, frC I K → tly A K → K 135 = J 135 → (frC I (ev_up K 135 i (nI (c i))) ∧ tly A (ev_up K 135 i (nI (c i))) ∧ ∀ l, l < i + 1 → ev_up K 135 i (nI (c i)) 135 l = nI (c l)) := fun K k1 k2 k3 => ⟨k1.up (by unfold scC; omega) (by omega) (by omega), fun l hl => by rw [u_c (by omega), u_c (by omega)]; exact k2 l hl, fun l hl => by
          by_cases e : l = i
          · rw [e, u_at]
          · rw [u_j e, k3]; exact p3 l (by omega)⟩
        rw [e_SL_calms_15, if_pos (show nI i < (8 : Int32) from (q_lt (b := 8) (by omega) (by omega)).mpr hi'), q_in (by omega), if_pos (by simp <;> omega), q_cl (by omega), (p2 i hi').1]
        by_cases e0 : 0 < sgn (aBk A).2.1 (aBk A).2.2 (uO (aS A)) i true (aBk A).1
        · obtain ⟨K, g1, g2, g3, g4⟩ := xPr (h := h) (L' := L) (d + 95) hw hi p1 p2 hi'
          have hu : uns1 A i = true := decide_eq_true e0
          obtain ⟨q, hq⟩ := hall i hi'
          have hq' : prc A i = some q := by unfold pl at hq; rwa [hu, if_pos rfl] at hq
          refine Or.inl ⟨ev_up K 135 i (nI (c i)), ?_, nx K g2 g3 (g4 135 (by simp))⟩
          rw [if_neg (show ¬ nI (sgn (aBk A).2.1 (aBk A).2.2 (uO (aS A)) i true (aBk A).1) = 0 from fun z => absurd ((q_eq (b := 0) (by omega) (by omega)).mp z) (by omega)), g1, k_I, k_1, k_2, k_3, e58 K _ (by rw [hq', hck, hq]; rfl)]
        · have e0' : sgn (aBk A).2.1 (aBk A).2.2 (uO (aS A)) i true (aBk A).1 = 0 := by omega
          have hu : uns1 A i = false := decide_eq_false e0
          refine Or.inl ⟨ev_up J 135 i (nI (c i)), ?_, nx J p1 p2 rfl⟩
          rw [if_pos (by rw [e0']; rfl), e58 J 0 (by rw [hck]; unfold pl; rw [hu]; rfl)]
      obtain ⟨K, e2, f2, t2, c2⟩ := lp
      rw [e_SL_calms_0, e1, k_V, k_1, k_2, k_3]
      have e2' : ev_at (d + 99) M_SL_calms 15 [.ref 0, .int 0, .int 0] [] (ev_mk h I1 L) = _ := e2
      rw [e2', e_SL_calms_15, if_neg (by decide)]
      refine lpX (F := fun i (p : sIL) => ev_at (d + 99) M_SL_calms 97 [.ref 0, .int (nI (sm c 8)), .int (nI i)] [] (ev_mk h p.1 p.2)) (fun i p => frC I p.1 ∧ rwC p.1 p.2 (rowF (fun l => (nI (c l)).toInt64) i) ∧ p.2 140 = L 140 ∧ p.1 135 = K 135) 8 ?_ ?_ 0 (by omega) (ev_up K 3 1 0, L) ⟨f2.t1 _, rwC.nil, rfl, (by show ev_up K 3 1 0 135 = K 135; exact u_cf (by omega))⟩
      · intro i p hi' ⟨p1, p2, p3, p4⟩
        obtain ⟨K2, L2, j1, j2, j3, j4⟩ := t_tell (h := h) (x := (nI (c i)).toInt64) (d + 98) p2 (by rw [rowF_len]; omega)
        refine Or.inl ⟨(K2, L2), ?_, p1.x j2 (by simp [scC]), j4, (j3 140 (by omega)).trans p3, (j2 135 (by simp)).trans p4⟩
        rw [e_SL_calms_97, if_pos (show nI i < (8 : Int32) from (q_lt (b := 8) (by omega) (by omega)).mpr hi'), q_in (by omega), if_pos (by simp <;> omega), q_cl (by omega), p4, c2 i hi', j1, k_V, k_1, k_2, k_3, show nI i + 1 = nI (i + 1) from q_add i 1]
      · intro p ⟨p1, p2, p3, p4⟩
        refine ⟨p, ?_, p1, p2, p3⟩
        rw [e_SL_calms_97, if_neg (by decide)]
    · obtain ⟨K, e, f, k, c2⟩ := lM I L hi
      rw [e, e_Mo_calms_18, if_neg (by decide), if_pos (show nI (sm c 8) < (1000000 : Int32) from (q_lt (b := 1000000) (by omega) (by omega)).mpr (by omega))]
      refine lpX (F := fun i (p : sIL) => ev_at (d + 99) M_Mo_calms 79 [.ref 139, .float 0, .int (nI (sm c 8)), .int (nI i)] [] (ev_mk h p.1 p.2)) (fun i p => frM I p.1 ∧ rwM p.1 p.2 (rowF (fun l => (nI (c l)).toInt64) i) ∧ p.2 4 = L 4 ∧ p.1 166 = K 166) 8 ?_ ?_ 0 (by omega) (ev_up K 139 1 0, L) ⟨f.t1 _, rwM.nil, rfl, (by show ev_up K 139 1 0 166 = K 166; exact u_cf (by omega))⟩
      · intro i p hi' ⟨p1, p2, p3, p4⟩
        obtain ⟨K2, L2, j1, j2, n2, j3, j4⟩ := t_enters (h := h) (x := (nI (c i)).toInt64) (d + 98) p2 (by rw [rowF_len]; omega)
        refine Or.inl ⟨(K2, L2), ?_, p1.e j2 n2, j4, (j3 4 (by omega)).trans p3, (j2 166 (by simp)).trans p4⟩
        rw [e_Mo_calms_79, if_pos (show nI i < (8 : Int32) from (q_lt (b := 8) (by omega) (by omega)).mpr hi'), q_in (by omega), if_pos (by simp <;> omega), q_cl (by omega), p4, c2 i hi', j1, k_V, k_1, k_2, k_3, show nI i + 1 = nI (i + 1) from q_add i 1]
      · intro p ⟨p1, p2, p3, p4⟩
        refine ⟨p, ?_, p1, p2, p3⟩
        rw [e_Mo_calms_79, if_neg (by decide)]
  · have hex : ∃ l, l < 8 ∧ pl A l = none := by
      have := Classical.not_forall.mp hall
      obtain ⟨l, hl⟩ := this
      refine ⟨l, ?_, ?_⟩
      · exact Classical.byContradiction fun z => hl (fun y => absurd y z)
      · cases hp : pl A l with
        | none => rfl
        | some q => exact absurd (fun _ => ⟨q, hp⟩) hl
    have hge : 1000000 ≤ sm c 8 := by
      obtain ⟨l, hl, hp⟩ := hex
      have hcl : c l = 1000000 := by rw [hck, hp]; rfl
      have : ∀ n, l < n → c l ≤ sm c n := by
        intro n
        induction n with
        | zero => intro z; omega
        | succ n ih =>
          intro z
          rw [sm]
          by_cases e : l = n
          · rw [e]; omega
          · have := ih (by omega); omega
      have := this 8 hl
      omega
    have hle := hs1 8
    refine ⟨-2, aRw A, hw.2.1, qC_no (fun I L hi => ?_), qM_no (fun I L hi => ?_)⟩
    · obtain ⟨I1, e1, f1, x1, t1⟩ := xTl (h := h) (L' := L) (d + 97) hw hi frC.rf
      rw [e_SL_calms_0, e1, k_V, k_1, k_2, k_3]
      refine lpX (F := fun i J => ev_at (d + 99) M_SL_calms 15 [.ref 0, .int (nI (sm c i)), .int (nI i)] [] (ev_mk h J L)) (fun i J => (frC I J ∧ tly A J ∧ J 3 1 = I 3 1) ∧ ∀ l, l < i → ∃ q, pl A l = some q) 8 ?_ ?_ 0 (by omega) _ ⟨⟨f1, t1, by rw [x1 3 (by simp)]⟩, fun l hl => by omega⟩
      · intro i J hi' ⟨⟨p1, p2, p4⟩, p3⟩
        have hsg := sg_le hw i true
        have nx : ∀ K y, frC I K → tly A K → K 3 1 = I 3 1 → frC I (ev_up K 135 i y) ∧ tly A (ev_up K 135 i y) ∧ ev_up K 135 i y 3 1 = I 3 1 := fun K y k1 k2 k3 => ⟨k1.up (by unfold scC; omega) (by omega) (by omega), fun l hl => by rw [u_c (by omega), u_c (by omega)]; exact k2 l hl, by rw [u_c (by omega)]; exact k3⟩
        have e58 : ∀ (K : Nat → Nat → Int32) (o : Option Nat), (frC I K ∧ tly A K ∧ K 3 1 = I 3 1) → pl A i = o → ((∃ s', ev_at (d + 99) M_SL_calms 58 [.ref 0, .int (nI (sm c i)), .int (nI i)] [.int (enc o), .int (nI i), .ref 135] (ev_mk h K L) = ev_at (d + 99) M_SL_calms 15 [.ref 0, .int (nI (sm c (i + 1))), .int (nI (i + 1))] [] (ev_mk h s' L) ∧ (frC I s' ∧ tly A s' ∧ s' 3 1 = I 3 1) ∧ ∀ l, l < i + 1 → ∃ q, pl A l = some q) ∨ ∃ t, ev_at (d + 99) M_SL_calms 58 [.ref 0, .int (nI (sm c i)), .int (nI i)] [.int (enc o), .int (nI i), .ref 135] (ev_mk h K L) = ev_ri (-2) (ev_mk h t L) ∧ frC I t ∧ t 3 1 = I 3 1) := by
          intro K o hK ho
          rw [e_SL_calms_58, show ev_in (nI i) 8 = true from z_in (by omega) (by omega)]
          simp only [↓reduceIte]
          rw [q_cl (by omega), u_at]
          cases o with
          | none =>
            have := nx K (enc none) hK.1 hK.2.1 hK.2.2
            exact Or.inr ⟨_, if_pos rfl, this.1, this.2.2⟩
          | some q =>
            have hq := pl_lt ho
            refine Or.inl ⟨ev_up K 135 i (nI q), ?_, nx K _ hK.1 hK.2.1 hK.2.2, fun l hl => ?_⟩
            · rw [show enc (some q) = nI q from rfl, if_neg (show ¬ nI q = -1 from fun z => absurd (show nI q < 0 by rw [z]; decide) (q_nn (by omega))), show nI i + 1 = nI (i + 1) from q_add i 1, q_add, show sm c (i + 1) = sm c i + q from congrArg (sm c i + ·) (by rw [hck, ho]; rfl)]
            · by_cases e : l = i
              · rw [e]; exact ⟨q, ho⟩
              · exact p3 l (by omega)
        rw [e_SL_calms_15, if_pos (show nI i < (8 : Int32) from (q_lt (b := 8) (by omega) (by omega)).mpr hi'), q_in (by omega), if_pos (by simp <;> omega), q_cl (by omega), (p2 i hi').1]
        by_cases e0 : 0 < sgn (aBk A).2.1 (aBk A).2.2 (uO (aS A)) i true (aBk A).1
        · obtain ⟨K, g1, g2, g3, g4⟩ := xPr (h := h) (L' := L) (d + 95) hw hi p1 p2 hi'
          have hu : uns1 A i = true := decide_eq_true e0
          rw [if_neg (show ¬ nI (sgn (aBk A).2.1 (aBk A).2.2 (uO (aS A)) i true (aBk A).1) = 0 from fun z => absurd ((q_eq (b := 0) (by omega) (by omega)).mp z) (by omega)), g1, k_I, k_1, k_2, k_3]
          exact e58 K (prc A i) ⟨g2, g3, by rw [g4 3 (by simp)]; exact p4⟩ (by unfold pl; rw [hu, if_pos rfl])
        · have e0' : sgn (aBk A).2.1 (aBk A).2.2 (uO (aS A)) i true (aBk A).1 = 0 := by omega
          have hu : uns1 A i = false := decide_eq_false e0
          rw [if_pos (by rw [e0']; rfl)]
          exact e58 J (some 0) ⟨p1, p2, p4⟩ (by unfold pl; rw [hu, if_neg (by decide)])
      · intro J ⟨_, p3⟩
        obtain ⟨l, hl, hp⟩ := hex
        obtain ⟨q, hq⟩ := p3 l hl
        rw [hp] at hq; cases hq
    · obtain ⟨K, e, f, k, c2⟩ := lM I L hi
      refine ⟨K, ?_, f, k⟩
      rw [e, e_Mo_calms_18, if_neg (by decide), if_neg (show ¬ nI (sm c 8) < (1000000 : Int32) from fun z => absurd ((q_lt (b := 1000000) (by omega) (by omega)).mp z) (by omega))]
end OR
