/-! Calls: rests, game. -/
def gn (x y v : Nat) : Int32 := if nI y < nI x then nI v - (nI x + (if 0 < nI x - 5 then nI x - 5 else 0)) else if nI x = nI y then nI v / 2 - (nI x + (if 0 < nI x - 5 then nI x - 5 else 0)) else nI v / 3 - (nI x + (if 0 < nI x - 5 then nI x - 5 else 0))
def gm (x y v : Nat) : Int32 := if nI y < nI x then nI v - nI x - (if 0 < nI x - 5 then nI x - 5 else 0) else if nI x = nI y then nI v / 2 - nI x - (if 0 < nI x - 5 then nI x - 5 else 0) else nI v / 3 - nI x - (if 0 < nI x - 5 then nI x - 5 else 0)
theorem gn_gm : ∀ x, x < 10 → ∀ y, y < 10 → ∀ v, v < 21 → gn x y v = gm x y v := by decide +kernel
def bs (v x y : Nat) : Bool := (List.range 10).all fun k => !decide (gn x y v < gn k y v)
theorem bs_iff {v x y : Nat} : bs v x y = true ↔ ∀ k, k < 10 → ¬ gn x y v < gn k y v := by
  unfold bs
  rw [List.all_eq_true]
  constructor
  · intro z k hk
    have := z k (List.mem_range.mpr hk)
    simpa using this
  · intro z k hk
    have := z k (List.mem_range.mp hk)
    simpa using this
def rP (v i : Nat) : Bool := bs v (i / 10) (i % 10) && bs v (i % 10) (i / 10)
def rwR (o : Option Nat) : Nat × (Nat → Int64) := match o with
  | none => nil0
  | some k => snoc (snoc nil0 (nI ((k - 1) / 10)).toInt64) (nI ((k - 1) % 10)).toInt64
theorem rwR_len (o : Option Nat) : (rwR o).1 ≤ 2 := by
  cases o with
  | none => exact (show 0 ≤ 2 by decide)
  | some k => exact Nat.le_refl 2
theorem fwh_s {Q : Nat → Bool} {i : Nat} : fwh Q (i + 1) = match fwh Q i with
    | some k => some k
    | none => if Q i then some (i + 1) else none := rfl
section OV
variable {h : Bool × Nat × Nat} {d : Nat} {I J : Nat → Nat → Int32} {L : Nat → Nat → Int64} {A : aP}
theorem c_gainOf (d : Nat) {x y v : Nat} : ev_do (d + 1) M_SL_gainOf [.int (nI x), .int (nI y), .int (nI v)] (ev_mk h J L) = ev_ri (gn x y v) (ev_mk h J L) := by
  rw [e_SL_gainOf_0]
  unfold gn
  by_cases c1 : nI y < nI x
  · rw [if_pos c1, if_pos c1]
  · rw [if_neg c1, if_neg c1]
    by_cases c2 : nI x = nI y
    · rw [if_pos c2, if_pos c2]
    · rw [if_neg c2, if_neg c2]
theorem c_gets (d : Nat) {x y v : Nat} (hx : x < 10) (hy : y < 10) (hv : v < 21) : ev_do (d + 1) M_Mo_gets [.int (nI x), .int (nI y), .int (nI v)] (ev_mk h J L) = ev_ri (gn x y v) (ev_mk h J L) := by
  rw [gn_gm x hx y hy v hv, e_Mo_gets_0]
  unfold gm
  by_cases c1 : nI y < nI x
  · rw [if_pos c1, if_pos c1, e_Mo_gets_23]
  · rw [if_neg c1, if_neg c1]
    by_cases c2 : nI x = nI y
    · rw [if_pos c2, if_pos c2, e_Mo_gets_23]
    · rw [if_neg c2, if_neg c2, e_Mo_gets_23]
theorem z9 {i : Nat} (hi : i < 10) : ¬ (9 : Int32) < nI i := fun z => absurd ((q_lt (a := 9) (by omega) (by omega)).mp z) (by omega)
theorem c_isBest (d : Nat) {x y v : Nat} : ev_do (d + 2) M_SL_isBest [.int (nI x), .int (nI y), .int (nI v)] (ev_mk h J L) = ev_ri (fl (bs v x y)) (ev_mk h J L) := by
  rw [e_SL_isBest_0, c_gainOf, k_I, k_1, k_2, k_3]
  refine lpE (F := fun i (_ : Unit) => ev_at (d + 1) M_SL_isBest 10 [.float 0, .int (nI y), .int (nI v), .int (gn x y v), .int (nI i)] [] (ev_mk h J L)) (fun i _ => ∀ k, k < i → ¬ gn x y v < gn k y v) (fun o => o = ev_ri (fl (bs v x y)) (ev_mk h J L)) 10 ?_ ?_ 0 (by omega) () (fun k hk => by omega)
  · intro i _ hi hs
    rw [e_SL_isBest_10, if_neg (z9 hi), c_gainOf, k_I, k_1, k_2, k_3, show nI i + 1 = nI (i + 1) from q_add i 1]
    by_cases c : gn x y v < gn i y v
    · refine Or.inr ?_
      rw [if_pos c, show bs v x y = false from (Bool.not_eq_true _).mp (fun z => bs_iff.mp z i hi c)]
      rfl
    · refine Or.inl ⟨(), by rw [if_neg c], fun k hk => ?_⟩
      by_cases e : k = i
      · rw [e]; exact c
      · exact hs k (by omega)
  · intro _ hs
    rw [e_SL_isBest_10, if_pos (by decide), show bs v x y = true from bs_iff.mpr hs]
    rfl
theorem c_isRest (d : Nat) {x y v : Nat} (hx : x < 10) (hy : y < 10) (hv : v < 21) : ev_do (d + 2) M_Mo_isRest [.int (nI x), .int (nI y), .int (nI v)] (ev_mk h J L) = ev_ri (fl (bs v x y)) (ev_mk h J L) := by
  rw [e_Mo_isRest_0]
  refine lpE (F := fun i (z : Bool) => ev_at (d + 1) M_Mo_isRest 5 [.int (nI x), .int (nI y), .int (nI v), .int (fl z), .int (nI i)] [] (ev_mk h J L)) (fun i z => (z = true → ∀ k, k < i → ¬ gn x y v < gn k y v) ∧ (z = false → bs v x y = false)) (fun o => o = ev_ri (fl (bs v x y)) (ev_mk h J L)) 10 ?_ ?_ 0 (by omega) true ⟨fun _ k hk => by omega, fun z => by cases z⟩
  · intro i z hi ⟨q1, q2⟩
    refine Or.inl ?_
    rw [e_Mo_isRest_5, if_neg (z9 hi), show nI i + 1 = nI (i + 1) from q_add i 1]
    cases z with
    | false => exact ⟨false, by rw [if_pos (show fl false = 0 from rfl)]; rfl, fun z => (by cases z), q2⟩
    | true =>
      rw [if_neg (show ¬ fl true = 0 by decide), c_gets d hi hy hv, k_I, k_1, k_2, k_3, c_gets d hx hy hv, k_I, k_1, k_2, k_3]
      by_cases c : gn x y v < gn i y v
      · exact ⟨false, by rw [if_pos c]; rfl, fun z => (by cases z), fun _ => (Bool.not_eq_true _).mp (fun z => bs_iff.mp z i hi c)⟩
      · refine ⟨true, by rw [if_neg c]; rfl, fun _ k hk => ?_, fun z => by cases z⟩
        by_cases e : k = i
        · rw [e]; exact c
        · exact q1 rfl k (by omega)
  · intro z ⟨q1, q2⟩
    have : z = bs v x y := by
      cases z with
      | true => exact (bs_iff.mpr (q1 rfl)).symm
      | false => exact (q2 rfl).symm
    rw [e_Mo_isRest_5, if_pos (by decide), if_pos (fl_fit z), this]
theorem op_rests {x : Int32} (hi : inv I L) : okI h d M_SL_rests M_Mo_rests [.int x] I L := by
  refine ok_q (fun A hw => ?_) hi
  cases hx : blw x 21 with
  | false =>
    refine no_q (v := -1) hw (fun I L hi => ?_) (fun I L hi => ?_)
    · rw [e_SL_rests_0, show (20 : Int32) = nI 20 from rfl, r_two (by omega), hx, if_neg (by decide)]
    · rw [e_Mo_rests_0, c_in20, k_I, k_1, k_2, k_3, hx, if_pos (show fl false = 0 from rfl)]
  | true =>
    obtain ⟨v, hv, rfl⟩ := (blw_iff (by omega)).mp hx
    have hct := fun i => fb_ct_le (rP v) i
    refine ⟨nI (fb_ct (rP v) 100), rwR (fwh (rP v) 100), by have := rwR_len (fwh (rP v) 100); omega, fun I L hi => ?_, fun I L hi => ?_⟩
    · rw [e_SL_rests_0, show (20 : Int32) = nI 20 from rfl, r_two (by omega), hx, if_pos rfl]
      refine lpX (F := fun i (p : sIL) => ev_at (d + 99) M_SL_rests 24 [.ref 0, .int (nI v), .int (nI (fb_ct (rP v) (10 * i))), .int (nI i), .float 0] [] (ev_mk h p.1 p.2)) (fun i p => frC I p.1 ∧ rwC p.1 p.2 (rwR (fwh (rP v) (10 * i))) ∧ p.2 140 = L 140) 10 ?_ ?_ 0 (by omega) (ev_up I 3 1 0, L) ⟨frC.rf.t1 _, rwC.nil, rfl⟩
      · intro i p hi' ⟨p1, p2, p3⟩
        have inn : ∃ q : sIL, ev_at (d + 99) M_SL_rests 33 [.ref 0, .int (nI v), .int (nI (fb_ct (rP v) (10 * i + 0))), .int (nI i), .int (nI 0)] [] (ev_mk h p.1 p.2) = ev_at (d + 99) M_SL_rests 24 [.ref 0, .int (nI v), .int (nI (fb_ct (rP v) (10 * (i + 1)))), .int (nI (i + 1)), .float 0] [] (ev_mk h q.1 q.2) ∧ frC I q.1 ∧ rwC q.1 q.2 (rwR (fwh (rP v) (10 * (i + 1)))) ∧ q.2 140 = L 140 := by
          refine lpX (F := fun j (q : sIL) => ev_at (d + 99) M_SL_rests 33 [.ref 0, .int (nI v), .int (nI (fb_ct (rP v) (10 * i + j))), .int (nI i), .int (nI j)] [] (ev_mk h q.1 q.2)) (fun j q => frC I q.1 ∧ rwC q.1 q.2 (rwR (fwh (rP v) (10 * i + j))) ∧ q.2 140 = L 140) 10 ?_ ?_ 0 (by omega) p ⟨p1, p2, p3⟩
          · intro j q hj ⟨q1, q2, q3⟩
            have hcj := hct (10 * i + j)
            have eP : rP v (10 * i + j) = (bs v i j && bs v j i) := by
              unfold rP
              rw [show (10 * i + j) / 10 = i by omega, show (10 * i + j) % 10 = j by omega]
            have eS : fb_ct (rP v) (10 * i + (j + 1)) = fb_ct (rP v) (10 * i + j) + if bs v i j && bs v j i then 1 else 0 := by rw [← eP]; exact fb_ct_succ _ _
            have eW : fwh (rP v) (10 * i + (j + 1)) = match fwh (rP v) (10 * i + j) with
                | some k => some k
                | none => if bs v i j && bs v j i then some (10 * i + j + 1) else none := by rw [← eP]; exact fwh_s
            rw [eS, eW, e_SL_rests_33, if_neg (z9 hj), c_isBest, k_I, k_1, k_2, k_3, show nI j + 1 = nI (j + 1) from q_add j 1]
            have same : (bs v i j && bs v j i) = false → (match fwh (rP v) (10 * i + j) with | some k => some k | none => if bs v i j && bs v j i then some (10 * i + j + 1) else none) = fwh (rP v) (10 * i + j) := fun hz => by
              rw [hz]
              cases fwh (rP v) (10 * i + j) <;> rfl
            cases hb1 : bs v i j with
            | false =>
              refine Or.inl ⟨q, by rw [if_pos (show fl false = 0 from rfl), Bool.false_and, if_neg (by decide)]; rfl, q1, ?_, q3⟩
              rw [← hb1, same (by rw [hb1]; rfl)]; exact q2
            | true =>
              rw [if_neg (show ¬ fl true = 0 by decide), c_isBest, k_I, k_1, k_2, k_3, Bool.true_and]
              cases hb2 : bs v j i with
              | false =>
                refine Or.inl ⟨q, by rw [if_pos (show fl false = 0 from rfl), if_neg (by decide)]; rfl, q1, ?_, q3⟩
                rw [hb1, hb2] at same
                have same' := same rfl
                rw [Bool.true_and] at same'
                rw [same']; exact q2
              | true =>
                rw [if_neg (show ¬ fl true = 0 by decide), if_pos rfl, show nI (fb_ct (rP v) (10 * i + j)) + 1 = nI (fb_ct (rP v) (10 * i + j) + 1) from q_add _ 1]
                cases hf : fwh (rP v) (10 * i + j) with
                | none =>
                  obtain ⟨K2, L2, e2, x2, l2, r2⟩ := t_two (h := h) (I := q.1) (L := q.2) (x := (nI i).toInt64) (y := (nI j).toInt64) (d + 97)
                  refine Or.inl ⟨(K2, L2), ?_, q1.x x2 (by simp [scC]), ?_, (l2 140 (by omega)).trans q3⟩
                  · rw [if_pos (by rw [(fwh_ct _).mp hf]; rfl), e2, k_V, k_1, k_2, k_3]
                  · show rwC K2 L2 (snoc (snoc nil0 (nI ((10 * i + j + 1 - 1) / 10)).toInt64) (nI ((10 * i + j + 1 - 1) % 10)).toInt64)
                    rw [show (10 * i + j + 1 - 1) / 10 = i by omega, show (10 * i + j + 1 - 1) % 10 = j by omega]
                    exact r2
                | some k =>
                  have hne : fb_ct (rP v) (10 * i + j) ≠ 0 := fun z => by rw [(fwh_ct _).mpr z] at hf; cases hf
                  rw [hf] at q2
                  exact Or.inl ⟨q, by rw [if_neg (show ¬ nI (fb_ct (rP v) (10 * i + j)) = 0 from fun z => hne ((q_eq (b := 0) (by omega) (by omega)).mp z))], q1, q2, q3⟩
          · intro q ⟨q1, q2, q3⟩
            refine ⟨q, ?_, q1, by rw [show 10 * (i + 1) = 10 * i + 10 by omega]; exact q2, q3⟩
            rw [e_SL_rests_33, if_pos (by decide), show nI i + 1 = nI (i + 1) from q_add i 1, show 10 * (i + 1) = 10 * i + 10 by omega]
        obtain ⟨q, g1, g2⟩ := inn
        refine Or.inl ⟨q, ?_, g2⟩
        rw [e_SL_rests_24, if_neg (z9 hi')]
        exact g1
      · intro p ⟨p1, p2, p3⟩
        refine ⟨p, ?_, p1, p2, p3⟩
        rw [e_SL_rests_24, if_pos (by decide)]
    · rw [e_Mo_rests_0, c_in20, k_I, k_1, k_2, k_3, hx, if_neg (show ¬ fl true = 0 by decide)]
      refine lpX (F := fun i (p : sIL) => ev_at (d + 99) M_Mo_rests 28 [.ref 139, .int (nI v), .int (nI (fb_ct (rP v) (10 * i))), .int (nI i), .float 0] [] (ev_mk h p.1 p.2)) (fun i p => frM I p.1 ∧ rwM p.1 p.2 (rwR (fwh (rP v) (10 * i))) ∧ p.2 4 = L 4) 10 ?_ ?_ 0 (by omega) (ev_up (ev_up I 139 0 0) 139 1 0, L) ⟨frM.t0.t1 _, rwM.nil, rfl⟩
      · intro i p hi' ⟨p1, p2, p3⟩
        have inn : ∃ q : sIL, ev_at (d + 99) M_Mo_rests 37 [.ref 139, .int (nI v), .int (nI (fb_ct (rP v) (10 * i + 0))), .int (nI i), .int (nI 0)] [] (ev_mk h p.1 p.2) = ev_at (d + 99) M_Mo_rests 28 [.ref 139, .int (nI v), .int (nI (fb_ct (rP v) (10 * (i + 1)))), .int (nI (i + 1)), .float 0] [] (ev_mk h q.1 q.2) ∧ frM I q.1 ∧ rwM q.1 q.2 (rwR (fwh (rP v) (10 * (i + 1)))) ∧ q.2 4 = L 4 := by
          refine lpX (F := fun j (q : sIL) => ev_at (d + 99) M_Mo_rests 37 [.ref 139, .int (nI v), .int (nI (fb_ct (rP v) (10 * i + j))), .int (nI i), .int (nI j)] [] (ev_mk h q.1 q.2)) (fun j q => frM I q.1 ∧ rwM q.1 q.2 (rwR (fwh (rP v) (10 * i + j))) ∧ q.2 4 = L 4) 10 ?_ ?_ 0 (by omega) p ⟨p1, p2, p3⟩
          · intro j q hj ⟨q1, q2, q3⟩
            have hcj := hct (10 * i + j)
            have eP : rP v (10 * i + j) = (bs v i j && bs v j i) := by
              unfold rP
              rw [show (10 * i + j) / 10 = i by omega, show (10 * i + j) % 10 = j by omega]
            have eS : fb_ct (rP v) (10 * i + (j + 1)) = fb_ct (rP v) (10 * i + j) + if bs v i j && bs v j i then 1 else 0 := by rw [← eP]; exact fb_ct_succ _ _
            have eW : fwh (rP v) (10 * i + (j + 1)) = match fwh (rP v) (10 * i + j) with
                | some k => some k
                | none => if bs v i j && bs v j i then some (10 * i + j + 1) else none := by rw [← eP]; exact fwh_s
            rw [eS, eW, e_Mo_rests_37, if_neg (z9 hj), c_isRest (d + 97) hi' hj hv, k_I, k_1, k_2, k_3, show nI j + 1 = nI (j + 1) from q_add j 1]
            have same : (bs v i j && bs v j i) = false → (match fwh (rP v) (10 * i + j) with | some k => some k | none => if bs v i j && bs v j i then some (10 * i + j + 1) else none) = fwh (rP v) (10 * i + j) := fun hz => by
              rw [hz]
              cases fwh (rP v) (10 * i + j) <;> rfl
            cases hb1 : bs v i j with
            | false =>
              refine Or.inl ⟨q, by rw [if_pos (show fl false = 0 from rfl), Bool.false_and, if_neg (by decide)]; rfl, q1, ?_, q3⟩
              rw [← hb1, same (by rw [hb1]; rfl)]; exact q2
            | true =>
              rw [if_neg (show ¬ fl true = 0 by decide), c_isRest (d + 97) hj hi' hv, k_I, k_1, k_2, k_3, Bool.true_and]
              cases hb2 : bs v j i with
              | false =>
                refine Or.inl ⟨q, by rw [if_pos (show fl false = 0 from rfl), if_neg (by decide)]; rfl, q1, ?_, q3⟩
                rw [hb1, hb2] at same
                have same' := same rfl
                rw [Bool.true_and] at same'
                rw [same']; exact q2
              | true =>
                rw [if_neg (show ¬ fl true = 0 by decide), if_pos rfl, show nI (fb_ct (rP v) (10 * i + j)) + 1 = nI (fb_ct (rP v) (10 * i + j) + 1) from q_add _ 1]
                cases hf : fwh (rP v) (10 * i + j) with
                | none =>
                  rw [hf] at q2
                  obtain ⟨K2, L2, e2, x2, n2, l2, r2⟩ := t_enters (h := h) (x := (nI i).toInt64) (d + 98) q2 (show 0 < 24 by decide)
                  obtain ⟨K3, L3, e3, x3, n3, l3, r3⟩ := t_enters (h := h) (x := (nI j).toInt64) (d + 98) r2 (show 1 < 24 by decide)
                  refine Or.inl ⟨(K3, L3), ?_, (q1.e x2 n2).e x3 n3, ?_, ((l3 4 (by omega)).trans (l2 4 (by omega))).trans q3⟩
                  · rw [if_pos (by rw [(fwh_ct _).mp hf]; rfl), e2, k_V, k_1, k_2, k_3, e3, k_V, k_1, k_2, k_3]
                  · show rwM K3 L3 (snoc (snoc nil0 (nI ((10 * i + j + 1 - 1) / 10)).toInt64) (nI ((10 * i + j + 1 - 1) % 10)).toInt64)
                    rw [show (10 * i + j + 1 - 1) / 10 = i by omega, show (10 * i + j + 1 - 1) % 10 = j by omega]
                    exact r3
                | some k =>
                  have hne : fb_ct (rP v) (10 * i + j) ≠ 0 := fun z => by rw [(fwh_ct _).mpr z] at hf; cases hf
                  rw [hf] at q2
                  exact Or.inl ⟨q, by rw [if_neg (show ¬ nI (fb_ct (rP v) (10 * i + j)) = 0 from fun z => hne ((q_eq (b := 0) (by omega) (by omega)).mp z))], q1, q2, q3⟩
          · intro q ⟨q1, q2, q3⟩
            refine ⟨q, ?_, q1, by rw [show 10 * (i + 1) = 10 * i + 10 by omega]; exact q2, q3⟩
            rw [e_Mo_rests_37, if_pos (by decide), show nI i + 1 = nI (i + 1) from q_add i 1, show 10 * (i + 1) = 10 * i + 10 by omega]
        obtain ⟨q, g1, g2⟩ := inn
        refine Or.inl ⟨q, ?_, g2⟩
        rw [e_Mo_rests_28, if_neg (z9 hi')]
        exact g1
      · intro p ⟨p1, p2, p3⟩
        refine ⟨p, ?_, p1, p2, p3⟩
        rw [e_Mo_rests_28, if_pos (by decide)]
end OV
