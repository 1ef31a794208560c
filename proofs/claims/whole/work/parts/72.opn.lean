/-! Calls: fits, next. -/
theorem fl_inj {a b : Bool} (h : fl a = fl b) : a = b := by cases a <;> cases b <;> first | rfl | exact absurd h (by decide)
section ON2
variable {h : Bool × Nat × Nat} {d : Nat} {I J : Nat → Nat → Int32} {L : Nat → Nat → Int64} {A : aP}
/-- all is as it was noticed -/
def agr (A : aP) (st : Nat) : Bool := decide (∀ i, i < (aNt A).1 → on A ((aNt A).2.1 i) ((aNt A).2.2.1 i) st = (aNt A).2.2.2 i)
def fitS (A : aP) (st : Nat) : Bool := sub st (unL A) && agr A st
theorem xAg (d : Nat) (hw : wfA A) (hi : invC I L A) (f : frC I J) (st : Nat) {L' : Nat → Nat → Int64} : ∃ K, ev_do (d + 5) M_SL_agrees [.ref 0, .int (nI st)] (ev_mk h J L') = ev_ri (fl (agr A st)) (ev_mk h K L') ∧ frC I K ∧ exc [133] J K := by
  have hW := hw.2.2.1.1
  have hn12 := hw.2.2.2.2.2.2.2.1
  obtain ⟨K, e1, f1, x1, c1⟩ := xSp (h := h) (L' := L') d hw hi f st
  refine ⟨K, ?_, f1, x1⟩
  have hN := hi.nn f1
  have ea : ev_do (d + 4) M_Notices_agreeWith [.ref 129, .ref 133] (ev_mk h K L') = ev_ri (fl (agr A st)) (ev_mk h K L') := by
    rw [e_Notices_agreeWith_0]
    refine lpE (F := fun i (_ : Unit) => ev_at (d + 3) M_Notices_agreeWith 2 [.ref 129, .ref 133, .int (nI i)] [] (ev_mk h K L')) (fun i _ => ∀ k, k < i → on A ((aNt A).2.1 k) ((aNt A).2.2.1 k) st = (aNt A).2.2.2 k) (fun o => o = ev_ri (fl (agr A st)) (ev_mk h K L')) (aNt A).1 ?_ ?_ 0 (by omega) () (fun k z => absurd z (by omega))
    · intro i _ hi' hs
      obtain ⟨n1, n2, n3⟩ := hN.2 i hi'
      obtain ⟨w1, w2, _⟩ := hw.2.2.2.2.2.2.2.2 i hi'
      have e34 : ∀ z : Bool, on A ((aNt A).2.1 i) ((aNt A).2.2.1 i) st = z → ((∃ s' : Unit, ev_at (d + 3) M_Notices_agreeWith 34 [.ref 129, .ref 133, .int (nI i)] [.int (fl z)] (ev_mk h K L') = ev_at (d + 3) M_Notices_agreeWith 2 [.ref 129, .ref 133, .int (nI (i + 1))] [] (ev_mk h K L') ∧ ∀ k, k < i + 1 → on A ((aNt A).2.1 k) ((aNt A).2.2.1 k) st = (aNt A).2.2.2 k) ∨ ev_at (d + 3) M_Notices_agreeWith 34 [.ref 129, .ref 133, .int (nI i)] [.int (fl z)] (ev_mk h K L') = ev_ri (fl (agr A st)) (ev_mk h K L')) := by
        intro z hz
        rw [e_Notices_agreeWith_34, q_in (by omega), if_pos (by simp <;> omega), q_cl (by omega), n3, show nI i + 1 = nI (i + 1) from q_add i 1]
        by_cases e : z = (aNt A).2.2.2 i
        · refine Or.inl ⟨(), by rw [if_pos (by rw [e])], fun k hk => ?_⟩
          by_cases e2 : k = i
          · rw [e2, hz]; exact e
          · exact hs k (by omega)
        · refine Or.inr ?_
          rw [if_neg (fun y => e (fl_inj y)), show agr A st = false from decide_eq_false (fun y => e (by rw [← y i hi', hz]))]
          rfl
      rw [e_Notices_agreeWith_2, hN.1, if_pos ((q_lt (by omega) (by omega)).mpr hi'), show ev_in (nI i) 12 = true from z_in (by omega) (by omega)]
      simp only [↓reduceIte]
      rw [q_cl (by omega), n1, n2, show ev_in (nI ((aNt A).2.1 i)) 8 = true from z_in (by omega) (by omega), show ev_in (nI ((aNt A).2.2.1 i)) 8 = true from z_in (by omega) (by omega)]
      simp only [↓reduceIte]
      rw [q_cl (by omega), q_cl (by omega), c1 _ w1, c1 _ w2]
      cases ho : on A ((aNt A).2.1 i) ((aNt A).2.2.1 i) st with
      | true => rw [if_pos ((cod_on hw w1 w2 st).mpr ho)]; exact e34 true ho
      | false => rw [if_neg (fun z => by rw [(cod_on hw w1 w2 st).mp z] at ho; cases ho)]; exact e34 false ho
    · intro _ hs
      rw [e_Notices_agreeWith_2, hN.1, if_neg (fun z => absurd ((q_lt (by omega) (by omega)).mp z) (by omega)), show agr A st = true from decide_eq_true hs]
      rfl
  rw [e_SL_agrees_0, e1, k_V, k_1, k_2, k_3, ea, k_I, k_1, k_2, k_3, if_pos (fl_fit _)]
theorem xAn (d : Nat) (hw : wfA A) (hi : invM I L A) (f : frM I J) {st : Nat} (hst : st < 256) {L' : Nat → Nat → Int64} : ∃ K, ev_do (d + 4) M_Mo_isAsNoticed [.ref 139, .int (nI st)] (ev_mk h J L') = ev_ri (fl (fitS A st)) (ev_mk h K L') ∧ frM I K ∧ exc [153, 154] J K := by
  have hW := hw.2.2.1.1
  have hn12 := hw.2.2.2.2.2.2.2.1
  have lp : ∀ z : Bool, z = sub st (unL A) → ∃ K, ev_at (d + 3) M_Mo_isAsNoticed 23 [.ref 139, .int (nI st), .int (fl z), .int (nI 0)] [] (ev_mk h J L') = ev_ri (fl (fitS A st)) (ev_mk h K L') ∧ frM I K ∧ exc [153, 154] J K := by
    intro z0 hz0
    refine lpX (σ := (Nat → Nat → Int32) × Bool) (F := fun i p => ev_at (d + 3) M_Mo_isAsNoticed 23 [.ref 139, .int (nI st), .int (fl p.2), .int (nI i)] [] (ev_mk h p.1 L')) (fun i p => (frM I p.1 ∧ exc [153, 154] J p.1) ∧ (p.2 = true → sub st (unL A) = true ∧ ∀ k, k < i → on A ((aNt A).2.1 k) ((aNt A).2.2.1 k) st = (aNt A).2.2.2 k) ∧ (p.2 = false → fitS A st = false)) (aNt A).1 ?_ ?_ 0 (by omega) (J, z0) ⟨⟨f, exc.rf⟩, fun z => ⟨by rw [← hz0]; exact z, fun k y => absurd y (by omega)⟩, fun z => by unfold fitS; rw [← hz0, show z0 = false from z]; rfl⟩
    · intro i p hi' ⟨p1, p2, p3⟩
      have hN := hi.nn p1.1
      obtain ⟨n1, n2, n3⟩ := hN.2 i hi'
      obtain ⟨w1, w2, _⟩ := hw.2.2.2.2.2.2.2.2 i hi'
      rw [e_Mo_isAsNoticed_23, hN.1, if_pos ((q_lt (by omega) (by omega)).mpr hi'), show nI i + 1 = nI (i + 1) from q_add i 1]
      cases hz : p.2 with
      | false => exact Or.inl ⟨(p.1, false), by rw [if_pos (show fl false = 0 from rfl)]; rfl, p1, fun z => (by cases z), fun _ => p3 hz⟩
      | true =>
        obtain ⟨K, g1, g2, g3⟩ := xOne (h := h) (L' := L') d hw hi p1.1 w1 w2 st
        have k3 : K 164 i = fl ((aNt A).2.2.2 i) := by rw [g3 164 (by simp)]; exact n3
        refine Or.inl ⟨(K, decide (on A ((aNt A).2.1 i) ((aNt A).2.2.1 i) st = (aNt A).2.2.2 i)), ?_, ⟨g2, p1.2.tr g3⟩, fun z => ⟨(p2 hz).1, fun k hk => ?_⟩, fun z => ?_⟩
        · rw [if_neg (show ¬ fl true = 0 by decide), show ev_in (nI i) 12 = true from z_in (by omega) (by omega)]
          simp only [↓reduceIte]
          rw [q_cl (by omega), n1, n2, g1, k_I, k_1, k_2, k_3, c_Mo_flag (d + 2), k_I, k_1, k_2, k_3, k3]
          by_cases e : on A ((aNt A).2.1 i) ((aNt A).2.2.1 i) st = (aNt A).2.2.2 i
          · rw [if_pos (by rw [e]), decide_eq_true e]; rfl
          · rw [if_neg (fun y => e (fl_inj y)), decide_eq_false e]; rfl
        · by_cases e2 : k = i
          · rw [e2]; exact of_decide_eq_true z
          · exact (p2 hz).2 k (by omega)
        · have z' := of_decide_eq_false z
          unfold fitS
          rw [show agr A st = false from decide_eq_false (fun y => z' (y i hi')), Bool.and_false]
    · intro p ⟨p1, p2, p3⟩
      refine ⟨p.1, ?_, p1⟩
      have : p.2 = fitS A st := by
        cases hz : p.2 with
        | true =>
          unfold fitS
          rw [(p2 hz).1, show agr A st = true from decide_eq_true (p2 hz).2]; rfl
        | false => exact (p3 hz).symm
      rw [e_Mo_isAsNoticed_23, (hi.nn p1.1).1, if_neg (fun z => absurd ((q_lt (by omega) (by omega)).mp z) (by omega)), this, if_pos (fl_fit _)]
  rw [e_Mo_isAsNoticed_0, xUm d hw hi f, k_I, k_1, k_2, k_3]
  cases hs : sub st (unL A) with
  | true => rw [if_pos ((z_sub hst).mpr hs)]; exact lp true hs.symm
  | false => rw [if_neg (fun z => by rw [(z_sub hst).mp z] at hs; cases hs)]; exact lp false hs.symm
/-- letters in all such sets -/
def inA (S : Nat → Bool) : Nat → Nat
  | 0 => 255
  | k + 1 => if S k then inA S k &&& k else inA S k
theorem bF_ct {S : Nat → Bool} : ∀ k, bF S k = none ↔ fb_ct S k = 0
  | 0 => ⟨fun _ => rfl, fun _ => rfl⟩
  | k + 1 => by
    have ih := bF_ct (S := S) k
    rw [bF, fb_ct_succ]
    cases hs : S k with
    | false =>
      rw [Bool.and_false, if_neg (by decide)]
      simpa using ih
    | true =>
      rw [Bool.and_true]
      constructor
      · intro z
        split at z
        · cases z
        · rename_i hf
          rw [z] at hf
          exact absurd rfl hf
      · intro z
        simp at z
theorem op_fits (hi : inv I L) : okI h d M_SL_fits M_Mo_fits [] I L := by
  refine ok_q (fun A hw => ?_) hi
  have hW := hw.2.2.1.1
  obtain ⟨S, hS⟩ : ∃ S : Nat → Bool, S = fitS A := ⟨_, rfl⟩
  have hct := fb_ct_le S 256
  have lC : ∀ (I : Nat → Nat → Int32) (L : Nat → Nat → Int64), invC I L A → ∃ K, ev_do (d + 100) M_SL_fits (.ref 0 :: []) (ev_mk h I L) = ev_at (d + 99) M_SL_fits 26 [.ref 0, .int (nI (unL A)), .int (nI (fb_ct S 256)), .int (nI ((bF S 256).getD 255)), .int (nI (inA S 256)), .int (nI 256)] [] (ev_mk h K L) ∧ frC I K := by
    intro I L hi
    rw [e_SL_fits_0, xUl (d + 97) hw hi frC.rf, k_I, k_1, k_2, k_3]
    refine lpX (F := fun i J => ev_at (d + 99) M_SL_fits 26 [.ref 0, .int (nI (unL A)), .int (nI (fb_ct S i)), .int (nI ((bF S i).getD 255)), .int (nI (inA S i)), .int (nI i)] [] (ev_mk h J L)) (fun i J => frC I J) 256 ?_ (fun J p1 => ⟨J, rfl, p1⟩) 0 (by omega) I frC.rf
    intro i J hi' p1
    have hci := fb_ct_le S i
    rw [e_SL_fits_26, if_pos (show nI i < (256 : Int32) from (q_lt (b := 256) (by omega) (by omega)).mpr hi'), show nI i + 1 = nI (i + 1) from q_add i 1, fb_ct_succ, bF, inA]
    have eSi : S i = (sub i (unL A) && agr A i) := by rw [hS]; rfl
    cases hs : sub i (unL A) with
    | false =>
      rw [hs, Bool.false_and] at eSi
      refine Or.inl ⟨J, ?_, p1⟩
      rw [if_neg (fun z => by rw [(z_sub hi').mp z] at hs; cases hs), eSi, Bool.and_false, if_neg (by decide), if_neg (by decide), if_neg (by decide)]; rfl
    | true =>
      rw [hs, Bool.true_and] at eSi
      obtain ⟨K, g1, g2, g3⟩ := xAg (h := h) (L' := L) (d + 94) hw hi p1 i
      refine Or.inl ⟨K, ?_, g2⟩
      rw [if_pos ((z_sub hi').mpr hs), g1, k_I, k_1, k_2, k_3, eSi]
      cases agr A i with
      | false => rw [if_pos (show fl false = 0 from rfl), Bool.and_false, if_neg (by decide), if_neg (by decide), if_neg (by decide)]; rfl
      | true =>
        rw [if_neg (show ¬ fl true = 0 by decide), Bool.and_true, if_pos (c := true = true) rfl, if_pos (c := true = true) rfl]
        have e74 : ∀ q, ev_at (d + 99) M_SL_fits 74 [.ref 0, .int (nI (unL A)), .int (nI (fb_ct S i)), .int (nI q), .int (nI (inA S i)), .int (nI i)] [] (ev_mk h K L) = ev_at (d + 99) M_SL_fits 26 [.ref 0, .int (nI (unL A)), .int (nI (fb_ct S i + 1)), .int (nI q), .int (nI (inA S i &&& i)), .int (nI (i + 1))] [] (ev_mk h K L) := by
          intro q
          rw [e_SL_fits_74, fa_and, show nI i + 1 = nI (i + 1) from q_add i 1, show nI (fb_ct S i) + 1 = nI (fb_ct S i + 1) from q_add _ 1]
        cases hb0 : bF S i with
        | none =>
          rw [if_pos (show nI (fb_ct S i) = 0 by rw [(bF_ct i).mp hb0]; rfl), e74]
          rfl
        | some q =>
          have hq := bF_o (P := S) (show i ≤ 256 by omega) q hb0
          have h1 := pcn_le i
          have h2 := pcn_le q
          have hne : fb_ct S i ≠ 0 := fun z => by rw [(bF_ct i).mpr z] at hb0; cases hb0
          rw [if_neg (show ¬ nI (fb_ct S i) = 0 from fun z => hne ((q_eq (b := 0) (by omega) (by omega)).mp z)), c_bitCount (d + 98) hi', k_I, k_1, k_2, k_3, show (some q).getD 255 = q from rfl, c_bitCount (d + 98) hq, k_I, k_1, k_2, k_3, e74, e74]
          unfold fw
          by_cases e : pcn i < pcn q
          · rw [if_pos ((q_lt (by omega) (by omega)).mpr e)]; simp only [e, decide_true, if_true]; rfl
          · rw [if_neg (fun z => e ((q_lt (by omega) (by omega)).mp z))]; simp only [e, decide_false, Bool.false_eq_true, if_false]; rfl
  have lM : ∀ (I : Nat → Nat → Int32) (L : Nat → Nat → Int64), invM I L A → ∃ K, ev_do (d + 100) M_Mo_fits (.ref 139 :: []) (ev_mk h I L) = ev_at (d + 99) M_Mo_fits 16 [.ref 139, .int (nI (fb_ct S 256)), .int (enc (bF S 256)), .int (nI (inA S 256)), .int (nI 256)] [] (ev_mk h K L) ∧ frM I K := by
    intro I L hi
    rw [e_Mo_fits_0]
    refine lpX (F := fun i J => ev_at (d + 99) M_Mo_fits 16 [.ref 139, .int (nI (fb_ct S i)), .int (enc (bF S i)), .int (nI (inA S i)), .int (nI i)] [] (ev_mk h J L)) (fun i J => frM I J) 256 ?_ (fun J p1 => ⟨J, rfl, p1⟩) 0 (by omega) _ frM.t0
    intro i J hi' p1
    have ho := bF_o (P := S) (show i ≤ 256 by omega)
    obtain ⟨K, g1, g2, g3⟩ := xAn (h := h) (L' := L) (d + 95) hw hi p1 hi'
    refine Or.inl ⟨K, ?_, g2⟩
    rw [e_Mo_fits_16, if_pos (show nI i < (256 : Int32) from (q_lt (b := 256) (by omega) (by omega)).mpr hi'), show nI i + 1 = nI (i + 1) from q_add i 1, g1, k_I, k_1, k_2, k_3, fb_ct_succ, bF, inA, ← hS]
    cases S i with
    | false => rw [if_pos (show fl false = 0 from rfl), Bool.and_false, if_neg (by decide), if_neg (by decide), if_neg (by decide)]; rfl
    | true =>
      rw [if_neg (show ¬ fl true = 0 by decide), c_isFewer (d + 97) hi' ho, k_I, k_1, k_2, k_3, Bool.and_true, if_pos (c := true = true) rfl, if_pos (c := true = true) rfl, show nI (fb_ct S i) + 1 = nI (fb_ct S i + 1) from q_add _ 1]
      cases fw (bF S i) i with
      | true => rw [if_neg (show ¬ fl true = 0 by decide), if_pos rfl, e_Mo_fits_51, fa_and, show nI i + 1 = nI (i + 1) from q_add i 1]; rfl
      | false => rw [if_pos (show fl false = 0 from rfl), if_neg (by decide), e_Mo_fits_51, fa_and, show nI i + 1 = nI (i + 1) from q_add i 1]
  cases hb0 : bF S 256 with
  | none =>
    rw [hb0, (bF_ct 256).mp hb0] at lC lM
    refine ⟨0, nil0, show 0 ≤ 9 by decide, fun I L hi => ?_, fun I L hi => ?_⟩
    · obtain ⟨K, e, f⟩ := lC I L hi
      refine ⟨(ev_up K 3 1 0, L), ?_, f.t1 _, rwC.nil, rfl⟩
      rw [e, e_SL_fits_26, if_neg (by decide), if_neg (by decide)]
      rfl
    · obtain ⟨K, e, f⟩ := lM I L hi
      refine ⟨(ev_up K 139 1 0, L), ?_, f.t1 _, rwM.nil, rfl⟩
      rw [e, e_Mo_fits_16, if_neg (by decide), if_neg (by decide)]
      rfl
  | some q =>
    have hne : fb_ct S 256 ≠ 0 := fun z => by rw [(bF_ct 256).mpr z] at hb0; cases hb0
    rw [hb0] at lC lM
    refine ⟨nI (fb_ct S 256), snoc (snoc nil0 (nI q).toInt64) (nI (inA S 256)).toInt64, show 2 ≤ 9 by decide, fun I L hi => ?_, fun I L hi => ?_⟩
    · obtain ⟨K, e, f⟩ := lC I L hi
      obtain ⟨K2, L2, e2, x2, l2, r2⟩ := t_two (h := h) (I := ev_up K 3 1 0) (L := L) (x := (nI q).toInt64) (y := (nI (inA S 256)).toInt64) (d + 97)
      refine ⟨(K2, L2), ?_, (f.t1 _).x x2 (by simp [scC]), r2, l2 140 (by omega)⟩
      rw [e, e_SL_fits_26, if_neg (by decide), if_pos (show (0 : Int32) < nI (fb_ct S 256) from (q_lt (a := 0) (by omega) (by omega)).mpr (by omega)), show (some q).getD 255 = q from rfl, e2, k_V, k_1, k_2, k_3]
    · obtain ⟨K, e, f⟩ := lM I L hi
      obtain ⟨K2, L2, e2, x2, n2, l2, r2⟩ := t_enters (h := h) (x := (nI q).toInt64) (d + 98) (rwM.nil (I := K) (L := L)) (show 0 < 24 by decide)
      obtain ⟨K3, L3, e3, x3, n3, l3, r3⟩ := t_enters (h := h) (x := (nI (inA S 256)).toInt64) (d + 98) r2 (show 1 < 24 by decide)
      refine ⟨(K3, L3), ?_, ((f.t1 _).e x2 n2).e x3 n3, r3, (l3 4 (by omega)).trans (l2 4 (by omega))⟩
      rw [e, e_Mo_fits_16, if_neg (by decide), if_pos (show (0 : Int32) < nI (fb_ct S 256) from (q_lt (a := 0) (by omega) (by omega)).mpr (by omega)), show enc (some q) = nI q from rfl, e2, k_V, k_1, k_2, k_3, e3, k_V, k_1, k_2, k_3]
end ON2
