/-! Calls: must, most. -/
theorem z_two {n i j : Nat} (hi : i < 32) (hj : j < 32) : ((nI n >>> (nI i &&& 31)) &&& (nI n >>> (nI j &&& 31))) &&& 1 = fl (n.testBit i && n.testBit j) := by
  apply b_ext
  intro k hk
  rw [b_and, b_and, b_sshr i hi _ hk, b_sshr j hj _ hk, x_b1]
  by_cases e : k = 0
  · subst e
    rw [if_pos (by omega), if_pos (by omega), Nat.add_zero, Nat.add_zero, x_bt hi, x_bt hj]
    cases n.testBit i <;> cases n.testBit j <;> decide
  · have : ∀ b : Bool, bt (fl b) k = false := by
      intro b
      cases b
      · exact b_0 k
      · show bt 1 k = false
        rw [x_b1]; simp [e]
    rw [this]
    simp [e]
def pPr (A : aP) (ws st a b : Nat) : Bool := ws.testBit a && ws.testBit b && (on A a b st && !on A a b 0)
/-- no two words of these are one by the strike, but twins -/
def apA (A : aP) (ws st : Nat) : Bool := decide (∀ a, a < (aBk A).1 → ∀ b, b < (aBk A).1 → a < b → pPr A ws st a b = false)
theorem apA_t {A : aP} {ws st : Nat} (h : ∀ a b, a < b → b < (aBk A).1 → pPr A ws st a b = false) : apA A ws st = true := decide_eq_true (fun a _ b hb hab => h a b hab hb)
theorem apA_f {A : aP} {ws st a b : Nat} (hab : a < b) (hb : b < (aBk A).1) (h : pPr A ws st a b = true) : apA A ws st = false := decide_eq_false (fun z => by rw [z a (by omega) b hb hab] at h; cases h)
theorem apA_0 (A : aP) (ws : Nat) : apA A ws 0 = true := apA_t (fun a b _ _ => by unfold pPr; cases on A a b 0 <;> simp)
theorem apA_ws {A : aP} {ws ws' st : Nat} (h : ∀ a, a < (aBk A).1 → ws.testBit a = ws'.testBit a) : apA A ws st = apA A ws' st := by
  unfold apA
  apply decide_eq_decide.mpr
  constructor
  · intro z a ha b hb hab
    have := z a ha b hb hab
    unfold pPr at this ⊢
    rw [← h a ha, ← h b hb]; exact this
  · intro z a ha b hb hab
    have := z a ha b hb hab
    unfold pPr at this ⊢
    rw [h a ha, h b hb]; exact this
section OJ
variable {h : Bool × Nat × Nat} {d : Nat} {I J : Nat → Nat → Int32} {L : Nat → Nat → Int64} {A : aP}
theorem xAp (d : Nat) (hw : wfA A) (hi : invC I L A) (f : frC I J) (ws st : Nat) {L' : Nat → Nat → Int64} : ∃ K, ev_do (d + 5) M_SL_tellsApart [.ref 0, .int (nI st), .int (nI ws)] (ev_mk h J L') = ev_ri (fl (apA A ws st)) (ev_mk h K L') ∧ frC I K ∧ exc [133] J K := by
  have hW := hw.2.2.1.1
  obtain ⟨K, e1, f1, x1, c1⟩ := xSp (h := h) (L' := L') d hw hi f st
  refine ⟨K, ?_, f1, x1⟩
  rw [e_SL_tellsApart_0, e1, k_V, k_1, k_2, k_3]
  have hW5 := (hi.bk f1).1.1
  refine lpS (F := fun a (_ : Unit) => ev_at (d + 4) M_SL_tellsApart 18 [.ref 0, .float 0, .int (nI ws), .int (nI a), .float 0] [] (ev_mk h K L')) (G := fun a b _ => ev_at (d + 4) M_SL_tellsApart 34 [.ref 0, .float 0, .int (nI ws), .int (nI a), .int (nI b)] [] (ev_mk h K L')) (fun _ => True) (pPr A ws st) (fun o => o = ev_ri (fl (apA A ws st)) (ev_mk h K L')) (aBk A).1 ?_ ?_ ?_ ?_ ?_ () trivial
  · intro a _ ha _
    refine ⟨(), ?_, trivial⟩
    rw [e_SL_tellsApart_18]; simp (disch := first | omega | assumption) only [hW5, k_I, k_L, k_V, k_1, k_2, k_3, q_cl, z_in, z_lt_t, z_lt_f, z_eq_t, z_eq_f, q_add, q_sub, q_mul, z_tt, z_bit, z_shl, u_at, u_c, u_j, fa_or, z_fl, z_flf, eq_self, ↓reduceIte, z_0, z_1, z_2, z_3, z_4, z_5, z_6, z_7, z_8, z_9, z_10, z_12, z_15, z_16, z_24, z_27, z_40, z_60, z_79, z_80, z_99, z_255, z_256, z_405, z_432, z_9999, z_1000000]
  · intro a b _ hab hb _ hp
    refine ⟨(), ?_, trivial⟩
    have htw := xTw (h := h) (L' := L') (d + 3) hw hi f1 (show a < (aBk A).1 by omega) hb
    rw [e_SL_tellsApart_34, hW5, if_pos ((q_lt (by omega) (by omega)).mpr hb), z_two (by omega) (by omega), show nI b + 1 = nI (b + 1) from q_add b 1]
    unfold pPr at hp
    cases hws : ws.testBit a && ws.testBit b with
    | false => rw [if_neg (show ¬ fl false = 1 by decide)]
    | true =>
      rw [hws, Bool.true_and] at hp
      rw [if_pos (show fl true = 1 from rfl), q_in (by omega), if_pos (by simp <;> omega), q_in (by omega), if_pos (by simp <;> omega), q_cl (by omega), q_cl (by omega), c1 a (by omega), c1 b hb]
      cases ho : on A a b st with
      | false => rw [if_neg (fun z => by rw [(cod_on hw (by omega) hb st).mp z] at ho; cases ho)]
      | true =>
        rw [ho, Bool.true_and] at hp
        have h0 : on A a b 0 = true := by cases hz : on A a b 0 with
          | true => rfl
          | false => rw [hz] at hp; cases hp
        rw [if_pos ((cod_on hw (by omega) hb st).mpr ho), htw, k_I, k_1, k_2, k_3, h0, if_neg (show ¬ fl true = 0 by decide)]
  · intro a _ ha _
    refine ⟨(), ?_, trivial⟩
    rw [e_SL_tellsApart_34]; simp (disch := first | omega | assumption) only [hW5, k_I, k_L, k_V, k_1, k_2, k_3, q_cl, z_in, z_lt_t, z_lt_f, z_eq_t, z_eq_f, q_add, q_sub, q_mul, z_tt, z_bit, z_shl, u_at, u_c, u_j, fa_or, z_fl, z_flf, eq_self, ↓reduceIte, z_0, z_1, z_2, z_3, z_4, z_5, z_6, z_7, z_8, z_9, z_10, z_12, z_15, z_16, z_24, z_27, z_40, z_60, z_79, z_80, z_99, z_255, z_256, z_405, z_432, z_9999, z_1000000]
  · intro a b _ hab hb _ hp _
    have htw := xTw (h := h) (L' := L') (d + 3) hw hi f1 (show a < (aBk A).1 by omega) hb
    rw [apA_f hab hb hp]
    have hp' := hp
    unfold pPr at hp'
    simp only [Bool.and_eq_true] at hp'
    obtain ⟨⟨b1, b2⟩, b3, b4⟩ := hp'
    have h0 : on A a b 0 = false := by cases hz : on A a b 0 with
      | false => rfl
      | true => rw [hz] at b4; cases b4
    rw [e_SL_tellsApart_34, hW5, if_pos ((q_lt (by omega) (by omega)).mpr hb), z_two (by omega) (by omega), b1, b2, if_pos (show fl (true && true) = 1 from rfl), q_in (by omega), if_pos (by simp <;> omega), q_in (by omega), if_pos (by simp <;> omega), q_cl (by omega), q_cl (by omega), c1 a (by omega), c1 b hb, if_pos ((cod_on hw (by omega) hb st).mpr b3), htw, k_I, k_1, k_2, k_3, h0, if_pos (show fl false = 0 from rfl)]
    rfl
  · intro _ _ hall
    rw [apA_t hall, e_SL_tellsApart_18]; simp (disch := first | omega | assumption) only [hW5, k_I, k_L, k_V, k_1, k_2, k_3, q_cl, z_in, z_lt_t, z_lt_f, z_eq_t, z_eq_f, q_add, q_sub, q_mul, z_tt, z_bit, z_shl, u_at, u_c, u_j, fa_or, z_fl, z_flf, eq_self, ↓reduceIte, z_0, z_1, z_2, z_3, z_4, z_5, z_6, z_7, z_8, z_9, z_10, z_12, z_15, z_16, z_24, z_27, z_40, z_60, z_79, z_80, z_99, z_255, z_256, z_405, z_432, z_9999, z_1000000]
    rfl
theorem xAm (d : Nat) (hw : wfA A) (hi : invM I L A) (f : frM I J) (ws st : Nat) {L' : Nat → Nat → Int64} : ∃ K, ev_do (d + 4) M_Mo_areApart [.ref 139, .int (nI ws), .int (nI st)] (ev_mk h J L') = ev_ri (fl (apA A ws st)) (ev_mk h K L') ∧ frM I K ∧ exc [153, 154] J K := by
  have hW := hw.2.2.1.1
  rw [e_Mo_areApart_0]
  have e5 : ∀ (a : Nat) (z : Bool) (K : Nat → Nat → Int32), frM I K → a < (aBk A).1 → ws.testBit a = false → ev_at (d + 3) M_Mo_areApart 5 [.ref 139, .int (nI ws), .int (nI st), .int (fl z), .int (nI a), .float 0] [] (ev_mk h K L') = ev_at (d + 3) M_Mo_areApart 5 [.ref 139, .int (nI ws), .int (nI st), .int (fl z), .int (nI (a + 1)), .float 0] [] (ev_mk h K L') := by
    intro a z K fK ha hb
    rw [e_Mo_areApart_5, (hi.bk fK).1, if_pos ((q_lt (by omega) (by omega)).mpr ha), show nI a + 1 = nI (a + 1) from q_add a 1, e_Mo_areApart_20, (hi.bk fK).1, show nI a + 1 = nI (a + 1) from q_add a 1]
    by_cases e : a + 1 < (aBk A).1
    · rw [if_pos ((q_lt (by omega) (by omega)).mpr e), xHas (d + 2) (by omega), k_I, k_1, k_2, k_3, hb, if_pos (show fl false = 0 from rfl)]
    · rw [if_neg (fun z => e ((q_lt (by omega) (by omega)).mp z))]
  refine lpP (σ := (Nat → Nat → Int32) × Bool) (F := fun a p => ev_at (d + 3) M_Mo_areApart 5 [.ref 139, .int (nI ws), .int (nI st), .int (fl p.2), .int (nI a), .float 0] [] (ev_mk h p.1 L')) (G := fun a b p => if ws.testBit a then ev_at (d + 3) M_Mo_areApart 20 [.ref 139, .int (nI ws), .int (nI st), .int (fl p.2), .int (nI a), .int (nI b)] [] (ev_mk h p.1 L') else ev_at (d + 3) M_Mo_areApart 5 [.ref 139, .int (nI ws), .int (nI st), .int (fl p.2), .int (nI (a + 1)), .float 0] [] (ev_mk h p.1 L')) (fun a p => (frM I p.1 ∧ exc [153, 154] J p.1) ∧ (p.2 = true → ∀ a' b', a' < b' → b' < (aBk A).1 → a' < a → pPr A ws st a' b' = false) ∧ (p.2 = false → apA A ws st = false)) (fun a b p => (frM I p.1 ∧ exc [153, 154] J p.1) ∧ (p.2 = true → ∀ a' b', a' < b' → b' < (aBk A).1 → (a' < a ∨ (a' = a ∧ b' < b)) → pPr A ws st a' b' = false) ∧ (p.2 = false → apA A ws st = false)) (fun o => ∃ K, o = ev_ri (fl (apA A ws st)) (ev_mk h K L') ∧ frM I K ∧ exc [153, 154] J K) (aBk A).1 ?_ ?_ ?_ ?_ (J, true) ⟨⟨f, exc.rf⟩, fun _ _ _ _ _ z => absurd z (by omega), fun z => by cases z⟩
  · intro a p ha ⟨q0, q1, q2⟩
    refine ⟨p, ?_, q0, fun z a' b' h3 h4 h5 => q1 z a' b' h3 h4 (by omega), q2⟩
    cases hb : ws.testBit a with
    | true => rw [if_pos rfl, e_Mo_areApart_5, (hi.bk q0.1).1, if_pos ((q_lt (by omega) (by omega)).mpr ha), show nI a + 1 = nI (a + 1) from q_add a 1]
    | false => rw [if_neg (by decide), e5 a p.2 p.1 q0.1 ha hb]
  · intro a b p hab hb ⟨q0, q1, q2⟩
    refine Or.inl ?_
    cases hba : ws.testBit a with
    | false =>
      refine ⟨p, by rw [if_neg (by decide), if_neg (by decide)], q0, fun z a' b' h3 h4 h5 => ?_, q2⟩
      by_cases e : a' = a ∧ b' = b
      · rw [e.1, e.2]; unfold pPr; rw [hba]; rfl
      · exact q1 z a' b' h3 h4 (by omega)
    | true =>
      simp only [if_pos]
      rw [e_Mo_areApart_20, (hi.bk q0.1).1, if_pos ((q_lt (by omega) (by omega)).mpr hb), xHas (d + 2) (by omega), k_I, k_1, k_2, k_3, hba, if_neg (show ¬ fl true = 0 by decide), show nI b + 1 = nI (b + 1) from q_add b 1]
      cases hz : p.2 with
      | false =>
        refine ⟨p, by rw [if_pos (show fl false = 0 from rfl), hz]; rfl, q0, fun z => (by rw [hz] at z; cases z), q2⟩
      | true =>
        have q1' := q1 hz
        have nx : ∀ (K : Nat → Nat → Int32), (frM I K ∧ exc [153, 154] J K) → pPr A ws st a b = false → (frM I K ∧ exc [153, 154] J K) ∧ (true = true → ∀ a' b', a' < b' → b' < (aBk A).1 → (a' < a ∨ (a' = a ∧ b' < b + 1)) → pPr A ws st a' b' = false) ∧ (true = false → apA A ws st = false) := fun K hK hp => ⟨hK, fun _ a' b' h3 h4 h5 => by
          by_cases e : a' = a ∧ b' = b
          · rw [e.1, e.2]; exact hp
          · exact q1' a' b' h3 h4 (by omega), fun z => by cases z⟩
        rw [if_neg (show ¬ fl true = 0 by decide), xHas (d + 2) (by omega), k_I, k_1, k_2, k_3]
        cases hbb : ws.testBit b with
        | false =>
          refine ⟨(p.1, true), by rw [if_pos (show fl false = 0 from rfl)]; rfl, nx p.1 q0 (by unfold pPr; rw [hbb, Bool.and_false]; rfl)⟩
        | true =>
          obtain ⟨K1, g1, g2, g3⟩ := xOne (h := h) (L' := L') d hw hi q0.1 (show a < (aBk A).1 by omega) hb st
          rw [if_neg (show ¬ fl true = 0 by decide), g1, k_I, k_1, k_2, k_3]
          cases ho : on A a b st with
          | false => exact ⟨(K1, true), by rw [if_pos (show fl false = 0 from rfl)]; rfl, nx K1 ⟨g2, q0.2.tr g3⟩ (by unfold pPr; rw [ho, Bool.false_and, Bool.and_false])⟩
          | true =>
            obtain ⟨K2, j1, j2, j3⟩ := xOne (h := h) (L' := L') d hw hi g2 (show a < (aBk A).1 by omega) hb 0
            rw [if_neg (show ¬ fl true = 0 by decide), show (.int 0 : Value) = .int (nI 0) from rfl, j1, k_I, k_1, k_2, k_3]
            cases h0 : on A a b 0 with
            | true => exact ⟨(K2, true), by rw [if_neg (show ¬ fl true = 0 by decide)]; rfl, nx K2 ⟨j2, (q0.2.tr g3).tr j3⟩ (by unfold pPr; rw [h0]; simp)⟩
            | false =>
              refine ⟨(K2, false), by rw [if_pos (show fl false = 0 from rfl)]; rfl, ⟨j2, (q0.2.tr g3).tr j3⟩, fun z => (by cases z), fun _ => apA_f hab hb ?_⟩
              unfold pPr; rw [hba, hbb, ho, h0]; rfl
  · intro a p ha ⟨q0, q1, q2⟩
    refine ⟨p, ?_, q0, fun z a' b' h3 h4 h5 => q1 z a' b' h3 h4 (by omega), q2⟩
    cases hb : ws.testBit a with
    | false => rw [if_neg (by decide)]
    | true => rw [if_pos rfl, e_Mo_areApart_20, (hi.bk q0.1).1, if_neg (fun z => absurd ((q_lt (by omega) (by omega)).mp z) (by omega)), show nI a + 1 = nI (a + 1) from q_add a 1]
  · intro p ⟨q0, q1, q2⟩
    refine ⟨p.1, ?_, q0⟩
    have : p.2 = apA A ws st := by
      cases hz : p.2 with
      | true => exact (apA_t (fun a b h3 h4 => q1 hz a b h3 h4 (by omega))).symm
      | false => exact (q2 hz).symm
    rw [e_Mo_areApart_5, (hi.bk q0.1).1, if_neg (fun z => absurd ((q_lt (by omega) (by omega)).mp z) (by omega)), this, if_pos (fl_fit _)]
theorem mu_1 : ∀ k, k < 256 → (255 : Int32) ^^^ nI k = nI (255 ^^^ k) := fun k _ => nx_xor 255 k
theorem mu_2 : ∀ k, k < 256 → (255 : Int32) &&& (nI k ^^^ (-1)) = nI (255 ^^^ k) := by decide +kernel
theorem mu_3 : ∀ k, k < 255 → pcn k < 8 := by decide +kernel
theorem z_pw {W : Nat} (hW : W ≤ 8) : (1 : Int32) <<< (nI W &&& 31) = nI (2 ^ W) := z_shl (by omega)
theorem op_must {x : Int32} (hi : inv I L) : okI h d M_SL_must M_Mo_must [.int x] I L := by
  refine ok_q (fun A hw => ?_) hi
  have hW := hw.2.2.1.1
  have h8 := pw8 hW
  cases hx : blw x (2 ^ (aBk A).1) with
  | false =>
    refine no_q (v := -1) hw (fun I L hi => ?_) (fun I L hi => ?_)
    · rw [e_SL_must_0, hi.2.2.1.1.1, z_pw hW]
      rcases blw_f hx with h1 | ⟨h1, h2⟩
      · rw [if_pos h1]
      · rw [if_neg h1, if_neg h2]
    · rw [e_Mo_must_0, hi.2.2.1.1, z_pw hW, c_inm (d + 98) (by omega), k_I, k_1, k_2, k_3, hx, if_pos (show fl false = 0 from rfl)]
  | true =>
    obtain ⟨m, hm, rfl⟩ := (blw_iff (by omega)).mp hx
    obtain ⟨P, hP⟩ : ∃ P : Nat → Bool, P = fun k => apA A m (255 ^^^ k) := ⟨_, rfl⟩
    have hPk : ∀ k, P k = apA A m (255 ^^^ k) := fun k => by rw [hP]
    have hP255 : P 255 = true := by rw [hPk]; exact apA_0 A m
    have lC : ∀ (I : Nat → Nat → Int32) (L : Nat → Nat → Int64), invC I L A → ∃ K, ev_do (d + 100) M_SL_must (.ref 0 :: [.int (nI m)]) (ev_mk h I L) = ev_cI (ev_do (d + 99) M_SL_tellSet [.ref 0, .int (nI ((bF P 256).getD 255))] (ev_mk h K L)) (fun v8 s7 => ev_ri v8 (ev_mk s7.1.2 s7.2.1 s7.2.2.1)) ∧ frC I K := by
      intro I L hi
      rw [e_SL_must_0, hi.2.2.1.1.1, z_pw hW, if_neg (q_nn (by omega)), if_pos ((q_lt (by omega) (by omega)).mpr hm)]
      refine lpX (F := fun i J => ev_at (d + 99) M_SL_must 25 [.ref 0, .int (nI m), .int (nI ((bF P i).getD 255)), .int (nI i)] [] (ev_mk h J L)) (fun i J => frC I J) 256 ?_ ?_ 0 (by omega) I frC.rf
      · intro i J hi' p1
        have ho := bF_o (P := P) (show i ≤ 256 by omega)
        have hg : (bF P i).getD 255 < 256 := by
          cases hb : bF P i with
          | none => decide
          | some q => exact ho q hb
        have h1 := pcn_le i
        have h2 := pcn_le ((bF P i).getD 255)
        rw [e_SL_must_25, if_pos (show nI i < (256 : Int32) from (q_lt (b := 256) (by omega) (by omega)).mpr hi'), c_bitCount (d + 98) hi', k_I, k_1, k_2, k_3, c_bitCount (d + 98) hg, k_I, k_1, k_2, k_3, mu_1 i hi', show nI i + 1 = nI (i + 1) from q_add i 1]
        have nxt : (bF P (i + 1)).getD 255 = if decide (pcn i < pcn ((bF P i).getD 255)) && P i then i else (bF P i).getD 255 := by
          rw [bF]
          cases hb : bF P i with
          | some q => show (if fw (some q) i && P i then some i else some q).getD 255 = if decide (pcn i < pcn q) && P i then i else q
                      unfold fw
                      cases decide (pcn i < pcn q) && P i <;> rfl
          | none =>
            show (if true && P i then some i else none).getD 255 = if decide (pcn i < pcn 255) && P i then i else 255
            by_cases e : i = 255
            · subst e; rw [hP255]; decide
            · rw [decide_eq_true (show pcn i < pcn 255 from mu_3 i (by omega))]
              cases true && P i <;> rfl
        rw [nxt]
        by_cases e : pcn i < pcn ((bF P i).getD 255)
        · obtain ⟨K, g1, g2, g3⟩ := xAp (h := h) (L' := L) (d + 94) hw hi p1 m (255 ^^^ i)
          refine Or.inl ⟨K, ?_, g2⟩
          rw [if_pos ((q_lt (by omega) (by omega)).mpr e), g1, k_I, k_1, k_2, k_3, decide_eq_true e, Bool.true_and, hPk]
          cases apA A m (255 ^^^ i) with
          | true => rw [if_neg (show ¬ fl true = 0 by decide), if_pos rfl]
          | false => rw [if_pos (show fl false = 0 from rfl), if_neg (by decide)]
        · refine Or.inl ⟨J, ?_, p1⟩
          rw [if_neg (fun z => e ((q_lt (by omega) (by omega)).mp z)), decide_eq_false e, Bool.false_and, if_neg (by decide)]
      · intro J p1
        refine ⟨J, ?_, p1⟩
        rw [e_SL_must_25, if_neg (by decide)]
    have lM : ∀ (I : Nat → Nat → Int32) (L : Nat → Nat → Int64), invM I L A → ∃ K, ev_do (d + 100) M_Mo_must (.ref 139 :: [.int (nI m)]) (ev_mk h I L) = ev_cI (ev_do (d + 99) M_Mo_tellsSet [.ref 139, .int (enc (bF P 256))] (ev_mk h K L)) (fun v6 s5 => ev_ri v6 (ev_mk s5.1.2 s5.2.1 s5.2.2.1)) ∧ frM I K := by
      intro I L hi
      rw [e_Mo_must_0, hi.2.2.1.1, z_pw hW, c_inm (d + 98) (by omega), k_I, k_1, k_2, k_3, hx, if_neg (show ¬ fl true = 0 by decide)]
      refine lpX (F := fun i J => ev_at (d + 99) M_Mo_must 29 [.ref 139, .int (nI m), .int (enc (bF P i)), .int (nI i)] [] (ev_mk h J L)) (fun i J => frM I J) 256 ?_ ?_ 0 (by omega) _ frM.t0
      · intro i J hi' p1
        have ho := bF_o (P := P) (show i ≤ 256 by omega)
        rw [e_Mo_must_29, if_pos (show nI i < (256 : Int32) from (q_lt (b := 256) (by omega) (by omega)).mpr hi'), c_isFewer (d + 97) hi' ho, k_I, k_1, k_2, k_3, mu_2 i hi', show nI i + 1 = nI (i + 1) from q_add i 1]
        cases hf : fw (bF P i) i with
        | false =>
          refine Or.inl ⟨J, ?_, p1⟩
          rw [if_pos (show fl false = 0 from rfl), bF, hf, Bool.false_and, if_neg (by decide)]
        | true =>
          obtain ⟨K, g1, g2, g3⟩ := xAm (h := h) (L' := L) (d + 95) hw hi p1 m (255 ^^^ i)
          refine Or.inl ⟨K, ?_, g2⟩
          rw [if_neg (show ¬ fl true = 0 by decide), g1, k_I, k_1, k_2, k_3, bF, hf, Bool.true_and, hPk]
          cases apA A m (255 ^^^ i) with
          | true => rw [if_neg (show ¬ fl true = 0 by decide), if_pos rfl]; rfl
          | false => rw [if_pos (show fl false = 0 from rfl), if_neg (by decide)]
      · intro J p1
        refine ⟨J, ?_, p1⟩
        rw [e_Mo_must_29, if_neg (by decide)]
    have hsome : ∃ q, bF P 256 = some q := by
      rw [bF, hP255]
      cases hb : bF P 255 with
      | none => exact ⟨255, rfl⟩
      | some q =>
        cases fw (some q) 255 && true with
        | true => exact ⟨255, rfl⟩
        | false => exact ⟨q, rfl⟩
    obtain ⟨q, hb0⟩ := hsome
    have hq := bF_o (P := P) (Nat.le_refl 256) q hb0
    rw [hb0] at lC lM
    refine ⟨nI (pcn q), snoc nil0 (nI q).toInt64, show 1 ≤ 9 by decide, fun I L hi => ?_, fun I L hi => ?_⟩
    · obtain ⟨K, e, f⟩ := lC I L hi
      obtain ⟨p, e1, x1, l1, r1⟩ := c_tellSet (h := h) (J := K) (L := L) (d + 97) hq
      refine ⟨p, ?_, f.x x1 (by simp [scC]), r1, l1 140 (by omega)⟩
      rw [e, show (some q).getD 255 = q from rfl, e1, k_I, k_1, k_2, k_3]
    · obtain ⟨K, e, f⟩ := lM I L hi
      obtain ⟨p, e1, x1, n1, l1, r1⟩ := c_tellsSet (h := h) (J := K) (L := L) (d + 97) hq
      refine ⟨p, ?_, f.e x1 n1, r1, l1 4 (by omega)⟩
      rw [e, show enc (some q) = nI q from rfl, e1, k_I, k_1, k_2, k_3]
end OJ
