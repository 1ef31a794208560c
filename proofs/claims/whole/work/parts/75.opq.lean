/-! Calls: when, crossest. -/
def fwh (Q : Nat → Bool) : Nat → Option Nat
  | 0 => none
  | i + 1 => match fwh Q i with
    | some k => some k
    | none => if Q i then some (i + 1) else none
def enc2 (o : Option Nat) : Int32 := match o with
  | none => -2
  | some k => nI k
theorem fwh_lt {Q : Nat → Bool} : ∀ {i k : Nat}, fwh Q i = some k → k ≤ i
  | 0, k, h => by cases h
  | i + 1, k, h => by
    rw [fwh] at h
    cases hf : fwh Q i with
    | some q =>
      rw [hf] at h
      cases h
      have := fwh_lt hf
      omega
    | none =>
      rw [hf] at h
      have h' : (if Q i then some (i + 1) else none) = some k := h
      split at h'
      · cases h'; omega
      · cases h'
theorem fwh_ct {Q : Nat → Bool} : ∀ i, fwh Q i = none ↔ fb_ct Q i = 0
  | 0 => ⟨fun _ => rfl, fun _ => rfl⟩
  | i + 1 => by
    have ih := fwh_ct (Q := Q) i
    rw [fwh, fb_ct_succ]
    cases hf : fwh Q i with
    | some q =>
      have : fb_ct Q i ≠ 0 := fun z => by rw [ih.mpr z] at hf; cases hf
      exact ⟨fun z => (by cases z), fun z => by omega⟩
    | none =>
      rw [ih.mp hf]
      cases Q i <;> simp
theorem enc2_m2 {o : Option Nat} (h : ∀ b, o = some b → b < 256) : enc2 o = -2 ↔ o = none := by
  cases o with
  | none => exact ⟨fun _ => rfl, fun _ => rfl⟩
  | some b =>
    refine ⟨fun z => ?_, fun z => by cases z⟩
    exfalso
    have z1 : nI b = -2 := z
    exact absurd (show nI b < 0 by rw [z1]; decide) (q_nn (by have := h b rfl; omega))
theorem enc2_neg {o : Option Nat} (h : ∀ b, o = some b → b < 256) : enc2 o < 0 ↔ o = none := by
  cases o with
  | none => exact ⟨fun _ => rfl, fun _ => by decide⟩
  | some b => exact ⟨fun z => absurd z (q_nn (by have := h b rfl; omega)), fun z => by cases z⟩
section OQ
variable {h : Bool × Nat × Nat} {d : Nat} {I J : Nat → Nat → Int32} {L : Nat → Nat → Int64} {A : aP}
theorem op_when {x : Int32} (hi : inv I L) : okI h d M_SL_when M_Mo_when [.int x] I L := by
  refine ok_q (fun A hw => ?_) hi
  have hW := hw.2.2.1.1
  have hT := hw.2.2.2.2.1
  cases hx : blw x 8 with
  | false =>
    refine no_q (v := -1) hw (fun I L hi => ?_) (fun I L hi => ?_)
    · rw [e_SL_when_0, c_SL_isLetter, k_I, k_1, k_2, k_3, hx, if_pos (show fl false = 0 from rfl)]
    · rw [e_Mo_when_0, c_Mo_isLetter, k_I, k_1, k_2, k_3, hx, if_pos (show fl false = 0 from rfl)]
  | true =>
    obtain ⟨l, hl, rfl⟩ := (blw_iff (by omega)).mp hx
    obtain ⟨Q, hQ⟩ : ∃ Q : Nat → Bool, Q = fun i => (uO (pDy A (i + 1)) 24).testBit l := ⟨_, rfl⟩
    have hQk : ∀ i, (uO (pDy A (i + 1)) 24).testBit l = Q i := fun i => by rw [hQ]
    have hct := fb_ct_le Q 99
    have hol : ∀ i, i ≤ 99 → ∀ b, fwh Q i = some b → b < 256 := fun i hi b hb => by have := fwh_lt hb; omega
    have lC : ∀ (I : Nat → Nat → Int32) (L : Nat → Nat → Int64), invC I L A → ∃ K, ev_do (d + 100) M_SL_when (.ref 0 :: [.int (nI l)]) (ev_mk h I L) = ev_at (d + 99) M_SL_when 28 [.ref 0, .int (nI l), .int (enc2 (fwh Q 99)), .int (nI (fb_ct Q 99)), .int (nI (99 + 1))] [] (ev_mk h K L) ∧ frC I K ∧ K 3 1 = I 3 1 := by
      intro I L hi
      have x1 := cpS_ex I 21 17
      have s1 : cSt 21 (cpS I 21 17) (pDy A 0) := cpS_st (by omega) hi.2.2.2.1
      have lp : ∃ K, ev_at (d + 99) M_SL_when 28 [.ref 0, .int (nI l), .int (enc2 (fwh Q 0)), .int (nI (fb_ct Q 0)), .int (nI (0 + 1))] [] (ev_mk h (cpS I 21 17) L) = ev_at (d + 99) M_SL_when 28 [.ref 0, .int (nI l), .int (enc2 (fwh Q 99)), .int (nI (fb_ct Q 99)), .int (nI (99 + 1))] [] (ev_mk h K L) ∧ (frC I K ∧ K 3 1 = I 3 1) ∧ cSt 21 K (pDy A 99) := by
        refine lpX (F := fun i J => ev_at (d + 99) M_SL_when 28 [.ref 0, .int (nI l), .int (enc2 (fwh Q i)), .int (nI (fb_ct Q i)), .int (nI (i + 1))] [] (ev_mk h J L)) (fun i J => (frC I J ∧ J 3 1 = I 3 1) ∧ cSt 21 J (pDy A i)) 99 ?_ (fun J p => ⟨J, rfl, p⟩) 0 (by omega) _ ⟨⟨frC.rf.x x1 (by simp [scC]), by rw [x1 3 (by simp)]⟩, s1⟩
        intro i J hi' ⟨p1, p3⟩
        obtain ⟨J1, g1, g2, g3, g4⟩ := c_passDay (h := h) (L := L) (d + 94) (hi.bk p1.1) (Or.inr rfl : 21 = 17 ∨ 21 = 21) p3 (pDy_wf hw i) (hi.rl p1.1) hT
        have f1 : frC I J1 := p1.1.tr (frC.of g2 (by simp [scC]) g3 (by simp))
        have g4' : cSt 21 J1 (pDy A (i + 1)) := g4
        refine Or.inl ⟨J1, ?_, ⟨f1, by rw [g2 3 (by simp)]; exact p1.2⟩, g4'⟩
        rw [e_SL_when_28, if_neg (z99 hi'), g1, k_I, k_1, k_2, k_3, g4'.2.1, (pDy_wf hw (i + 1)).s.1, x_bit (by omega), hQk, fwh, fb_ct_succ, show nI (i + 1) + 1 = nI (i + 1 + 1) from q_add _ 1, show nI (fb_ct Q i) + 1 = nI (fb_ct Q i + 1) from q_add _ 1]
        cases Q i with
        | false =>
          rw [if_neg (show ¬ (if false = true then (1 : Int32) else 0) = 1 by decide)]
          cases fwh Q i <;> rfl
        | true =>
          rw [if_pos (show (if true = true then (1 : Int32) else 0) = 1 from rfl)]
          cases ho : fwh Q i with
          | none => rw [if_pos (show enc2 none = -2 from rfl)]; rfl
          | some k => rw [if_neg (show ¬ enc2 (some k) = -2 from fun z => by cases (enc2_m2 (o := some k) (fun b hb => hol i (by omega) b (by rw [ho]; exact hb))).mp z)]; rfl
      obtain ⟨K, e, f, _⟩ := lp
      refine ⟨K, ?_, f⟩
      rw [e_SL_when_0, c_SL_isLetter, k_I, k_1, k_2, k_3, hx, if_neg (show ¬ fl true = 0 by decide), c_copyT, k_V, k_1, k_2, k_3]
      exact e
    have lM : ∀ (I : Nat → Nat → Int32) (L : Nat → Nat → Int64), invM I L A → ∃ K, ev_do (d + 100) M_Mo_when (.ref 139 :: [.int (nI l)]) (ev_mk h I L) = ev_at (d + 99) M_Mo_when 26 [.ref 139, .int (nI l), .int (enc2 (fwh Q 99)), .int (nI (fb_ct Q 99)), .int (nI (99 + 1)), .float 0] [] (ev_mk h K L) ∧ frM I K ∧ K 139 1 = I 139 1 := by
      intro I L hi
      obtain ⟨I1, e1, x1, s1⟩ := c_Mo_copies (h := h) (L := L) (d + 98) hi.th.2.2.2.1
      have f1 : frM I I1 := frM.t0.x x1 (by simp [scM])
      have lp : ∃ K, ev_at (d + 99) M_Mo_when 26 [.ref 139, .int (nI l), .int (enc2 (fwh Q 0)), .int (nI (fb_ct Q 0)), .int (nI (0 + 1)), .float 0] [] (ev_mk h I1 L) = ev_at (d + 99) M_Mo_when 26 [.ref 139, .int (nI l), .int (enc2 (fwh Q 99)), .int (nI (fb_ct Q 99)), .int (nI (99 + 1)), .float 0] [] (ev_mk h K L) ∧ (frM I K ∧ K 139 1 = I 139 1) ∧ mSt 144 0 K (pDy A 99) := by
        refine lpX (F := fun i J => ev_at (d + 99) M_Mo_when 26 [.ref 139, .int (nI l), .int (enc2 (fwh Q i)), .int (nI (fb_ct Q i)), .int (nI (i + 1)), .float 0] [] (ev_mk h J L)) (fun i J => (frM I J ∧ J 139 1 = I 139 1) ∧ mSt 144 0 J (pDy A i)) 99 ?_ (fun J p => ⟨J, rfl, p⟩) 0 (by omega) _ ⟨⟨f1, by rw [x1 139 (by simp), u_j (by omega)]⟩, s1⟩
        intro i J hi' ⟨p1, p3⟩
        obtain ⟨J1, g1, g2, g3⟩ := c_dayGoes (h := h) (L := L) (d + 92) (hi.bk p1.1) (Or.inr rfl : 144 = 143 ∨ 144 = 144) p3 (pDy_wf hw i) (hi.rl p1.1) hT
        have g3' : mSt 144 0 J1 (pDy A (i + 1)) := g3
        have hci := fb_ct_le Q i
        refine Or.inl ⟨J1, ?_, ⟨p1.1.x g2 (by simp [scM]), by rw [g2 139 (by simp)]; exact p1.2⟩, g3'⟩
        have e70 : ∀ (z : Bool) (y : Int32), y = enc2 (fwh Q (i + 1)) → Q i = z → ev_at (d + 99) M_Mo_when 70 [.ref 139, .int (nI l), .float 0, .int (nI (fb_ct Q i)), .int (nI (i + 1)), .int (fl z)] [.int y] (ev_mk h J1 L) = ev_at (d + 99) M_Mo_when 26 [.ref 139, .int (nI l), .int (enc2 (fwh Q (i + 1))), .int (nI (fb_ct Q (i + 1))), .int (nI (i + 1 + 1)), .float 0] [] (ev_mk h J1 L) := by
          intro z y hy hz
          rw [e_Mo_when_70, c_Mo_flag (d + 98), k_I, k_1, k_2, k_3, fl_or, q_add, show nI (i + 1) + 1 = nI (i + 1 + 1) from q_add _ 1, hy, fb_ct_succ, hz]
        rw [e_Mo_when_26, if_neg (z99 hi'), g1, k_I, k_1, k_2, k_3, g3'.at (by omega), (pDy_wf hw (i + 1)).s.1, xHas (d + 98) (by omega), k_I, k_1, k_2, k_3, hQk]
        cases hq : Q i with
        | false =>
          rw [if_pos (show fl false = 0 from rfl)]
          refine e70 false _ ?_ hq
          rw [fwh, hq]
          cases fwh Q i <;> rfl
        | true =>
          rw [if_neg (show ¬ fl true = 0 by decide)]
          cases ho : fwh Q i with
          | none =>
            rw [if_pos (by rw [(fwh_ct i).mp ho]; rfl)]
            refine e70 true _ ?_ hq
            rw [fwh, hq, ho]; rfl
          | some k =>
            have hne : fb_ct Q i ≠ 0 := fun z => by rw [(fwh_ct i).mpr z] at ho; cases ho
            rw [if_neg (show ¬ nI (fb_ct Q i) = 0 from fun z => hne ((q_eq (b := 0) (by omega) (by omega)).mp z))]
            refine e70 true _ ?_ hq
            rw [fwh, ho]
      obtain ⟨K, e, f, _⟩ := lp
      refine ⟨K, ?_, f⟩
      rw [e_Mo_when_0, c_Mo_isLetter, k_I, k_1, k_2, k_3, hx, if_neg (show ¬ fl true = 0 by decide), e1, k_V, k_1, k_2, k_3]
      exact e
    cases ho : fwh Q 99 with
    | none =>
      rw [ho, (fwh_ct 99).mp ho] at lC lM
      refine ⟨-2, aRw A, hw.2.1, qC_no (fun I L hi => ?_), qM_no (fun I L hi => ?_)⟩
      · obtain ⟨K, e, f, k⟩ := lC I L hi
        refine ⟨K, ?_, f, k⟩
        rw [e, e_SL_when_28, if_pos (by decide), if_pos (show enc2 none = -2 from rfl)]
        rfl
      · obtain ⟨K, e, f, k⟩ := lM I L hi
        refine ⟨K, ?_, f, k⟩
        rw [e, e_Mo_when_26, if_pos (by decide), if_neg (by decide)]
        rfl
    | some k =>
      have hne : fb_ct Q 99 ≠ 0 := fun z => by rw [(fwh_ct 99).mpr z] at ho; cases ho
      have hk2 := hol 99 (by omega)
      rw [ho] at lC lM hk2
      refine ⟨nI k, snoc nil0 (nI (fb_ct Q 99)).toInt64, show 1 ≤ 9 by decide, fun I L hi => ?_, fun I L hi => ?_⟩
      · obtain ⟨K, e, f, _⟩ := lC I L hi
        obtain ⟨K2, L2, e2, x2, l2, r2⟩ := t_tell (h := h) (x := (nI (fb_ct Q 99)).toInt64) (d + 98) (rwC.nil (I := K) (L := L)) (show 0 < 9 by decide)
        refine ⟨(K2, L2), ?_, (f.t1 _).x x2 (by simp [scC]), r2, l2 140 (by omega)⟩
        rw [e, e_SL_when_28, if_pos (by decide), if_neg (fun z => by cases (enc2_m2 hk2).mp z), e2, k_V, k_1, k_2, k_3]
        rfl
      · obtain ⟨K, e, f, _⟩ := lM I L hi
        obtain ⟨K2, L2, e2, x2, n2, l2, r2⟩ := t_enters (h := h) (x := (nI (fb_ct Q 99)).toInt64) (d + 98) (rwM.nil (I := K) (L := L)) (show 0 < 24 by decide)
        refine ⟨(K2, L2), ?_, (f.t1 _).e x2 n2, r2, l2 4 (by omega)⟩
        rw [e, e_Mo_when_26, if_pos (by decide), if_pos (show (0 : Int32) < nI (fb_ct Q 99) from (q_lt (a := 0) (by omega) (by omega)).mpr (by omega)), e2, k_V, k_1, k_2, k_3]
        rfl
/-- the crossest letter of the first i, and how many are as cross -/
def crs (u : Nat → Bool) (g : Nat → Int32) : Nat → Option (Nat × Nat)
  | 0 => none
  | i + 1 => if u i then (match crs u g i with
    | none => some (i, 1)
    | some q => if g q.1 < g i then some (i, 1) else if g i = g q.1 then some (q.1, q.2 + 1) else some q) else crs u g i
theorem crs_lt {u : Nat → Bool} {g : Nat → Int32} : ∀ {i : Nat} {q : Nat × Nat}, crs u g i = some q → q.1 < i ∧ q.2 ≤ i
  | 0, q, h => by cases h
  | i + 1, q, h => by
    rw [crs] at h
    split at h
    · cases hc : crs u g i with
      | none => rw [hc] at h; cases h; exact ⟨by show i < i + 1; omega, by show 1 ≤ i + 1; omega⟩
      | some r =>
        have := crs_lt hc
        rw [hc] at h
        have h' : (if g r.1 < g i then some (i, 1) else if g i = g r.1 then some (r.1, r.2 + 1) else some r) = some q := h
        split at h'
        · cases h'; exact ⟨by show i < i + 1; omega, by show 1 ≤ i + 1; omega⟩
        · split at h'
          · cases h'; exact ⟨by show r.1 < i + 1; omega, by show r.2 + 1 ≤ i + 1; omega⟩
          · cases h'; omega
    · have := crs_lt h; omega
def cb (o : Option (Nat × Nat)) : Int32 := match o with
  | none => -2
  | some q => nI q.1
def cc (o : Option (Nat × Nat)) : Int32 := match o with
  | none => 0
  | some q => nI q.2
theorem op_crossest (hi : inv I L) : okI h d M_SL_crossest M_Mo_crossest [] I L := by
  refine ok_q (fun A hw => ?_) hi
  have hW := hw.2.2.1.1
  obtain ⟨u, hu⟩ : ∃ u : Nat → Bool, u = fun l => decide (0 < sgn (aBk A).2.1 (aBk A).2.2 (uO (aS A)) l true (aBk A).1) := ⟨_, rfl⟩
  obtain ⟨g, hg⟩ : ∃ g : Nat → Int32, g = fun l => gA A (aRl A) l (aS A (16 + l)) := ⟨_, rfl⟩
  have huk : ∀ l, u l = decide (0 < sgn (aBk A).2.1 (aBk A).2.2 (uO (aS A)) l true (aBk A).1) := fun l => by rw [hu]
  have hgk : ∀ l, gA A (aRl A) l (aS A (16 + l)) = g l := fun l => by rw [hg]
  have lC : ∀ (I : Nat → Nat → Int32) (L : Nat → Nat → Int64), invC I L A → ∃ K, ev_do (d + 100) M_SL_crossest (.ref 0 :: []) (ev_mk h I L) = ev_at (d + 99) M_SL_crossest 21 [.ref 0, .int (cb (crs u g 8)), .int (match crs u g 8 with | none => 0 | some q => g q.1), .int (cc (crs u g 8)), .int (nI 8), .float 0] [] (ev_mk h K L) ∧ frC I K ∧ K 3 1 = I 3 1 := by
    intro I L hi
    obtain ⟨I1, e1, f1, x1, t1⟩ := xTl (h := h) (L' := L) (d + 97) hw hi frC.rf
    rw [e_SL_crossest_0, e1, k_V, k_1, k_2, k_3]
    have lp : ∃ K, ev_at (d + 99) M_SL_crossest 21 [.ref 0, .int (cb (crs u g 0)), .int (match crs u g 0 with | none => 0 | some q => g q.1), .int (cc (crs u g 0)), .int (nI 0), .float 0] [] (ev_mk h I1 L) = ev_at (d + 99) M_SL_crossest 21 [.ref 0, .int (cb (crs u g 8)), .int (match crs u g 8 with | none => 0 | some q => g q.1), .int (cc (crs u g 8)), .int (nI 8), .float 0] [] (ev_mk h K L) ∧ (frC I K ∧ K 3 1 = I 3 1) ∧ tly A K := by
      refine lpX (F := fun i J => ev_at (d + 99) M_SL_crossest 21 [.ref 0, .int (cb (crs u g i)), .int (match crs u g i with | none => 0 | some q => g q.1), .int (cc (crs u g i)), .int (nI i), .float 0] [] (ev_mk h J L)) (fun i J => (frC I J ∧ J 3 1 = I 3 1) ∧ tly A J) 8 ?_ (fun J p => ⟨J, rfl, p⟩) 0 (by omega) I1 ⟨⟨f1, by rw [x1 3 (by simp)]⟩, t1⟩
      intro i J hi' ⟨p1, p2⟩
      have hsg := sg_le hw i true
      rw [e_SL_crossest_21, if_pos (show nI i < (8 : Int32) from (q_lt (b := 8) (by omega) (by omega)).mpr hi'), show ev_in (nI i) 8 = true from z_in (by omega) (by omega)]
      simp only [↓reduceIte]
      rw [q_cl (by omega), (p2 i hi').1, ((hi.s p1.1).1 i hi').2.2, crs, huk, show nI i + 1 = nI (i + 1) from q_add i 1]
      by_cases e0 : 0 < sgn (aBk A).2.1 (aBk A).2.2 (uO (aS A)) i true (aBk A).1
      · obtain ⟨J1, g1, g2, g3, g4⟩ := xGr (h := h) (L' := L) (d + 96) hw hi p1.1 p2 hi' (aS A (16 + i))
        rw [hgk] at g1
        refine Or.inl ⟨J1, ?_, ⟨g2, by rw [g4 3 (by simp)]; exact p1.2⟩, g3⟩
        have e85 : ev_at (d + 99) M_SL_crossest 85 [.ref 0, .float 0, .float 0, .float 0, .int (nI i), .int (g i)] [] (ev_mk h J1 L) = ev_at (d + 99) M_SL_crossest 21 [.ref 0, .int (nI i), .int (g i), .int 1, .int (nI (i + 1)), .float 0] [] (ev_mk h J1 L) := by
          rw [e_SL_crossest_85, show nI i + 1 = nI (i + 1) from q_add i 1]
        rw [if_neg (show ¬ nI (sgn (aBk A).2.1 (aBk A).2.2 (uO (aS A)) i true (aBk A).1) = 0 from fun z => absurd ((q_eq (b := 0) (by omega) (by omega)).mp z) (by omega)), g1, k_I, k_1, k_2, k_3, decide_eq_true e0, if_pos (c := true = true) rfl]
        cases hc : crs u g i with
        | none => rw [if_pos (show cb none = -2 from rfl), e85]; rfl
        | some q =>
          have hq := crs_lt hc
          rw [if_neg (show ¬ cb (some q) = -2 from fun z => absurd (show nI q.1 < 0 by rw [show nI q.1 = -2 from z]; decide) (q_nn (by omega)))]
          show (if g q.1 < g i then _ else _) = _
          by_cases c1 : g q.1 < g i
          · rw [if_pos c1, e85]; simp only [if_pos c1]; rfl
          · rw [if_neg c1]
            by_cases c2 : g i = g q.1
            · rw [if_pos c2]; simp only [if_neg c1, if_pos c2]
              rw [show cc (some q) + 1 = nI (q.2 + 1) from q_add q.2 1]; rfl
            · rw [if_neg c2]; simp only [if_neg c1, if_neg c2]
      · have e0' : sgn (aBk A).2.1 (aBk A).2.2 (uO (aS A)) i true (aBk A).1 = 0 := by omega
        refine Or.inl ⟨J, ?_, p1, p2⟩
        rw [if_pos (by rw [e0']; rfl), decide_eq_false e0, if_neg (by decide)]
    obtain ⟨K, e, f, _⟩ := lp
    exact ⟨K, e, f⟩
  have lM : ∀ (I : Nat → Nat → Int32) (L : Nat → Nat → Int64), invM I L A → ∃ K, ev_do (d + 100) M_Mo_crossest (.ref 139 :: []) (ev_mk h I L) = ev_at (d + 99) M_Mo_crossest 22 [.ref 139, .int (nI (unL A)), .int (cb (crs u g 8)), .int (cc (crs u g 8)), .int (nI 8), .float 0] [] (ev_mk h K L) ∧ frM I K ∧ K 139 1 = I 139 1 := by
    intro I L hi
    rw [e_Mo_crossest_0, xUm (d + 96) hw hi frM.t0, k_I, k_1, k_2, k_3]
    refine lpX (F := fun i J => ev_at (d + 99) M_Mo_crossest 22 [.ref 139, .int (nI (unL A)), .int (cb (crs u g i)), .int (cc (crs u g i)), .int (nI i), .float 0] [] (ev_mk h J L)) (fun i J => frM I J ∧ J 139 1 = I 139 1) 8 ?_ (fun J p => ⟨J, rfl, p⟩) 0 (by omega) _ ⟨frM.t0, u_j (by omega)⟩
    intro i J hi' ⟨p1, p2⟩
    have hbit : (unL A).testBit i = u i := by
      rw [huk]
      unfold unL uns
      rw [msk_bit, decide_eq_true hi', Bool.true_and]
    rw [e_Mo_crossest_22, if_pos (show nI i < (8 : Int32) from (q_lt (b := 8) (by omega) (by omega)).mpr hi'), xHas (d + 98) (by omega), k_I, k_1, k_2, k_3, hbit, crs, show nI i + 1 = nI (i + 1) from q_add i 1]
    cases u i with
    | false => exact Or.inl ⟨J, by rw [if_pos (show fl false = 0 from rfl), if_neg (by decide)], p1, p2⟩
    | true =>
      rw [if_neg (show ¬ fl true = 0 by decide), if_pos (c := true = true) rfl]
      cases hc : crs u g i with
      | none =>
        refine Or.inl ⟨J, ?_, p1, p2⟩
        rw [if_pos (show cb none < 0 by decide), e_Mo_crossest_68, if_pos (by decide), e_Mo_crossest_94, if_pos (by decide), show nI i + 1 = nI (i + 1) from q_add i 1]
        rfl
      | some q =>
        have hq := crs_lt hc
        obtain ⟨J1, g1, g2, g3⟩ := xGo (h := h) (L' := L) (d + 94) hw hi p1 hi'
        obtain ⟨J2, k1, k2, k3⟩ := xGo (h := h) (L' := L) (d + 94) hw hi g2 (show q.1 < 8 by omega)
        rw [hgk] at g1 k1
        refine Or.inl ⟨J2, ?_, k2, by rw [k3 139 (by simp), g3 139 (by simp)]; exact p2⟩
        rw [if_neg (show ¬ cb (some q) < 0 from q_nn (by omega)), g1, k_I, k_1, k_2, k_3, show cb (some q) = nI q.1 from rfl, k1, k_I, k_1, k_2, k_3, e_Int_compare_0]
        by_cases c1 : g q.1 < g i
        · have n1 : ¬ g i < g q.1 := fun z => by rw [Int32.lt_iff_toInt_lt] at z c1; omega
          have n2 : ¬ g i = g q.1 := fun z => by rw [z, Int32.lt_iff_toInt_lt] at c1; omega
          rw [if_neg n1, if_neg n2, k_I, k_1, k_2, k_3, e_Mo_crossest_68, if_pos (by decide), e_Mo_crossest_94, if_pos (by decide), show nI i + 1 = nI (i + 1) from q_add i 1]
          simp only [if_pos c1]; rfl
        · by_cases c2 : g i = g q.1
          · have n1 : ¬ g i < g q.1 := fun z => by rw [c2, Int32.lt_iff_toInt_lt] at z; omega
            rw [if_neg n1, if_pos c2, k_I, k_1, k_2, k_3, e_Mo_crossest_68, if_neg (by decide), if_pos rfl, show (.int 1 : Value) = .int (fl true) from rfl, c_Mo_flag (d + 98), k_I, k_1, k_2, k_3, e_Mo_crossest_94, if_neg (by decide), show nI i + 1 = nI (i + 1) from q_add i 1, show cc (some q) + fl true = nI (q.2 + 1) from q_add q.2 1]
            simp only [if_neg c1, if_pos c2]; rfl
          · have n1 : g i < g q.1 := by
              rw [Int32.lt_iff_toInt_lt] at c1 ⊢
              have : (g i).toInt ≠ (g q.1).toInt := fun z => c2 ((fa_eq _ _).mpr z)
              omega
            rw [if_pos n1, k_I, k_1, k_2, k_3, e_Mo_crossest_68, if_neg (by decide), if_neg (by decide), show (.int 0 : Value) = .int (fl false) from rfl, c_Mo_flag (d + 98), k_I, k_1, k_2, k_3, e_Mo_crossest_94, if_neg (by decide), show nI i + 1 = nI (i + 1) from q_add i 1, show cc (some q) + fl false = nI q.2 from q_add q.2 0]
            simp only [if_neg c1, if_neg c2]; rfl
  cases hc : crs u g 8 with
  | none =>
    rw [hc] at lC lM
    refine ⟨-2, aRw A, hw.2.1, qC_no (fun I L hi => ?_), qM_no (fun I L hi => ?_)⟩
    · obtain ⟨K, e, f, k⟩ := lC I L hi
      refine ⟨K, ?_, f, k⟩
      rw [e, e_SL_crossest_21, if_neg (by decide), if_pos (show cb none = -2 from rfl)]
      rfl
    · obtain ⟨K, e, f, k⟩ := lM I L hi
      refine ⟨K, ?_, f, k⟩
      rw [e, e_Mo_crossest_22, if_neg (by decide), if_pos (show cb none < 0 by decide)]
      rfl
  | some q =>
    have hq := crs_lt hc
    rw [hc] at lC lM
    refine ⟨nI q.1, snoc (snoc nil0 (g q.1).toInt64) (nI q.2).toInt64, show 2 ≤ 9 by decide, fun I L hi => ?_, fun I L hi => ?_⟩
    · obtain ⟨K, e, f, _⟩ := lC I L hi
      obtain ⟨K2, L2, e2, x2, l2, r2⟩ := t_two (h := h) (I := K) (L := L) (x := (g q.1).toInt64) (y := (nI q.2).toInt64) (d + 97)
      refine ⟨(K2, L2), ?_, f.x x2 (by simp [scC]), r2, l2 140 (by omega)⟩
      rw [e, e_SL_crossest_21, if_neg (by decide), if_neg (show ¬ cb (some q) = -2 from fun z => absurd (show nI q.1 < 0 by rw [show nI q.1 = -2 from z]; decide) (q_nn (by omega)))]
      show ev_cV (ev_do (d + 99) M_Row_tellTwo [.ref 3, .long (g q.1).toInt64, .long (nI q.2).toInt64] (ev_mk h K L)) _ = _
      rw [e2, k_V, k_1, k_2, k_3]
      rfl
    · obtain ⟨K, e, f, _⟩ := lM I L hi
      obtain ⟨K1, g1, g2, g3⟩ := xGo (h := h) (L' := L) (d + 94) hw hi (f.t1 0) (show q.1 < 8 by omega)
      rw [hgk] at g1
      obtain ⟨K2, L2, e2, x2, n2, l2, r2⟩ := t_enters (h := h) (I := K1) (x := (g q.1).toInt64) (d + 98) ((rwM.nil (I := K) (L := L)).of (by rw [g3 139 (by simp)]) rfl) (show 0 < 24 by decide)
      obtain ⟨K3, L3, e3, x3, n3, l3, r3⟩ := t_enters (h := h) (x := (nI q.2).toInt64) (d + 98) r2 (show 1 < 24 by decide)
      refine ⟨(K3, L3), ?_, (g2.e x2 n2).e x3 n3, r3, (l3 4 (by omega)).trans (l2 4 (by omega))⟩
      rw [e, e_Mo_crossest_22, if_neg (by decide), if_neg (show ¬ cb (some q) < 0 from q_nn (by omega)), show cb (some q) = nI q.1 from rfl, g1, k_I, k_1, k_2, k_3, e2, k_V, k_1, k_2, k_3, show cc (some q) = nI q.2 from rfl, e3, k_V, k_1, k_2, k_3]
end OQ
