/-! year, both. -/
section YP
variable {h : Bool × Nat × Nat} {d : Nat} {I J K : Nat → Nat → Int32} {L : Nat → Nat → Int64} {A : aP}
theorem m1_neg {f : Nat} (hf : f < 1000) : (-1 : Int32) - nI f < 0 := by
  rw [Int32.lt_iff_toInt_lt, Int32.toInt_sub, q_ti (by omega), show (-1 : Int32).toInt = -1 by decide, show (0 : Int32).toInt = 0 by decide, Int.bmod_eq_of_le (by omega) (by omega)]; omega
theorem m1_ne {f : Nat} (hf : f < 1000) : ¬ nI f = -1 := fun z => absurd (show nI f < 0 by rw [z]; decide) (q_nn (by omega))
theorem flt_le {tx : Nat → Nat} {e p f : Nat} (hp : p < e) (h : flt tx e p = some f) : f ≤ e := by
  unfold flt at h
  split at h
  · cases h; omega
  · split at h
    · cases h; omega
    · rename_i h1 h2
      rw [Bool.not_eq_false, Bool.and_eq_true, decide_eq_true_iff] at h2
      split at h
      · cases h
      · split at h
        · cases h; omega
        · cases h
/-- the picture after a year's text was done -/
def yA (A : aP) (m n : Nat) : aP := sRw (sUn (sS (nT A) (sA A (aTx A).2 (if m < n then m + 1 else m))) (if 0 < m then (min ((aUn A).1 + 1) 15, psh (aS A) (aUn A).2) else aUn A)) (snoc (snoc nil0 (fl (decide (m < n))).toInt64) (sA A (aTx A).2 (if m < n then m + 1 else m) 24).toInt64)
theorem op_year (hi : inv I L) : okI h d M_SL_year M_Mo_year [] I L := by
  refine ok_of (fun A hw => ?_) hi
  have h8 := hw.1.1
  have h2 := hw.1.2
  have bad : ∀ f, f ≤ min 60 (aTx A).1 → (∀ (h : Bool × Nat × Nat) I L, invC I L A → ev_do (d + 99) M_Acts_faultIn [.ref 1] (ev_mk h I L) = ev_ri (nI f) (ev_mk h I L)) → (∀ (h : Bool × Nat × Nat) I L, invM I L A → ∃ K, ev_do (d + 100) M_Mo_year [.ref 139] (ev_mk h I L) = ev_ri (-1 - nI f) (ev_mk h K L) ∧ exc [139, 156, 157, 158] I K ∧ K 139 10 = 0 ∧ ∀ j, (j = 1 ∨ j = 3 ∨ j = 4 ∨ j = 20 ∨ j = 26 ∨ j = 35) → K 139 j = I 139 j) → ∃ v A', wfA A' ∧ hfC h d M_SL_year [] A A' v ∧ hfM h d M_Mo_year [] A A' v := by
    intro f hf hC hM
    refine ⟨-1 - nI f, nT A, nT_wf hw, fun I L hi => ⟨ev_up I 1 1 0, L, ?_, hi.nT, fun a ha => u_cf (by omega), rfl⟩, fun I L hi => ?_⟩
    · rw [e_SL_year_0, hC h I L hi, k_I, k_1, k_2, k_3, if_neg (m1_ne (by omega))]
    · obtain ⟨K, e1, x1, k1, n1⟩ := hM h I L hi
      refine ⟨K, L, e1, hi.tx (fun a ha => x1 a (by unfold scM at ha; simp <;> omega)) n1 ⟨k1, fun j hj => absurd hj (Nat.not_lt_zero _)⟩, fun a ha => x1 a (by simp <;> omega), rfl⟩
  have b0 : ∀ (h : Bool × Nat × Nat) I L, invM I L A → ∃ K0, ev_do (d + 100) M_Mo_year [.ref 139] (ev_mk h I L) = ev_at (d + 99) M_Mo_year 19 [.ref 139, .int (nI (aTx A).1), .int 1, .float 0, .float 0] [] (ev_mk h K0 L) ∧ rdM K0 (aTx A).2 (min 60 (aTx A).1) 0 ∧ K0 139 31 = 0 ∧ exc [139] I K0 ∧ K0 139 10 = 0 ∧ ∀ j, (j = 1 ∨ j = 3 ∨ j = 4 ∨ j = 20 ∨ j = 26 ∨ j = 35) → K0 139 j = I 139 j := by
    intro h I L hi
    have tm := hi.th.1
    refine ⟨ev_up (bgM (ev_up I 139 0 0) 60 (aTx A).1) 139 31 0, ?_, (bg_rd tm h8 h2).w (by omega) (by omega), u_at _ _ _ _, ((exc.rf.up (by simp)).tr (bg_ex _ _ _)).up (by simp), (u_j (by omega)).trans bg_10, fun j hj => by rw [u_j (by omega), bg_j (by omega), u_j (by omega)]⟩
    rw [e_Mo_year_0, show (.int 60 : Value) = .int (nI 60) from rfl, c_begins (d + 98) (by omega) h8 tm.1, k_I, k_1, k_2, k_3]
  rcases gdA_or (aTx A).2 (min 60 (aTx A).1) with ⟨i, f, hg, hq, hf⟩ | ⟨n, hg, hq⟩
  · have hfe := flt_le hq hf
    refine bad f hfe (fun h I L hi => (c_faultIn (d + 96) hi.1 h8 h2).1 i f hg hq hf) (fun h I L hi => ?_)
    obtain ⟨K0, e0, r0, z0, x0, k0, n0⟩ := b0 h I L hi
    obtain ⟨K1, e1, r1, g1, x1, n1, _⟩ := c_readM (h := h) (L := L) (sz := (aTx A).1) (d + 93) (by omega) r0 z0 i hg
    have hge := qA_ge (aTx A).2 i
    have := c_readsAct (h := h) (L := L) (d + 93) r1 hq (i := i) (by omega) g1
    rw [hf] at this
    obtain ⟨K2, e2, r2, x2⟩ := this
    refine ⟨K2, ?_, ((x0.mono (by simp)).tr x1).tr x2.1, by rw [x2.2.1 10 (by omega) (by omega), n1 10 (by omega) (by omega)]; exact k0, fun j hj => by rw [x2.2.1 j (by omega) (by omega), n1 j (by omega) (by omega)]; exact n0 j hj⟩
    rw [e0, e1, e_Mo_year_19, if_neg (show ¬ (1 : Int32) = 0 by decide), r1.1, r1.2.1, if_pos ((q_lt (by omega) (by omega)).mpr hq), e2, k_I, k_1, k_2, k_3, e_Mo_year_19, if_pos rfl, e_Mo_year_42, show (.int 60 : Value) = .int (nI 60) from rfl, show (.int 0 : Value) = .int (fl false) from rfl, c_faultOf (d + 98) (by omega) (by omega) r2, k_I, k_1, k_2, k_3, Bool.false_and]
    have er : (if 60 < (aTx A).1 ∧ ¬ (false = false ∧ f < 60) then -1 - nI 60 else if false = true then 0 else -1 - nI f) = -1 - nI f := by
      by_cases z : 60 < (aTx A).1 ∧ ¬ (false = false ∧ f < 60)
      · have : f = 60 := by
          have := z.2
          by_cases y : f < 60
          · exact absurd ⟨rfl, y⟩ this
          · omega
        rw [if_pos z, this]
      · rw [if_neg z, if_neg (by decide)]
    rw [er, if_pos (m1_neg (by omega))]
  · by_cases h6 : 60 < (aTx A).1
    · have em : min 60 (aTx A).1 = 60 := by omega
      refine bad 60 (by omega) (fun h I L hi => ?_) (fun h I L hi => ?_)
      · have := (c_faultIn (h := h) (L := L) (d + 96) hi.1 h8 h2).2 n hg hq
        rw [if_pos h6, em] at this
        exact this
      · obtain ⟨K0, e0, r0, z0, x0, k0, n0⟩ := b0 h I L hi
        obtain ⟨K1, e1, r1, g1, x1, n1, _⟩ := c_readM (h := h) (L := L) (sz := (aTx A).1) (d + 93) (by omega) r0 z0 n hg
        refine ⟨K1, ?_, (x0.mono (by simp)).tr x1, by rw [n1 10 (by omega) (by omega)]; exact k0, fun j hj => by rw [n1 j (by omega) (by omega)]; exact n0 j hj⟩
        rw [e0, e1, e_Mo_year_19, if_neg (show ¬ (1 : Int32) = 0 by decide), r1.1, r1.2.1, if_neg (fun z => absurd ((q_lt (by omega) (by omega)).mp z) (by omega)), e_Mo_year_42, show (.int 60 : Value) = .int (nI 60) from rfl, show (.int 1 : Value) = .int (fl true) from rfl, c_faultOf (d + 98) (by omega) (by omega) r1, k_I, k_1, k_2, k_3, hq, Bool.true_and, decide_eq_true rfl, if_pos (c := 60 < (aTx A).1 ∧ ¬ (true = false ∧ min 60 (aTx A).1 < 60)) ⟨h6, fun z => by cases z.1⟩, if_pos (m1_neg (by omega))]
    · have em : min 60 (aTx A).1 = (aTx A).1 := by omega
      rw [em] at hg hq
      obtain ⟨m, hm, hm1, hm2⟩ := sA_or A (aTx A).2 n
      have hge := qA_ge (aTx A).2 n
      have hws := sA_wf hw (aTx A).2 (if m < n then m + 1 else m)
      have hU : (if 0 < m then (min ((aUn A).1 + 1) 15, psh (aS A) (aUn A).2) else aUn A).1 ≤ 15 ∧ ∀ i, i < (if 0 < m then (min ((aUn A).1 + 1) 15, psh (aS A) (aUn A).2) else aUn A).1 → wfS (aBk A).2.1 ((if 0 < m then (min ((aUn A).1 + 1) 15, psh (aS A) (aUn A).2) else aUn A).2 i) := by
        by_cases z : 0 < m
        · rw [if_pos z]; exact ⟨by show min _ _ ≤ 15; omega, psh_wf hw.2.2.2.1 hw.2.2.2.2.2.1.2⟩
        · rw [if_neg z]; exact hw.2.2.2.2.2.1
      refine ⟨nI m, yA A m n, ((nT_wf hw).st (b := (if 0 < m then (min ((aUn A).1 + 1) 15, psh (aS A) (aUn A).2) else aUn A).1) (U := (if 0 < m then (min ((aUn A).1 + 1) 15, psh (aS A) (aUn A).2) else aUn A).2) hws hU.1 hU.2).rw (show 2 ≤ 9 by decide), fun I L hi => ?_, fun I L hi => ?_⟩
      · have e0 := (c_faultIn (h := h) (L := L) (d + 96) hi.1 h8 h2).2 n (by rw [em]; exact hg) (by rw [em]; exact hq)
        rw [if_neg h6] at e0
        have x1 := cpS_ex I 21 17
        have s1 : cSt 21 (cpS I 21 17) (aS A) := cpS_st (by omega) hi.2.2.2.1
        obtain ⟨K, e1, x2, r2, s2⟩ := c_runC (h := h) (d + 92) hw hi (by omega) hg hq hm hm1 hm2 x1 (hi.2.2.2.1.ex x1 (by simp) (by simp) (by simp) (by simp))
        have s21 : cSt 21 K (aS A) := s1.ex x2 (by simp) (by simp) (by simp) (by simp)
        have x12 : exc (21 :: 22 :: 23 :: 24 :: yX) I K := (x1.mono (by simp)).tr (x2.mono (by simp))
        have x3 : exc [1] K (ev_up K 1 1 0) := exc.rf.up (by simp)
        have r3 : K 101 1 = I 101 1 := by rw [r2, x1 101 (by simp)]
        have u0 : uC (ev_up K 1 1 0) (aUn A).1 (aUn A).2 := (hi.2.2.2.2.2.1.ex x12 (by intro a ha; simp <;> omega)).ex x3 (by intro a ha; simp <;> omega)
        have fin : ∀ (K2 : Nat → Nat → Int32) (kk : Nat), kk < 15 → exc [25, 29 + 4 * kk, 29 + 4 * kk + 1, 29 + 4 * kk + 2, 29 + 4 * kk + 3] (ev_up K 1 1 0) K2 → uC K2 (if 0 < m then (min ((aUn A).1 + 1) 15, psh (aS A) (aUn A).2) else aUn A).1 (if 0 < m then (min ((aUn A).1 + 1) 15, psh (aS A) (aUn A).2) else aUn A).2 → ∃ I1 L1, ev_at (d + 99) M_SL_year 133 [.ref 0, .float 0, .int (nI m), .int (fl (decide (m < n))), .float 0] [] (ev_mk h K2 L) = ev_ri (nI m) (ev_mk h I1 L1) ∧ invC I1 L1 (yA A m n) ∧ (∀ a, 139 ≤ a → I1 a = I a) ∧ L1 140 = L 140 := by
          intro K2 kk hkk x4 u4
          have s4 : cSt 17 K2 (sA A (aTx A).2 (if m < n then m + 1 else m)) := (s2.ex x3 (by simp) (by simp) (by simp) (by simp)).ex x4 (by simp <;> omega) (by simp <;> omega) (by simp <;> omega) (by simp <;> omega)
          obtain ⟨I3, L3, e3, x5, l3, t3⟩ := t_two (h := h) (I := K2) (L := L) (x := (fl (decide (m < n))).toInt64) (y := (sA A (aTx A).2 (if m < n then m + 1 else m) 24).toInt64) (d + 97)
          refine ⟨I3, L3, ?_, ?_, fun a ha => ?_, l3 140 (by omega)⟩
          · have e146 : ∀ b : Bool, ev_at (d + 99) M_SL_year 133 [.ref 0, .float 0, .int (nI m), .int (fl b), .float 0] [] (ev_mk h K2 L) = ev_at (d + 99) M_SL_year 146 [.ref 0, .float 0, .int (nI m), .float 0, .float 0] [.long (fl b).toInt64, .ref 3] (ev_mk h K2 L) := by
              intro b
              rw [e_SL_year_133]
              cases b
              · rw [if_pos (show fl false = 0 from rfl)]; rfl
              · rw [if_neg (show ¬ fl true = 0 by decide)]; rfl
            rw [e146, e_SL_year_146, s4.2.1, e3, k_V, k_1, k_2, k_3]
          · refine hi.nT.st (fun a ha => ?_) ?_ (fun w hw => ?_) (s4.ex x5 (by simp) (by simp) (by simp) (by simp)) (u4.ex x5 (by intro a ha; simp <;> omega)) t3
            · unfold scC at ha
              rw [x5 a (by simp <;> omega), x4 a (by simp <;> omega)]
              by_cases z : a = 1
              · subst z
                funext j
                by_cases y : j = 1
                · rw [y, u_at, u_at]
                · rw [u_j y, u_j y, x12 1 (by simp)]
              · rw [u_cf z, u_cf z, x12 a (by simp <;> omega)]
            · rw [x5 101 (by simp), x4 101 (by simp <;> omega), u_c (by omega), u_c (by omega)]; exact r3
            · rw [x5 127 (by simp), x4 127 (by simp <;> omega), u_c (by omega), u_c (by omega), x12 127 (by simp)]
          · rw [x5 a (by simp <;> omega), x4 a (by simp <;> omega), u_cf (by omega), x12 a (by simp <;> omega)]
        have e2 : ev_do (d + 100) M_SL_year [.ref 0] (ev_mk h I L) = ev_at (d + 99) M_SL_year 110 [.ref 0, .float 0, .int (nI m), .int (fl (decide (m < n))), .float 0] [] (ev_mk h K L) := by
          rw [e_SL_year_0, e0, k_I, k_1, k_2, k_3, if_pos rfl, c_copyT, k_V, k_1, k_2, k_3]
          exact e1
        by_cases z : 0 < m
        · obtain ⟨K2, kk, e4, hkk, x4, u4⟩ := c_remember (h := h) (L := L) (d + 97) (Or.inr rfl : 21 = 17 ∨ 21 = 21) u0 (s21.ex x3 (by simp) (by simp) (by simp) (by simp))
          obtain ⟨I1, L1, a1, a2, a3, a4⟩ := fin K2 kk hkk x4 (by rw [if_pos z]; exact u4)
          refine ⟨I1, L1, ?_, a2, a3, a4⟩
          rw [e2, e_SL_year_110, if_pos (show (0 : Int32) < nI m from (q_lt (a := 0) (by omega) (by omega)).mpr z), e4, k_V, k_1, k_2, k_3]
          exact a1
        · obtain ⟨I1, L1, a1, a2, a3, a4⟩ := fin (ev_up K 1 1 0) 0 (by omega) exc.rf (by rw [if_neg z]; exact u0)
          refine ⟨I1, L1, ?_, a2, a3, a4⟩
          rw [e2, e_SL_year_110, if_neg (show ¬ (0 : Int32) < nI m from fun y => z ((q_lt (a := 0) (by omega) (by omega)).mp y))]
          exact a1
      · obtain ⟨K0, e0, r0, z0, x0, k0, n0⟩ := b0 h I L hi
        rw [em] at r0
        obtain ⟨K1, e1, r1, g1, x1, n1, ac1⟩ := c_readM (h := h) (L := L) (sz := (aTx A).1) (d + 93) (by omega) r0 z0 n hg
        have x01 : exc [139, 156, 157, 158] I K1 := (x0.mono (by simp)).tr x1
        have n01 : ∀ j, (j = 1 ∨ j = 3 ∨ j = 4 ∨ j = 20 ∨ j = 26 ∨ j = 35) → K1 139 j = I 139 j := fun j hj => by rw [n1 j (by omega) (by omega)]; exact n0 j hj
        have k10 : K1 139 10 = 0 := by rw [n1 10 (by omega) (by omega)]; exact k0
        obtain ⟨K2, e2, x2, u2, m2⟩ := c_putsBy (h := h) (L := L) (d + 98) (hi.2.2.2.2.2.1.ex x01 (n01 26 (by omega)) (by simp)) (hi.2.2.2.1.ex x01 (by simp))
        have hB2 : bkM K2 (aBk A).1 (aBk A).2.1 (aBk A).2.2 := hi.2.2.1.th (fun a ha => by rw [x2 a (by simp <;> omega), x01 a (by simp <;> omega)]) (by rw [x2 139 (by simp)]; exact n01 3 (by omega))
        have hR2 : rlM2 K2 (aRl A).2 (aRl A).1 := hi.2.2.2.2.1.th (by rw [x2 149 (by simp), x01 149 (by simp)]) (by rw [x2 139 (by simp)]; exact n01 20 (by omega))
        have st : ∀ i K, i < n → exc yXM K2 K → mSt 143 0 K (sA A (aTx A).2 i) → ∃ K', ev_do (d + 99) M_Mo_does [.ref 139, .int (nI i)] (ev_mk h K L) = ev_ri (fl (!decide ((doA A (aTx A).2 (qA (aTx A).2 i) (sA A (aTx A).2 i)).1 < 0))) (ev_mk h K' L) ∧ exc yXM K2 K' ∧ mSt 143 0 K' (sA A (aTx A).2 (i + 1)) := by
          intro i K hi' p1 p2
          have ac := ac1 i hi'
          obtain ⟨K', a1, a2, a3⟩ := c_does (h := h) (L := L) (d + 90) hw (tx := (aTx A).2) (e := (aTx A).1) (p := qA (aTx A).2 i) (i := i) (J := K) (by omega) (hB2.ex p1 (by simp) (by simp) (by simp)) (hR2.ex p1 (by simp) (by simp)) ⟨by rw [p1 156 (by simp), x2 156 (by simp)]; exact ac.1, by rw [p1 157 (by simp), x2 157 (by simp)]; exact ac.2.1, fun w => by rw [p1 158 (by simp), x2 158 (by simp)]; exact ac.2.2 w⟩ h2 (hg i hi').2 p2 (sA_wf hw _ i)
          exact ⟨K', a1, p1.tr a2, a3⟩
        obtain ⟨K3, e3, p1, p2⟩ := lpF (F := fun i K => ev_at (d + 99) M_Mo_year 64 [.ref 139, .float 0, .float 0, .float 0, .int (nI i)] [] (ev_mk h K L)) (fun i K => exc yXM K2 K ∧ mSt 143 0 K (sA A (aTx A).2 i)) m (fun i K hi' ⟨p1, p2⟩ => by
          obtain ⟨K', a1, a2, a3⟩ := st i K (by omega) p1 p2
          refine ⟨K', ?_, a2, a3⟩
          show ev_at (d + 99) M_Mo_year 64 [.ref 139, .float 0, .float 0, .float 0, .int (nI i)] [] (ev_mk h K L) = _
          rw [e_Mo_year_64, show K 139 31 = nI n by rw [p1 139 (by simp), x2 139 (by simp)]; exact g1, if_pos ((q_lt (by omega) (by omega)).mpr (by omega)), a1, k_I, k_1, k_2, k_3, decide_eq_false (hm1 i hi'), if_neg (show ¬ fl (!false) = 0 by decide), show nI i + 1 = nI (i + 1) from q_add i 1]) K2 ⟨exc.rf, (hi.2.2.2.1.ex x01 (by simp)).ex x2 (by simp)⟩
        have e88 : ∃ K4, ev_at (d + 99) M_Mo_year 64 [.ref 139, .float 0, .float 0, .float 0, .int (nI m)] [] (ev_mk h K3 L) = ev_at (d + 99) M_Mo_year 88 [.ref 139, .float 0, .float 0, .float 0, .int (nI m)] [] (ev_mk h K4 L) ∧ exc yXM K2 K4 ∧ mSt 143 0 K4 (sA A (aTx A).2 (if m < n then m + 1 else m)) := by
          rcases hm2 with hm2 | ⟨hm2, hm3⟩
          · refine ⟨K3, ?_, p1, by rw [if_neg (by omega)]; exact p2⟩
            rw [e_Mo_year_64, show K3 139 31 = nI n by rw [p1 139 (by simp), x2 139 (by simp)]; exact g1, if_neg (fun z => absurd ((q_lt (by omega) (by omega)).mp z) (by omega))]
          · obtain ⟨K', a1, a2, a3⟩ := st m K3 hm2 p1 p2
            refine ⟨K', ?_, a2, by rw [if_pos hm2]; exact a3⟩
            rw [e_Mo_year_64, show K3 139 31 = nI n by rw [p1 139 (by simp), x2 139 (by simp)]; exact g1, if_pos ((q_lt (by omega) (by omega)).mpr hm2), a1, k_I, k_1, k_2, k_3, decide_eq_true hm3, if_pos (show fl (!true) = 0 by decide)]
        obtain ⟨K4, e4, x4, s4⟩ := e88
        obtain ⟨K5, L5, e5, x5, n5, l5, t5⟩ := t_enters (h := h) (x := (fl (decide (m < n))).toInt64) (d + 98) (rwM.nil (I := K4) (L := L)) (show 0 < 24 by decide)
        have s5 : mSt 143 0 K5 (sA A (aTx A).2 (if m < n then m + 1 else m)) := (s4.ex (exc.rf.up (by simp) : exc [139] K4 (ev_up K4 139 1 0)) (by simp)).ex x5 (by simp)
        obtain ⟨K6, L6, e6, x6, n6, l6, t6⟩ := t_enters (h := h) (x := (sA A (aTx A).2 (if m < n then m + 1 else m) 24).toInt64) (d + 98) t5 (show 1 < 24 by decide)
        have x46 : exc [139] K4 K6 := ((exc.rf.up (by simp)).tr x5).tr x6
        have n46 : ∀ j, j ≠ 1 → K6 139 j = K4 139 j := fun j hj => by rw [n6 j hj, n5 j hj, u_j hj]
        have s6 := s5.ex x6 (by simp)
        have u6 : uM K6 (aUn A).1 (aUn A).2 := (u2.ex x4 (by rw [x4 139 (by simp)]) (by simp)).ex x46 (n46 26 (by omega)) (by simp)
        have m6 : mSt 155 (27 * (aUn A).1) K6 (aS A) := (m2.ex x4 (by simp)).ex x46 (by simp)
        have n06 : ∀ j, (j = 3 ∨ j = 4 ∨ j = 20 ∨ j = 35) → K6 139 j = I 139 j := fun j hj => by rw [n46 j (by omega), x4 139 (by simp), x2 139 (by simp)]; exact n01 j (by omega)
        have k610 : K6 139 10 = 0 := by rw [n46 10 (by omega), x4 139 (by simp), x2 139 (by simp)]; exact k10
        have x06 : exc [139, 143, 151, 152, 153, 154, 155, 156, 157, 158] I K6 := (((x01.mono (by simp)).tr (x2.mono (by simp))).tr (x4.mono (by simp))).tr (x46.mono (by simp))
        have l46 : L6 4 = L 4 := by rw [l6 4 (by omega), l5 4 (by omega)]
        have fin : ∀ K7, exc [139, 155] K6 K7 → (∀ j, j ≠ 26 → K7 139 j = K6 139 j) → uM K7 (if 0 < m then (min ((aUn A).1 + 1) 15, psh (aS A) (aUn A).2) else aUn A).1 (if 0 < m then (min ((aUn A).1 + 1) 15, psh (aS A) (aUn A).2) else aUn A).2 → invM K7 L6 (yA A m n) ∧ ∀ a, a < 139 → K7 a = I a := by
          intro K7 x7 n7 u7
          refine ⟨hi.nT.st (fun a ha => ?_) (fun j hj => ?_) (s6.ex x7 (by simp)) u7 (t6.of (n7 1 (by omega)) rfl), fun a ha => by rw [x7 a (by simp <;> omega), x06 a (by simp <;> omega)]⟩
          · unfold scM at ha
            rw [x7 a (by simp <;> omega), x06 a (by simp <;> omega), u_cf (by omega)]
          · rw [n7 j (by omega)]
            by_cases z : j = 10
            · rw [z, u_at]; exact k610
            · rw [u_j z]; exact n06 j (by omega)
        have e7 : ev_do (d + 100) M_Mo_year [.ref 139] (ev_mk h I L) = (if (0 : Int32) < nI m then ev_cI (ev_do (d + 99) M_Mo_adds [.ref 139, .int (nI m)] (ev_mk h K6 L6)) (fun v6 s5 => ev_ri v6 (ev_mk s5.1.2 s5.2.1 s5.2.2.1)) else ev_ri 0 (ev_mk h K6 L6)) := by
          rw [e0, e1, e_Mo_year_19, if_neg (show ¬ (1 : Int32) = 0 by decide), r1.1, r1.2.1, if_neg (fun z => absurd ((q_lt (by omega) (by omega)).mp z) (by omega)), e_Mo_year_42, show (.int 60 : Value) = .int (nI 60) from rfl, show (.int 1 : Value) = .int (fl true) from rfl, c_faultOf (d + 98) (by omega) (by omega) r1, k_I, k_1, k_2, k_3, hq, Bool.true_and, decide_eq_true rfl, if_neg (c := 60 < (aTx A).1 ∧ ¬ (true = false ∧ (aTx A).1 < 60)) (fun z => h6 z.1), if_pos rfl, if_neg (show ¬ (0 : Int32) < 0 by decide), e2, k_V, k_1, k_2, k_3]
          refine e3.trans ?_
          show ev_at (d + 99) M_Mo_year 64 [.ref 139, .float 0, .float 0, .float 0, .int (nI m)] [] (ev_mk h K3 L) = _
          have e108 : ∀ b : Bool, ev_at (d + 99) M_Mo_year 108 [.ref 139, .float 0, .float 0, .float 0, .int (nI m)] [.int (fl b), .ref 139] (ev_mk h (ev_up K4 139 1 0) L) = ev_cV (ev_do (d + 99) M_Mo_enters [.ref 139, .long (fl b).toInt64] (ev_mk h (ev_up K4 139 1 0) L)) (fun s3 => ev_cV (ev_do (d + 99) M_Mo_enters [.ref 139, .long ((s3.2.1 143 24).toInt64)] (ev_mk s3.1.2 s3.2.1 s3.2.2.1)) (fun s4 => (if 0 < nI m then ev_cI (ev_do (d + 99) M_Mo_adds [.ref 139, .int (nI m)] (ev_mk s4.1.2 s4.2.1 s4.2.2.1)) (fun v6 s5 => ev_ri v6 (ev_mk s5.1.2 s5.2.1 s5.2.2.1)) else ev_ri 0 (ev_mk s4.1.2 s4.2.1 s4.2.2.1)))) := by
            intro b
            rw [e_Mo_year_108, c_Mo_flag (d + 98), k_I, k_1, k_2, k_3]
          have e88' : ev_at (d + 99) M_Mo_year 88 [.ref 139, .float 0, .float 0, .float 0, .int (nI m)] [] (ev_mk h K4 L) = ev_at (d + 99) M_Mo_year 108 [.ref 139, .float 0, .float 0, .float 0, .int (nI m)] [.int (fl (decide (m < n))), .ref 139] (ev_mk h (ev_up K4 139 1 0) L) := by
            rw [e_Mo_year_88, show K4 139 31 = nI n by rw [x4 139 (by simp), x2 139 (by simp)]; exact g1]
            by_cases z : m < n
            · rw [if_pos ((q_lt (by omega) (by omega)).mpr z), decide_eq_true z]; rfl
            · rw [if_neg (fun y => z ((q_lt (by omega) (by omega)).mp y)), decide_eq_false z]; rfl
          rw [e4, e88', e108, e5, k_V, k_1, k_2, k_3, s5.at (by omega), e6, k_V, k_1, k_2, k_3]
        by_cases z : 0 < m
        · obtain ⟨K7, a1, a2, a3, a4⟩ := c_adds (h := h) (L := L6) (x := nI m) (d + 98) u6 m6
          obtain ⟨f1, f2⟩ := fin K7 a2 a3 (by rw [if_pos z]; exact a4)
          refine ⟨K7, L6, ?_, f1, f2, l46⟩
          rw [e7, if_pos (show (0 : Int32) < nI m from (q_lt (a := 0) (by omega) (by omega)).mpr z), a1, k_I, k_1, k_2, k_3]
        · obtain ⟨f1, f2⟩ := fin K6 exc.rf (fun _ _ => rfl) (by rw [if_neg z]; exact u6)
          refine ⟨K6, L6, ?_, f1, f2, l46⟩
          rw [e7, if_neg (show ¬ (0 : Int32) < nI m from fun y => z ((q_lt (a := 0) (by omega) (by omega)).mp y)), show m = 0 by omega]; rfl
end YP
