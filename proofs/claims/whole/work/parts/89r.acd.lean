/-! A rule read by the class: a sign that is no digit. -/
section QB
variable {h : Bool × Nat × Nat} {K : Nat → Nat → Int32} {L : Nat → Nat → Int64}
theorem rS.z {C S : List Nat} {dep dg : Nat} {cm : Nat → Bool} {wt : Bool} (hR : rS K (C, S, dep, cm, dg, wt)) : rS (ev_up K 105 6 0) (C, S, dep, cm, 0, wt) := by
  obtain ⟨⟨hC, hS, h2⟩, ⟨h5, hd, h8⟩, h6, hg, h7, hn⟩ := hR
  exact ⟨⟨hC.ex (u_j (by omega)) (u_cf (by omega)), hS.ex (u_j (by omega)) (u_cf (by omega)), h2⟩, ⟨(u_j (by omega)).trans h5, hd, fun i hi => (u_c (by omega)).trans (h8 i hi)⟩, u_at _ _ _ _, Nat.zero_le _, (u_j (by omega)).trans h7, fun z => absurd rfl z⟩
theorem c_popE (d : Nat) {S : List Nat} (hS : wtC K S) (hl : S.length ≤ 40) : ∃ x K', ev_do (d + 1) M_Rule_pop [.ref 105] (ev_mk h K L) = ev_ri x (ev_mk h K' L) ∧ wtC K' S.tail ∧ exc [105, 107] K K' ∧ ∀ b, b ≠ 3 → K' 105 b = K 105 b := by
  cases S with
  | nil =>
    refine ⟨0, K, ?_, hS, exc.rf, fun _ _ => rfl⟩
    rw [e_Rule_pop_0 (hk0 := Or.inr rfl), show K 105 3 = 0 from hS.1, if_pos rfl]
  | cons c S =>
    obtain ⟨K1, e1, s1, x1, n1⟩ := c_popC (h := h) (L := L) d hS (by simp at hl; omega)
    exact ⟨nI c, K1, e1, s1, x1, n1⟩
theorem c_closes (d : Nat) {C S : List Nat} {dep : Nat} {cm : Nat → Bool} (hR : rS K (C, S, dep, cm, 0, false)) (hl : C.length + S.length ≤ 40) (h0 : dep ≠ 0) : ∃ K', ev_do (d + 3) M_Rule_closes [.ref 105] (ev_mk h K L) = ev_ri 1 (ev_mk h K' L) ∧ exc [105, 106, 107, 108] K K' ∧ rS K' (C ++ (tW 1 S).map tkS, (dW 1 S).tail, dep - 1, cm, 0, false) := by
  obtain ⟨⟨hC, hS, h2⟩, ⟨h5, hd, h8⟩, h6, hg, h7, hn⟩ := hR
  dsimp only at hC hS h2 h5 hd h8 h6 hg h7 hn
  have hle := tdl 1 S
  obtain ⟨K2, e2, c2, s2, f2⟩ := c_md (h := h) (L := L) (K := ev_up K 105 5 (nI (dep - 1))) (d := d) (w := 1) (by omega) (by omega) (hC.ex (u_j (by omega)) (u_cf (by omega))) (hS.ex (u_j (by omega)) (u_cf (by omega))) h2 hl
  obtain ⟨x, K3, e3, s3, x3, n3⟩ := c_popE (h := h) (L := L) (d + 1) s2 (by omega)
  refine ⟨K3, ?_, ?_, ⟨⟨c2.ex (n3 1 (by omega)) (x3 106 (by simp)), s3, fun c hc => h2 c (dW_in (List.mem_of_mem_tail hc))⟩, ⟨?_, by show dep - 1 ≤ 4; omega, fun i hi => ?_⟩, ?_, Nat.zero_le _, ?_, fun z => absurd rfl z⟩⟩
  · rw [e_Rule_closes_0, h5, if_neg (show ¬ nI dep = 0 from fun z => h0 ((q_eq (b := 0) (by omega) (by omega)).mp z)), show nI dep - 1 = nI (dep - 1) from q_sub (b := 1) (by omega), show (.int 1 : Value) = .int (nI 1) from rfl, e2, k_V, k_1, k_2, k_3, e3, k_I, k_1, k_2, k_3]
  · exact ((exc.rf.up (by simp)).tr (f2.1.mono (by simp))).tr (x3.mono (by simp))
  · rw [n3 5 (by omega), f2.2 5 (by omega) (by omega), u_at]
  · have hi' : i ≤ dep - 1 := hi
    rw [x3 108 (by simp), f2.1 108 (by simp), u_c (by omega)]; exact h8 i (by omega)
  · rw [n3 6 (by omega), f2.2 6 (by omega) (by omega), u_j (by omega)]; exact h6
  · rw [n3 7 (by omega), f2.2 7 (by omega) (by omega), u_j (by omega)]; exact h7
theorem c_opens (d : Nat) {C S : List Nat} {dep : Nat} {cm : Nat → Bool} (hR : rS K (C, S, dep, cm, 0, true)) (hl : C.length + S.length < 40) (h0 : dep ≠ 4) : ∃ K', ev_do (d + 2) M_Rule_opens [.ref 105] (ev_mk h K L) = ev_ri 1 (ev_mk h K' L) ∧ exc [105, 106, 107, 108] K K' ∧ rS K' (C, 40 :: S, dep + 1, (fun i => if i = dep + 1 then false else cm i), 0, true) := by
  obtain ⟨⟨hC, hS, h2⟩, ⟨h5, hd, h8⟩, h6, hg, h7, hn⟩ := hR
  dsimp only at hC hS h2 h5 hd h8 h6 hg h7 hn
  have hS' : wtC (ev_up (ev_up K 105 5 (nI (dep + 1))) 108 (dep + 1) 0) S := hS.ex (by rw [u_c (by omega), u_j (by omega)]) (by rw [u_cf (by omega), u_cf (by omega)])
  obtain ⟨K2, e2, s2, x2, n2⟩ := c_pushC (h := h) (L := L) (c := 40) d hS' (by omega)
  refine ⟨K2, ?_, ?_, ⟨⟨hC.ex ?_ ?_, s2, fun c hc => ?_⟩, ⟨?_, by show dep + 1 ≤ 4; omega, fun i hi => ?_⟩, ?_, Nat.zero_le _, ?_, fun z => absurd rfl z⟩⟩
  · rw [e_Rule_opens_0, h5, if_neg (show ¬ nI dep = 4 from fun z => h0 ((q_eq (b := 4) (by omega) (by omega)).mp z)), show nI dep + 1 = nI (dep + 1) from q_add _ 1, q_in (by omega), if_pos (by simp <;> omega), q_cl (by omega), show (.int 40 : Value) = .int (nI 40) from rfl, e2, k_V, k_1, k_2, k_3]
  · exact ((exc.rf.up (by simp)).up (by simp)).tr (x2.mono (by simp))
  · rw [n2 1 (by omega), u_c (by omega), u_j (by omega)]
  · rw [x2 106 (by simp), u_cf (by omega), u_cf (by omega)]
  · rcases List.mem_cons.mp hc with e | e
    · rw [e]; decide
    · exact h2 c e
  · rw [n2 5 (by omega), u_c (by omega), u_at]
  · have hi' : i ≤ dep + 1 := hi
    show K2 108 i = fl (if i = dep + 1 then false else cm i)
    rw [x2 108 (by simp)]
    by_cases z : i = dep + 1
    · rw [if_pos z, z, u_at]; rfl
    · rw [if_neg z, u_j z, u_c (by omega)]; exact h8 i (by omega)
  · rw [n2 6 (by omega), u_c (by omega), u_j (by omega)]; exact h6
  · rw [n2 7 (by omega), u_c (by omega), u_j (by omega)]; exact h7
theorem c_acBet (d : Nat) {C S : List Nat} {dep c : Nat} {cm : Nat → Bool} (hc : c < 256) (hR : rS K (C, S, dep, cm, 0, false)) (hl : C.length + S.length < 40) : ∃ K', ev_do (d + 3) M_Rule_acceptsBetween [.ref 105, .int (nI c)] (ev_mk h K L) = ev_ri (fl (!(decide (rkC c = 0) || (decide (rkC c = 1) && cm dep)))) (ev_mk h K' L) ∧ exc [105, 106, 107, 108] K K' ∧ ((decide (rkC c = 0) || (decide (rkC c = 1) && cm dep)) = false → rS K' (C ++ (tW (rkC c) S).map tkS, c :: dW (rkC c) S, dep, (fun i => if i = dep then (cm i || decide (rkC c = 1)) else cm i), 0, true)) := by
  obtain ⟨⟨hC, hS, h2⟩, ⟨h5, hd, h8⟩, h6, hg, h7, hn⟩ := hR
  dsimp only at hC hS h2 h5 hd h8 h6 hg h7 hn
  have hr4 : rkC c ≤ 4 := rkC_le c
  have h8d : K 108 dep = fl (cm dep) := h8 dep (Nat.le_refl _)
  by_cases zb : (decide (rkC c = 0) || (decide (rkC c = 1) && cm dep)) = true
  · refine ⟨K, ?_, exc.rf, fun z => by rw [zb] at z; cases z⟩
    rw [e_Rule_acceptsBetween_0, c_rankOf (d + 1) (show c < 257 by omega), k_I, k_1, k_2, k_3, zb]
    by_cases y : rkC c = 0
    · rw [y, if_pos (show nI 0 = 0 from rfl)]; rfl
    · rw [decide_eq_false y, Bool.false_or, Bool.and_eq_true, decide_eq_true_iff] at zb
      rw [if_neg (show ¬ nI (rkC c) = 0 from fun z => y ((q_eq (b := 0) (by omega) (by omega)).mp z)), zb.1, if_pos (show nI 1 = 1 from rfl), h5, q_in (by omega), if_pos (by simp <;> omega), q_cl (by omega), h8d, zb.2, if_neg (show ¬ fl true = 0 by decide)]; rfl
  · have zf : (decide (rkC c = 0) || (decide (rkC c = 1) && cm dep)) = false := by
      cases hb : (decide (rkC c = 0) || (decide (rkC c = 1) && cm dep)) with
      | false => rfl
      | true => exact absurd hb zb
    have y0 : rkC c ≠ 0 := fun y => by rw [decide_eq_true y] at zf; cases zf
    have y1 : rkC c = 1 → cm dep = false := fun y => by rw [decide_eq_true y, decide_eq_false y0, Bool.false_or, Bool.true_and] at zf; exact zf
    have hle := tdl (rkC c) S
    obtain ⟨v, hv⟩ : ∃ v : Bool, v = (cm dep || decide (rkC c = 1)) := ⟨_, rfl⟩
    have hS' : wtC (ev_up K 108 dep (fl v)) S := hS.ex (u_c (by omega)) (u_cf (by omega))
    obtain ⟨K2, e2, c2, s2, f2⟩ := c_md (h := h) (L := L) (K := ev_up K 108 dep (fl v)) (d := d) (w := rkC c) (by omega) (by omega) (hC.ex (u_c (by omega)) (u_cf (by omega))) hS' h2 (by omega)
    obtain ⟨K3, e3, s3, x3, n3⟩ := c_pushC (h := h) (L := L) (c := c) (d + 1) s2 (by omega)
    refine ⟨ev_up K3 105 7 1, ?_, (((exc.rf.up (by simp)).tr (f2.1.mono (by simp))).tr (x3.mono (by simp))).up (by simp), fun _ => ?_⟩
    · have h58 : ev_at (d + 2) M_Rule_acceptsBetween 58 [.ref 105, .int (nI c), .int (nI (rkC c))] [.int (fl v), .int (nI dep), .ref 108] (ev_mk h K L) = ev_ri 1 (ev_mk h (ev_up K3 105 7 1) L) := by
        rw [e_Rule_acceptsBetween_58, q_in (by omega), if_pos (by simp <;> omega), q_cl (by omega), show vp_nar .boolean (fl v) = fl v by cases v <;> decide, e2, k_V, k_1, k_2, k_3, e3, k_V, k_1, k_2, k_3]
      have h28 : ev_at (d + 2) M_Rule_acceptsBetween 28 [.ref 105, .int (nI c), .int (nI (rkC c))] [] (ev_mk h K L) = ev_ri 1 (ev_mk h (ev_up K3 105 7 1) L) := by
        rw [e_Rule_acceptsBetween_28, h5, q_in (by omega), if_pos (by simp <;> omega), q_cl (by omega), h8d]
        cases hcm : cm dep with
        | true =>
          rw [if_neg (show ¬ fl true = 0 by decide)]
          rw [hcm, Bool.true_or] at hv
          rw [hv] at h58; exact h58
        | false =>
          rw [if_pos (show fl false = 0 from rfl)]
          rw [hcm, Bool.false_or] at hv
          by_cases y : rkC c = 1
          · rw [decide_eq_true y] at hv
            rw [hv] at h58
            rw [if_pos (show nI (rkC c) = 1 by rw [y]; rfl)]; exact h58
          · rw [decide_eq_false y] at hv
            rw [hv] at h58
            rw [if_neg (show ¬ nI (rkC c) = 1 from fun z => y ((q_eq (b := 1) (by omega) (by omega)).mp z))]; exact h58
      rw [e_Rule_acceptsBetween_0, c_rankOf (d + 1) (show c < 257 by omega), k_I, k_1, k_2, k_3, zf, if_neg (show ¬ nI (rkC c) = 0 from fun z => y0 ((q_eq (b := 0) (by omega) (by omega)).mp z))]
      by_cases y : rkC c = 1
      · rw [if_pos (show nI (rkC c) = 1 by rw [y]; rfl), h5, q_in (by omega), if_pos (by simp <;> omega), q_cl (by omega), h8d, y1 y, if_pos (show fl false = 0 from rfl), h28]; rfl
      · rw [if_neg (show ¬ nI (rkC c) = 1 from fun z => y ((q_eq (b := 1) (by omega) (by omega)).mp z)), h28]; rfl
    · refine ⟨⟨c2.ex ?_ ?_, s3.ex (u_j (by omega)) (u_cf (by omega)), fun a ha => ?_⟩, ⟨?_, hd, fun i hi => ?_⟩, ?_, Nat.zero_le _, u_at _ _ _ _, fun z => absurd rfl z⟩
      · rw [u_j (by omega), n3 1 (by omega)]
      · rw [u_cf (by omega), x3 106 (by simp)]
      · rcases List.mem_cons.mp ha with e | e
        · omega
        · exact h2 a (dW_in e)
      · rw [u_j (by omega), n3 5 (by omega), f2.2 5 (by omega) (by omega), u_c (by omega)]; exact h5
      · show ev_up K3 105 7 1 108 i = fl (if i = dep then (cm i || decide (rkC c = 1)) else cm i)
        rw [u_c (by omega), x3 108 (by simp), f2.1 108 (by simp)]
        by_cases z : i = dep
        · rw [if_pos z, z, u_at, hv]
        · rw [if_neg z, u_j z]; exact h8 i hi
      · rw [u_j (by omega), n3 6 (by omega), f2.2 6 (by omega) (by omega), u_c (by omega)]; exact h6
theorem cT_thk : ∀ k, k < 7 → (-1 : Int32) - nI k = cT (1000 + k) := by decide +kernel
theorem ix0_lt {c k : Nat} (hk : ixO str0 c = some k) : k < 7 := (fs_some hk).1
theorem ix0_ne {c k : Nat} (hk : ixO str0 c = some k) : 100 ≤ c := by
  have h1 := fs_some hk
  have h2 : k < 7 := h1.1
  have h3 : decide (str0.getD k 0 = c) = true := h1.2
  rw [decide_eq_true_iff] at h3
  have : ∀ k, k < 7 → 100 ≤ str0.getD k 0 := by decide
  rw [← h3]; exact this k h2
/-- one sign read by the class -/
theorem c_accepts (d : Nat) {s : aQ} {c : Nat} (hR : rS K s) (hl : s.1.length + s.2.1.length < 40) (hc : c < 256) : ∃ K', ev_do (d + 7) M_Rule_accepts [.ref 105, .int (nI c)] (ev_mk h K L) = ev_ri (fl (ac s c).isSome) (ev_mk h K' L) ∧ aOK K K' s (ac s c) := by
  have hfit : ∀ b : Bool, ev_fit .boolean (fl b) = true := fun b => by cases b <;> decide
  rw [e_Rule_accepts_0]
  by_cases hd : isDg c = true
  · have hcc := dg_lo hd
    obtain ⟨K1, e1, o1⟩ := c_accDigit (h := h) (L := L) (d + 4) hR hl hd
    refine ⟨K1, ?_, o1⟩
    rw [if_neg (show ¬ nI c < 48 from fun z => absurd ((q_lt (b := 48) (by omega) (by omega)).mp z) (by omega)), if_neg (show ¬ (57 : Int32) < nI c from fun z => absurd ((q_lt (a := 57) (by omega) (by omega)).mp z) (by omega)), show nI c - 48 = nI (c - 48) from q_sub (b := 48) (by omega), e1, k_I, k_1, k_2, k_3, if_pos (hfit _)]
  · have hcc : c < 48 ∨ 57 < c := by
      by_cases a : c < 48
      · exact Or.inl a
      · by_cases b : 57 < c
        · exact Or.inr b
        · exact absurd (show isDg c = true by unfold isDg; rw [decide_eq_true (show 48 ≤ c by omega), decide_eq_true (show c ≤ 57 by omega)]; rfl) hd
    have e21 : ∀ o, ev_at (d + 6) M_Rule_accepts 21 [.ref 105, .int (nI c), .float 0] [] (ev_mk h K L) = o → (if nI c < 48 then ev_at (d + 6) M_Rule_accepts 21 [.ref 105, .int (nI c), .float 0] [] (ev_mk h K L) else (if (57 : Int32) < nI c then ev_at (d + 6) M_Rule_accepts 21 [.ref 105, .int (nI c), .float 0] [] (ev_mk h K L) else ev_cI (ev_do (d + 6) M_Rule_acceptsDigit [.ref 105, .int (nI c - 48)] (ev_mk h K L)) (fun v2 s1 => (if ev_fit .boolean v2 then ev_ri v2 (ev_mk s1.1.2 s1.2.1 s1.2.2.1) else none)))) = o := by
      intro o ho
      rcases hcc with a | a
      · rw [if_pos (show nI c < 48 from (q_lt (b := 48) (by omega) (by omega)).mpr a)]; exact ho
      · rw [if_neg (show ¬ nI c < 48 from fun z => absurd ((q_lt (b := 48) (by omega) (by omega)).mp z) (by omega)), if_pos (show (57 : Int32) < nI c from (q_lt (a := 57) (by omega) (by omega)).mpr a)]; exact ho
    obtain ⟨C, S, dep, cm, dg, wt⟩ := s
    have hz := hR.z
    have h7 : K 105 7 = fl wt := hR.2.2.2.2.1
    have hl' : C.length + S.length < 40 := hl
    have x0 : exc [105, 106, 107, 108] K (ev_up K 105 6 0) := exc.rf.up (by simp)
    cases wt with
    | false =>
      by_cases h41 : c = 41
      · by_cases h0 : dep = 0
        · have ha : ac (C, S, dep, cm, dg, false) c = none := by
            unfold ac; rw [if_neg hd, if_pos rfl, if_pos h41]; exact if_pos h0
          refine ⟨ev_up K 105 6 0, e21 _ ?_, x0, fun s' hs' => by rw [ha] at hs'; cases hs'⟩
          have h5 : (ev_up K 105 6 0) 105 5 = 0 := by rw [hz.2.1.1]; show nI dep = 0; rw [h0]; rfl
          rw [e_Rule_accepts_21, h7, if_pos (show fl false = 0 from rfl), if_pos (show nI c = 41 by rw [h41]; rfl), e_Rule_closes_0, h5, if_pos rfl, k_I, k_1, k_2, k_3, ha, if_pos (by decide)]; rfl
        · have ha : ac (C, S, dep, cm, dg, false) c = some (C ++ (tW 1 S).map tkS, (dW 1 S).tail, dep - 1, cm, 0, false) := by
            unfold ac; rw [if_neg hd, if_pos rfl, if_pos h41]; exact if_neg h0
          obtain ⟨K1, e1, x1, r1⟩ := c_closes (h := h) (L := L) (d + 3) hz (by omega) h0
          refine ⟨K1, e21 _ ?_, x0.tr x1, fun s' hs' => ?_⟩
          · rw [e_Rule_accepts_21, h7, if_pos (show fl false = 0 from rfl), if_pos (show nI c = 41 by rw [h41]; rfl), e1, k_I, k_1, k_2, k_3, ha, if_pos (by decide)]; rfl
          · rw [ha] at hs'; cases hs'
            refine ⟨r1, ?_⟩
            have := tdl 1 S
            show (C ++ (tW 1 S).map tkS).length + (dW 1 S).tail.length ≤ C.length + S.length + 1
            simp; omega
      · obtain ⟨K1, e1, x1, r1⟩ := c_acBet (h := h) (L := L) (d + 3) hc hz hl'
        have ho : ac (C, S, dep, cm, dg, false) c = if (decide (rkC c = 0) || (decide (rkC c = 1) && cm dep)) = true then none else some (C ++ (tW (rkC c) S).map tkS, c :: dW (rkC c) S, dep, (fun i => if i = dep then (cm i || decide (rkC c = 1)) else cm i), 0, true) := by
          unfold ac; rw [if_neg hd, if_pos rfl, if_neg h41]
          dsimp only
          by_cases y0 : rkC c = 0
          · rw [if_pos y0, if_pos (by rw [decide_eq_true y0]; rfl)]
          · rw [if_neg y0]
            by_cases y1 : rkC c = 1 ∧ cm dep = true
            · rw [if_pos y1, if_pos (by rw [decide_eq_true y1.1, y1.2]; simp)]
            · rw [if_neg y1, if_neg (fun z => y1 (by simpa [y0] using z))]
        cases hb : (decide (rkC c = 0) || (decide (rkC c = 1) && cm dep)) with
        | true =>
          rw [hb, if_pos rfl] at ho
          refine ⟨K1, e21 _ ?_, x0.tr x1, fun s' hs' => by rw [ho] at hs'; cases hs'⟩
          rw [e_Rule_accepts_21, h7, if_pos (show fl false = 0 from rfl), if_neg (show ¬ nI c = 41 from fun z => h41 ((q_eq (b := 41) (by omega) (by omega)).mp z)), e1, k_I, k_1, k_2, k_3, ho, hb, if_pos (hfit _)]; rfl
        | false =>
          rw [hb, if_neg (by decide)] at ho
          refine ⟨K1, e21 _ ?_, x0.tr x1, fun s' hs' => ?_⟩
          · rw [e_Rule_accepts_21, h7, if_pos (show fl false = 0 from rfl), if_neg (show ¬ nI c = 41 from fun z => h41 ((q_eq (b := 41) (by omega) (by omega)).mp z)), e1, k_I, k_1, k_2, k_3, ho, hb, if_pos (hfit _)]; rfl
          · rw [ho] at hs'; cases hs'
            refine ⟨r1 hb, ?_⟩
            have := tdl (rkC c) S
            show (C ++ (tW (rkC c) S).map tkS).length + (c :: dW (rkC c) S).length ≤ C.length + S.length + 1
            simp; omega
    | true =>
      have ha0 : ac (C, S, dep, cm, dg, true) c = if c = 45 then some (C, 256 :: S, dep, cm, 0, true) else if c = 40 then (if dep = 4 then none else some (C, 40 :: S, dep + 1, (fun i => if i = dep + 1 then false else cm i), 0, true)) else match ixO str0 c with
          | none => none
          | some k => some (C ++ [1000 + k], S, dep, cm, 0, false) := by
        unfold ac; rw [if_neg hd, if_neg (show ¬ (true = false) by decide)]
        rfl
      by_cases h45 : c = 45
      · rw [if_pos h45] at ha0
        obtain ⟨K1, e1, s1, x1, n1⟩ := c_pushC (h := h) (L := L) (c := 256) (d + 5) hz.1.2.1 (by show S.length < 40; omega)
        refine ⟨K1, e21 _ ?_, x0.tr (x1.mono (by simp)), fun s' hs' => ?_⟩
        · rw [e_Rule_accepts_21, h7, if_neg (show ¬ fl true = 0 by decide), if_pos (show nI c = 45 by rw [h45]; rfl), show (.int 256 : Value) = .int (nI 256) from rfl, e1, k_V, k_1, k_2, k_3, ha0]; rfl
        · rw [ha0] at hs'; cases hs'
          refine ⟨⟨⟨hz.1.1.ex (n1 1 (by omega)) (x1 106 (by simp)), s1, fun a ha => ?_⟩, ⟨(n1 5 (by omega)).trans hz.2.1.1, hz.2.1.2.1, fun i hi => by rw [x1 108 (by simp)]; exact hz.2.1.2.2 i hi⟩, (n1 6 (by omega)).trans hz.2.2.1, Nat.zero_le _, (n1 7 (by omega)).trans hz.2.2.2.2.1, fun z => absurd rfl z⟩, ?_⟩
          · rcases List.mem_cons.mp ha with e | e
            · omega
            · exact hz.1.2.2 a e
          · show C.length + (256 :: S).length ≤ C.length + S.length + 1
            simp; omega
      · rw [if_neg h45] at ha0
        have hn45 : ¬ nI c = 45 := fun z => h45 ((q_eq (b := 45) (by omega) (by omega)).mp z)
        by_cases h40 : c = 40
        · rw [if_pos h40] at ha0
          by_cases h4 : dep = 4
          · rw [if_pos h4] at ha0
            refine ⟨ev_up K 105 6 0, e21 _ ?_, x0, fun s' hs' => by rw [ha0] at hs'; cases hs'⟩
            have h5 : (ev_up K 105 6 0) 105 5 = 4 := by rw [hz.2.1.1]; show nI dep = 4; rw [h4]; rfl
            rw [e_Rule_accepts_21, h7, if_neg (show ¬ fl true = 0 by decide), if_neg hn45, if_pos (show nI c = 40 by rw [h40]; rfl), e_Rule_opens_0, h5, if_pos rfl, k_I, k_1, k_2, k_3, ha0, if_pos (by decide)]; rfl
          · rw [if_neg h4] at ha0
            obtain ⟨K1, e1, x1, r1⟩ := c_opens (h := h) (L := L) (d + 4) hz hl' h4
            refine ⟨K1, e21 _ ?_, x0.tr x1, fun s' hs' => ?_⟩
            · rw [e_Rule_accepts_21, h7, if_neg (show ¬ fl true = 0 by decide), if_neg hn45, if_pos (show nI c = 40 by rw [h40]; rfl), e1, k_I, k_1, k_2, k_3, ha0, if_pos (by decide)]; rfl
            · rw [ha0] at hs'; cases hs'
              refine ⟨r1, ?_⟩
              show C.length + (40 :: S).length ≤ C.length + S.length + 1
              simp; omega
        · rw [if_neg h40] at ha0
          have hn40 : ¬ nI c = 40 := fun z => h40 ((q_eq (b := 40) (by omega) (by omega)).mp z)
          have e0 := c_indexOf (h := h) (K := ev_up K 105 6 0) (L := L) (d + 1) hc
          cases hk : ixO str0 c with
          | none =>
            rw [hk] at ha0 e0
            refine ⟨ev_up K 105 6 0, e21 _ ?_, x0, fun s' hs' => by rw [ha0] at hs'; cases hs'⟩
            rw [e_Rule_accepts_21, h7, if_neg (show ¬ fl true = 0 by decide), if_neg hn45, if_neg hn40, e0, k_I, k_1, k_2, k_3, if_pos (show enc none < 0 by decide), ha0]; rfl
          | some k =>
            rw [hk] at ha0 e0
            have hk7 := ix0_lt hk
            obtain ⟨K1, e1, c1, x1, n1⟩ := c_emit (h := h) (L := L) (x := (-1 : Int32) - nI k) (d := d + 5) hz.1.1 (by show (C.map cT).length < 40; rw [List.length_map]; omega)
            refine ⟨ev_up K1 105 7 0, e21 _ ?_, (x0.tr (x1.mono (by simp))).up (by simp), fun s' hs' => ?_⟩
            · rw [e_Rule_accepts_21, h7, if_neg (show ¬ fl true = 0 by decide), if_neg hn45, if_neg hn40, e0, k_I, k_1, k_2, k_3, if_neg (show ¬ enc (some k) < 0 from q_nn (by omega)), show enc (some k) = nI k from rfl, e1, k_V, k_1, k_2, k_3, ha0]; rfl
            · have ha1 : ac (C, S, dep, cm, dg, true) c = some (C ++ [1000 + k], S, dep, cm, 0, false) := ha0
              rw [ha1] at hs'; cases hs'
              refine ⟨⟨⟨?_, ?_, hz.1.2.2⟩, ⟨?_, hz.2.1.2.1, fun i hi => ?_⟩, ?_, Nat.zero_le _, u_at _ _ _ _, fun z => absurd rfl z⟩, ?_⟩
              · show cdC _ ((C ++ [1000 + k]).map cT)
                rw [List.map_append, show [1000 + k].map cT = [(-1 : Int32) - nI k] by rw [cT_thk k hk7]; rfl]
                exact c1.ex (u_j (by omega)) (u_cf (by omega))
              · exact hz.1.2.1.ex (by rw [u_j (by omega), n1 3 (by omega)]) (by rw [u_cf (by omega), x1 107 (by simp)])
              · rw [u_j (by omega), n1 5 (by omega)]; exact hz.2.1.1
              · rw [u_c (by omega), x1 108 (by simp)]; exact hz.2.1.2.2 i hi
              · rw [u_j (by omega), n1 6 (by omega)]; exact hz.2.2.1
              · show (C ++ [1000 + k]).length + S.length ≤ C.length + S.length + 1
                simp; omega
end QB
