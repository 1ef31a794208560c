/-! A rule read by the class: the answer. -/
section QD
variable {h : Bool × Nat × Nat} {K : Nat → Nat → Int32} {L : Nat → Nat → Int64}
theorem txC.ex {ks : List Nat} {K' : Nat → Nat → Int32} {t : Nat × (Nat → Nat)} (ht : txC K t) (x : exc ks K K') (h1 : 1 ∉ ks) (h2 : 2 ∉ ks) : txC K' t := by
  unfold txC; rw [x 1 h1, x 2 h2]; exact ht
def fin (e : Nat) (t : Nat × (Nat → Nat)) (r : Nat × Option aQ) : Int32 := match r.2 with
  | none => nI r.1
  | some s => if 40 < t.1 ∨ s.2.2.2.2.2 = true ∨ s.2.2.1 ≠ 0 then nI e else -1
theorem c_read29 (d : Nat) {t : Nat × (Nat → Nat)} {e : Nat} (h8 : t.1 ≤ 80) (h2 : ∀ j, j < t.1 → t.2 j < 256) (he : e = min 40 t.1) : ∀ n p (s : aQ) K, n + p = e → txC K t → rS K s → s.1.length + s.2.1.length ≤ p → ∃ K', ev_at (d + 8) M_Rule_read 29 [.ref 105, .ref 1, .int (nI e), .int (nI p)] [] (ev_mk h K L) = ev_ri (fin e t (ru t.2 n p s)) (ev_mk h K' L) ∧ exc [105, 106, 107, 108] K K' ∧ ∀ s', (ru t.2 n p s).2 = some s' → fin e t (ru t.2 n p s) = -1 → cdC K' ((s'.1 ++ (tW 1 s'.2.1).map tkS).map cT) := by
  intro n
  induction n with
  | zero =>
    intro p s K hp ht hR hl
    have hpe : p = e := by omega
    rw [ru]
    have hne : ¬ (nI e = -1) := fun z => absurd (show nI e < 0 by rw [z]; decide) (q_nn (by omega))
    obtain ⟨⟨hC, hS, h3⟩, ⟨h5, hd, h7⟩, h6, hg, h7', hn⟩ := hR
    rw [e_Rule_read_29, hpe, if_neg (fun z => absurd ((q_lt (by omega) (by omega)).mp z) (by omega)), ht.1]
    by_cases c1 : 40 < t.1
    · refine ⟨K, ?_, exc.rf, fun s' _ hf => absurd (show nI e = -1 from (if_pos (Or.inl c1)).symm.trans hf) hne⟩
      rw [if_pos (show (40 : Int32) < nI t.1 from (q_lt (a := 40) (by omega) (by omega)).mpr c1), show fin e t (e, some s) = nI e from if_pos (Or.inl c1)]
    · rw [if_neg (show ¬ (40 : Int32) < nI t.1 from fun z => c1 ((q_lt (a := 40) (by omega) (by omega)).mp z)), h7']
      cases c2 : s.2.2.2.2.2 with
      | true =>
        refine ⟨K, ?_, exc.rf, fun s' _ hf => absurd (show nI e = -1 from (if_pos (Or.inr (Or.inl c2))).symm.trans hf) hne⟩
        rw [if_neg (show ¬ fl true = 0 by decide), show fin e t (e, some s) = nI e from if_pos (Or.inr (Or.inl c2))]
      | false =>
        rw [if_pos (show fl false = 0 from rfl), h5]
        by_cases c3 : s.2.2.1 = 0
        · have hf : fin e t (e, some s) = -1 := if_neg (by
            intro z
            rcases z with a | a | a
            · exact c1 a
            · rw [c2] at a; cases a
            · exact a c3)
          obtain ⟨K2, e2, d2, s2, f2⟩ := c_md (h := h) (L := L) (K := K) (d := d + 6) (w := 1) (by omega) (by omega) hC hS h3 (by omega)
          refine ⟨K2, ?_, f2.1.mono (by simp), fun s' hs _ => ?_⟩
          · rw [c3, if_neg (show ¬ (0 : Int32) < nI 0 by decide), show (.int 1 : Value) = .int (nI 1) from rfl, e2, k_V, k_1, k_2, k_3, hf]
          · cases hs; exact d2
        · refine ⟨K, ?_, exc.rf, fun s' _ hf => absurd (show nI e = -1 from (if_pos (Or.inr (Or.inr c3))).symm.trans hf) hne⟩
          rw [if_pos (show (0 : Int32) < nI s.2.2.1 from (q_lt (a := 0) (by omega) (by omega)).mpr (by omega)), show fin e t (e, some s) = nI e from if_pos (Or.inr (Or.inr c3))]
  | succ n ih =>
    intro p s K hp ht hR hl
    have hpe : p < e := by omega
    obtain ⟨K1, e1, x1, o1⟩ := c_accepts (h := h) (L := L) (K := K) (d + 1) hR (by omega) (h2 p (by omega))
    rw [e_Rule_read_29, if_pos ((q_lt (by omega) (by omega)).mpr hpe), c_sgn (d + 7) ht h8 h2 (by omega), k_I, k_1, k_2, k_3, e1, k_I, k_1, k_2, k_3, ru]
    cases ha : ac s (t.2 p) with
    | none =>
      refine ⟨K1, ?_, x1, fun s' hs => by cases hs⟩
      rw [if_pos (show fl (none : Option aQ).isSome = 0 from rfl)]; rfl
    | some s' =>
      obtain ⟨r1, l1⟩ := o1 s' ha
      obtain ⟨K2, e2, x2, o2⟩ := ih (p + 1) s' K1 (by omega) (ht.ex x1 (by simp) (by simp)) r1 (by omega)
      refine ⟨K2, ?_, x1.tr x2, o2⟩
      rw [if_neg (show ¬ fl (some s').isSome = 0 by simp only [Option.isSome]; decide), show nI p + 1 = nI (p + 1) from q_add p 1, e2]
def st0 : aQ := ([], [], 0, fun _ => false, 0, true)
theorem c_begin (d : Nat) : ∃ K', ev_do (d + 1) M_Rule_begin [.ref 105] (ev_mk h K L) = ev_rn (ev_mk h K' L) ∧ exc [105, 106, 107, 108] K K' ∧ rS K' st0 := by
  refine ⟨_, e_Rule_begin_0 .., ((((((exc.rf.up (by simp)).up (by simp)).up (by simp)).up (by simp)).up (by simp)).up (by simp)), ⟨⟨?_, fun i hi => absurd hi (Nat.not_lt_zero _)⟩, ⟨?_, fun i hi => absurd hi (Nat.not_lt_zero _)⟩, fun c hc => (by cases hc)⟩, ⟨?_, by decide, fun i hi => ?_⟩, ?_, by decide, ?_, fun z => absurd rfl z⟩
  · rw [u_c (by omega), u_j (by omega), u_j (by omega), u_j (by omega), u_j (by omega), u_at]; rfl
  · rw [u_c (by omega), u_j (by omega), u_j (by omega), u_j (by omega), u_at]; rfl
  · rw [u_c (by omega), u_j (by omega), u_j (by omega), u_at]; rfl
  · have : i = 0 := Nat.le_zero.mp hi
    rw [this, u_at]; rfl
  · rw [u_c (by omega), u_j (by omega), u_at]; rfl
  · rw [u_c (by omega), u_at]; rfl
def plS : List Nat := [109, 45, 111, 42, 50, 45, 51]
theorem plS_v : ∀ i, i < 7 → (ev_fit .char ((((([109, 45, 111, 42, 50, 45, 51] : List Int32).getD i 0) &&& 255).toUInt32 % 65536).toInt32) = true ∧ (((([109, 45, 111, 42, 50, 45, 51] : List Int32).getD i 0) &&& 255).toUInt32 % 65536).toInt32 = nI (plS.getD i 0)) := by decide
theorem c_plC (d : Nat) {i : Nat} (hi : i < 7) : ev_do (d + 4) M_Str_charAt [.ref 900000, .int (nI i)] (ev_mk h K L) = ev_ri (nI (plS.getD i 0)) (ev_mk h K L) := by
  obtain ⟨a, b⟩ := plS_v i hi
  rw [e_Str_charAt_0_v0, e_Str_isLatin1_0_v0, k_I, k_1, k_2, k_3, if_neg (show ¬ (1 : Int32) = 0 by decide), e_Lat_charAt_0_v0, e_Str_checkIndex_0, e_Pre_checkIndex_0, if_neg (q_nn (by omega)), if_pos (show nI i < 7 from (q_lt (b := 7) (by omega) (by omega)).mpr hi), k_I, k_1, k_2, k_3, k_V, k_1, k_2, k_3, q_in (by omega), if_pos (by simp <;> omega), q_cl (by omega), if_pos a, b, k_I, k_1, k_2, k_3, if_pos (by rw [← b]; exact a)]
/-- the states on the way over the plain rule's text -/
def plQ : Nat → aQ
  | 0 => st0
  | i + 1 => match ac (plQ i) (plS.getD i 0) with
    | none => st0
    | some s => s
theorem plQ_s : ∀ i, i < 7 → (ac (plQ i) (plS.getD i 0)).isSome = true := by decide +kernel
theorem plQ_e : (plQ 7).1 ++ (tW 1 (plQ 7).2.1).map tkS = [1000, 1001, 2, 2005, 2004, 3, 2004] := by decide +kernel
theorem c_bePlain (d : Nat) : ∃ K', ev_do (d + 9) M_Rule_bePlain [.ref 105] (ev_mk h K L) = ev_rn (ev_mk h K' L) ∧ exc [105, 106, 107, 108] K K' ∧ cdC K' ([1000, 1001, 2, 2005, 2004, 3, 2004].map cT) := by
  obtain ⟨K0, e0, x0, r0⟩ := c_begin (h := h) (K := K) (L := L) (d + 7)
  have hlen : ∀ J : Nat → Nat → Int32, ev_do (d + 8) M_Str_length [.ref 900000] (ev_mk h J L) = ev_ri 7 (ev_mk h J L) := by
    intro J
    rw [e_Str_length_0_v0, e_Str_coder_0_v0, if_pos (show ev_fit .byte 0 = true by decide), k_I, k_1, k_2, k_3]; rfl
  obtain ⟨K1, e1, x1, r1, l1⟩ := lpF (F := fun i K' => ev_at (d + 8) M_Rule_bePlain 6 [.ref 105, .int (nI i)] [] (ev_mk h K' L)) (fun i K' => exc [105, 106, 107, 108] K K' ∧ rS K' (plQ i) ∧ (plQ i).1.length + (plQ i).2.1.length ≤ i) 7 (fun i K' hi ⟨q1, q2, q3⟩ => by
    obtain ⟨K2, e2, x2, o2⟩ := c_accepts (h := h) (L := L) (K := K') (d + 1) (c := plS.getD i 0) q2 (by omega) ((show ∀ i, i < 7 → plS.getD i 0 < 256 by decide) i hi)
    have hsome := plQ_s i hi
    have hst : ac (plQ i) (plS.getD i 0) = some (plQ (i + 1)) := by
      show _ = some (match ac (plQ i) (plS.getD i 0) with
        | none => st0
        | some s => s)
      cases hh : ac (plQ i) (plS.getD i 0) with
      | none => rw [hh] at hsome; cases hsome
      | some s => rfl
    obtain ⟨r2, l2⟩ := o2 _ hst
    refine ⟨K2, ?_, q1.tr x2, r2, by omega⟩
    show ev_at (d + 8) M_Rule_bePlain 6 [.ref 105, .int (nI i)] [] (ev_mk h K' L) = _
    rw [e_Rule_bePlain_6, hlen, k_I, k_1, k_2, k_3, if_pos (show nI i < 7 from (q_lt (b := 7) (by omega) (by omega)).mpr hi), c_plC (d + 4) hi, k_I, k_1, k_2, k_3, e2, k_I, k_1, k_2, k_3, show nI i + 1 = nI (i + 1) from q_add i 1]) K0 ⟨x0, r0, Nat.le_refl _⟩
  obtain ⟨K3, e3, d3, s3, f3⟩ := c_md (h := h) (L := L) (K := K1) (d := d + 6) (w := 1) (by omega) (by omega) r1.1.1 r1.1.2.1 r1.1.2.2 (by omega)
  refine ⟨K3, ?_, x1.tr (f3.1.mono (by simp)), by rw [plQ_e] at d3; exact d3⟩
  rw [e_Rule_bePlain_0, e0, k_V, k_1, k_2, k_3]
  refine e1.trans ?_
  show ev_at (d + 8) M_Rule_bePlain 6 [.ref 105, .int (nI 7)] [] (ev_mk h K1 L) = _
  rw [e_Rule_bePlain_6, hlen, k_I, k_1, k_2, k_3, if_neg (show ¬ nI 7 < 7 by decide), show (.int 1 : Value) = .int (nI 1) from rfl, e3, k_V, k_1, k_2, k_3]
/-- the tokens of a text read as a rule -/
def rlL (t : Nat × (Nat → Nat)) : List Nat := if t.1 = 0 then [1000, 1001, 2, 2005, 2004, 3, 2004] else (rlQ t).2.2
theorem c_readC (d : Nat) {t : Nat × (Nat → Nat)} (ht : txC K t) (h8 : t.1 ≤ 80) (h2 : ∀ j, j < t.1 → t.2 j < 256) : ∃ K', ev_do (d + 10) M_Rule_read [.ref 105, .ref 1] (ev_mk h K L) = ev_ri (-1 - rlV t) (ev_mk h K' L) ∧ exc [105, 106, 107, 108] K K' ∧ (rlV t = 0 → cdC K' ((rlL t).map cT)) := by
  rw [e_Rule_read_0, ht.1]
  by_cases z : t.1 = 0
  · obtain ⟨K1, e1, x1, c1⟩ := c_bePlain (h := h) (K := K) (L := L) d
    have hq : rlQ t = (true, 0, []) := if_pos z
    have hv : rlV t = 0 := by
      unfold rlV
      rw [if_neg (by omega), hq, z]; rfl
    refine ⟨K1, ?_, x1, fun _ => by unfold rlL; rw [if_pos z]; exact c1⟩
    rw [if_pos (show nI t.1 = 0 by rw [z]; rfl), e1, k_V, k_1, k_2, k_3, hv]; rfl
  · rw [if_neg (show ¬ nI t.1 = 0 from fun y => z ((q_eq (b := 0) (by omega) (by omega)).mp y))]
    obtain ⟨K0, e0, x0, r0⟩ := c_begin (h := h) (K := K) (L := L) (d + 8)
    have ht0 : txC K0 t := ht.ex x0 (by simp) (by simp)
    have hmin : (if (40 : Int32) < nI t.1 then 40 else nI t.1) = nI (min 40 t.1) := by
      by_cases y : 40 < t.1
      · rw [if_pos (show (40 : Int32) < nI t.1 from (q_lt (a := 40) (by omega) (by omega)).mpr y), show min 40 t.1 = 40 by omega]; rfl
      · rw [if_neg (show ¬ (40 : Int32) < nI t.1 from fun z => y ((q_lt (a := 40) (by omega) (by omega)).mp z)), show min 40 t.1 = t.1 by omega]
    have hq : rlQ t = pr t.2 (min 40 t.1) 400 0 0 0 [] := if_neg z
    have hL : rlL t = (rlQ t).2.2 := if_neg z
    obtain ⟨K1, e1, x1, o1⟩ := c_read29 (h := h) (L := L) (d + 1) h8 h2 rfl (min 40 t.1) 0 st0 K0 (by omega) ht0 r0 (Nat.le_refl _)
    obtain ⟨e, he⟩ : ∃ e, e = min 40 t.1 := ⟨_, rfl⟩
    have he40 : e ≤ 40 := by omega
    have hp := (pAB (tx := t.2) (e := e) (fun j hj => h2 j (by omega)) 400).1 0 0 0 [] [] (fun _ => false) 0 (by omega) (Nat.zero_le _) (by omega) (by omega) (fun c _ hc => by cases hc) (fun _ => rfl)
    have g := pr_go t.2 e 400 0 0 0 [] (Nat.zero_le _)
    rw [← he] at e1 o1 hq
    have hneg0 : ∀ P, P < 41 → (-1 : Int32) - (-1 - nI P) = nI P := by decide +kernel
    have hneg : ∀ P, P ≤ 40 → (-1 : Int32) - (-1 - nI P) = nI P := fun P hP => hneg0 P (by omega)
    have hgoal : fin e t (ru t.2 e 0 st0) = -1 - rlV t ∧ (rlV t = 0 → ∃ s', (ru t.2 e 0 st0).2 = some s' ∧ s'.1 ++ (tW 1 s'.2.1).map tkS = rlL t) := by
      have hnz : ∀ P : Nat, P ≤ 40 → ¬ (-1 - nI P = 0) := fun P hP y => by
        have := hneg P hP
        rw [y] at this
        exact absurd (show nI P < 0 by rw [← this]; decide) (q_nn (by omega))
      rw [hL]
      cases hb : (pr t.2 e 400 0 0 0 []).1 with
      | false =>
        have hV : rlV t = -1 - nI (pr t.2 e 400 0 0 0 []).2.1 := by
          unfold rlV
          rw [hq, hb, Bool.false_and]
          by_cases y : 40 < t.1 ∧ ¬ (false = false ∧ (pr t.2 e 400 0 0 0 []).2.1 < 40)
          · rw [if_pos y, show (pr t.2 e 400 0 0 0 []).2.1 = 40 by have := y.2; simp at this; omega]
          · rw [if_neg y, if_neg (by decide)]
        rw [hV, hneg _ (by omega)]
        refine ⟨?_, fun y => absurd y (hnz _ (by omega))⟩
        rcases hp.2 hb with y | ⟨y1, s', y2, y3⟩
        · have y' : ru t.2 e 0 st0 = _ := y
          rw [y']; rfl
        · have y' : ru t.2 e 0 st0 = _ := y2
          rw [y', y1]
          exact if_pos (Or.inr y3)
      | true =>
        obtain ⟨C1, pd1, cm1, dg1, r1, r2, r3, r4, r5, r6⟩ := hp.1 hb
        have r1' : ru t.2 e 0 st0 = _ := r1
        by_cases hP : (pr t.2 e 400 0 0 0 []).2.1 < e
        · have hV : rlV t = -1 - nI (pr t.2 e 400 0 0 0 []).2.1 := by
            unfold rlV
            rw [hq, hb, Bool.true_and, ← he, decide_eq_false (show ¬ (pr t.2 e 400 0 0 0 []).2.1 = e by omega), if_neg (fun y => y.2 ⟨rfl, by omega⟩), if_neg (by decide)]
          rw [hV, hneg _ (by omega), r1', ru_n hP (nx_no hP (h2 _ (by omega)) r6 (Or.inl rfl))]
          exact ⟨rfl, fun y => absurd y (hnz _ (by omega))⟩
        · have hPe : (pr t.2 e 400 0 0 0 []).2.1 = e := by omega
          rw [r1', ru_e hPe]
          by_cases y : 40 < t.1
          · have hV : rlV t = -1 - nI 40 := by
              unfold rlV
              rw [hq, hb, Bool.true_and, ← he, decide_eq_true hPe, if_pos ⟨y, fun q => by cases q.1⟩]
            rw [hV, hneg _ (by omega)]
            refine ⟨?_, fun q => absurd q (hnz 40 (by omega))⟩
            rw [show fin e t (e, some (C1, pd1 ++ [], 0, cm1, dg1, false)) = nI e from if_pos (Or.inl y), show e = 40 by omega]
          · have hV : rlV t = 0 := by
              unfold rlV
              rw [hq, hb, Bool.true_and, ← he, decide_eq_true hPe, if_neg (fun q => y q.1), if_pos rfl]
            rw [hV]
            refine ⟨?_, fun _ => ⟨_, rfl, ?_⟩⟩
            · show fin e t (e, some (C1, pd1 ++ [], 0, cm1, dg1, false)) = _
              refine (if_neg ?_).trans rfl
              intro q
              rcases q with a | a | a
              · exact y a
              · cases a
              · exact a rfl
            · show C1 ++ (tW 1 (pd1 ++ [])).map tkS = (rlQ t).2.2
              rw [(tW_pre (w := 1) (S := []) (fun c hc => by cases hc) pd1 r3).1, r2, hq]
    refine ⟨K1, ?_, x0.tr x1, fun hv => ?_⟩
    · rw [e0, k_V, k_1, k_2, k_3, ht0.1, hmin, ← he, show (.int 0 : Value) = .int (nI 0) from rfl, e1, hgoal.1]
    · obtain ⟨s', a, b⟩ := hgoal.2 hv
      have := o1 s' a (by rw [hgoal.1, hv]; rfl)
      rw [b] at this; exact this
end QD
