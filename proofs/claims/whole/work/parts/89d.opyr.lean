/-! year, the call. -/
section YO
variable {h : Bool × Nat × Nat} {d : Nat} {I J K : Nat → Nat → Int32} {L : Nat → Nat → Int64} {A : aP}
/-- the text, emptied -/
def nT (A : aP) : aP := sTx A (0, (aTx A).2)
theorem nT_wf (hw : wfA A) : wfA (nT A) := ⟨⟨Nat.zero_le _, fun j hj => absurd hj (Nat.not_lt_zero _)⟩, hw.2⟩
theorem invC.nT (hi : invC I L A) : invC (ev_up I 1 1 0) L (nT A) := hi.tx (fun a h1 _ => u_cf h1) ⟨u_at _ _ _ _, fun j hj => absurd hj (Nat.not_lt_zero _)⟩
theorem invM.nT (hi : invM I L A) : invM (ev_up I 139 10 0) L (nT A) := hi.tx (fun a ha => u_cf (fun z => ha (Or.inl (by rw [z]; unfold scM; omega)))) (fun j hj => u_j (by omega)) ⟨u_at _ _ _ _, fun j hj => absurd hj (Nat.not_lt_zero _)⟩
/-- what the reference has when it begins to read -/
def bgM (I : Nat → Nat → Int32) (m : Nat) (sz : Nat) : Nat → Nat → Int32 := ev_up (ev_up (ev_up (ev_up I 139 10 0) 139 11 0) 139 13 0) 139 12 (nI (min m sz))
theorem c_begins (d : Nat) {m sz : Nat} (hm : m < 100) (hs : sz ≤ 80) (h10 : I 139 10 = nI sz) : ev_do (d + 1) M_Mo_begins [.ref 139, .int (nI m)] (ev_mk h I L) = ev_ri (nI sz) (ev_mk h (bgM I m sz) L) := by
  rw [e_Mo_begins_0, h10, z_min (by omega) (by omega)]; rfl
theorem bg_rd {m : Nat} {t : Nat × (Nat → Nat)} (ht : txM I t) (h8 : t.1 ≤ 80) (h2 : ∀ j, j < t.1 → t.2 j < 256) : rdM (bgM I m t.1) t.2 (min m t.1) 0 := ⟨by unfold bgM; rw [u_j (by omega), u_j (by omega), u_at]; rfl, u_at _ _ _ _, by omega, Nat.zero_le _, fun j hj => h2 j (by omega), fun j hj => by unfold bgM; rw [u_c (by omega), u_c (by omega), u_c (by omega), u_c (by omega)]; exact ht.2 j (by omega)⟩
theorem bg_ex (I : Nat → Nat → Int32) (m sz : Nat) : exc [139] I (bgM I m sz) := (((exc.rf.up (by simp)).up (by simp)).up (by simp)).up (by simp)
theorem bg_j {m sz j : Nat} (hj : j ≠ 10 ∧ j ≠ 11 ∧ j ≠ 12 ∧ j ≠ 13) : bgM I m sz 139 j = I 139 j := by
  unfold bgM
  rw [u_j (by omega), u_j (by omega), u_j (by omega), u_j (by omega)]
theorem bg_10 {m sz : Nat} : bgM I m sz 139 10 = 0 := by
  unfold bgM
  rw [u_j (by omega), u_j (by omega), u_j (by omega), u_at]
/-- the class's acts done -/
theorem c_runC (d : Nat) (hw : wfA A) (hi : invC I L A) (h6 : (aTx A).1 ≤ 60) {m n : Nat} (hg : gdA (aTx A).2 (aTx A).1 n) (hn : qA (aTx A).2 n = (aTx A).1) (hm : m ≤ n) (hm1 : ∀ i, i < m → ¬ (doA A (aTx A).2 (qA (aTx A).2 i) (sA A (aTx A).2 i)).1 < 0) (hm2 : m = n ∨ (m < n ∧ (doA A (aTx A).2 (qA (aTx A).2 m) (sA A (aTx A).2 m)).1 < 0)) (x0 : exc [21, 22, 23, 24] I J) (s0 : cSt 17 J (aS A)) : ∃ K, ev_at (d + 7) M_SL_year 43 [.ref 0, .float 0, .int 0, .int 0, .int 0] [] (ev_mk h J L) = ev_at (d + 7) M_SL_year 110 [.ref 0, .float 0, .int (nI m), .int (fl (decide (m < n))), .float 0] [] (ev_mk h K L) ∧ exc yX J K ∧ K 101 1 = J 101 1 ∧ cSt 17 K (sA A (aTx A).2 (if m < n then m + 1 else m)) := by
  have h2 := hw.1.2
  have h8 := hw.1.1
  have hq : ∀ i, i < n → qA (aTx A).2 i < (aTx A).1 ∧ flt (aTx A).2 (aTx A).1 (qA (aTx A).2 i) = none := hg
  have st : ∀ i K, i < n → exc yX J K → K 101 1 = J 101 1 → cSt 17 K (sA A (aTx A).2 i) → ∃ v K', ev_do (d + 7) M_SL_doAct [.ref 0, .int (nI (qA (aTx A).2 i))] (ev_mk h K L) = ev_ri v (ev_mk h K' L) ∧ (v < 0 ↔ (doA A (aTx A).2 (qA (aTx A).2 i) (sA A (aTx A).2 i)).1 < 0) ∧ exc yX J K' ∧ K' 101 1 = J 101 1 ∧ cSt 17 K' (sA A (aTx A).2 (i + 1)) ∧ txC K (aTx A) ∧ txC K' (aTx A) := by
    intro i K hi' p1 p2 p3
    have f := x0
    have tC : ∀ K, exc yX J K → txC K (aTx A) := fun K p1 => ⟨by rw [p1 1 (by simp), f 1 (by simp)]; exact hi.1.1, fun j hj => by rw [p1 2 (by simp), f 2 (by simp)]; exact hi.1.2 j hj⟩
    obtain ⟨v, K', a1, a2, a3, a4, a5⟩ := c_doAct (h := h) (L := L) d hw (t := aTx A) ((hi.2.2.1.ex f (by intro a ha; simp <;> omega)).ex p1 (by intro a ha; simp <;> omega)) (((hi.2.2.2.2.1 : rlC 101 I _ _).ex f (by rw [f 101 (by simp)]) (by simp)).ex p1 p2 (by simp)) (tC K p1) h8 h2 (hq i hi').2 p3 (sA_wf hw _ i)
    exact ⟨v, K', a1, a2, p1.tr a3, a4.trans p2, a5, tC K p1, tC K' (p1.tr a3)⟩
  have nxt : ∀ (i : Nat) (K' : Nat → Nat → Int32) (y0 x3 : Int32), i < n → txC K' (aTx A) → ev_at (d + 7) M_SL_year 84 [.ref 0, .float 0, .float 0, .int x3, .int (nI (qA (aTx A).2 i))] [.int y0, .int (nI i)] (ev_mk h K' L) = ev_at (d + 7) M_SL_year 43 [.ref 0, .float 0, .int (nI i + y0), .int x3, .int (nI (qA (aTx A).2 (i + 1)))] [] (ev_mk h K' L) := by
    intro i K' y0 x3 hi' ht
    have g := hq i hi'
    have hl := lnC_le ((aTx A).2 (qA (aTx A).2 i))
    rw [e_SL_year_84, c_sgn (d + 6) ht h8 h2 g.1, k_I, k_1, k_2, k_3, c_len (d + 6) (h2 _ g.1), k_I, k_1, k_2, k_3, show (if (1 : Int32) < nI (lnC ((aTx A).2 (qA (aTx A).2 i))) then nI (lnC ((aTx A).2 (qA (aTx A).2 i))) else 1) = nI (max 1 (lnC ((aTx A).2 (qA (aTx A).2 i)))) from z_max (a := 1) (by omega) (by omega), q_add]; rfl
  obtain ⟨K1, e1, p1, p2, p3⟩ := lpF (F := fun i K => ev_at (d + 7) M_SL_year 43 [.ref 0, .float 0, .int (nI i), .int 0, .int (nI (qA (aTx A).2 i))] [] (ev_mk h K L)) (fun i K => exc yX J K ∧ K 101 1 = J 101 1 ∧ cSt 17 K (sA A (aTx A).2 i)) m (fun i K hi' ⟨p1, p2, p3⟩ => by
    obtain ⟨v, K', a1, a2, a3, a4, a5, a6, a7⟩ := st i K (by omega) p1 p2 p3
    have g := hq i (by omega)
    refine ⟨K', ?_, a3, a4, a5⟩
    show ev_at (d + 7) M_SL_year 43 [.ref 0, .float 0, .int (nI i), .int 0, .int (nI (qA (aTx A).2 i))] [] (ev_mk h K L) = _
    rw [e_SL_year_43, a6.1, if_pos ((q_lt (by omega) (by omega)).mpr g.1), if_pos rfl, a1, k_I, k_1, k_2, k_3, if_neg (fun z => hm1 i hi' (a2.mp z)), e_SL_year_73, if_pos rfl, nxt i K' _ _ (by omega) a7, show nI i + 1 = nI (i + 1) from q_add i 1]) J ⟨exc.rf, rfl, s0⟩
  rcases hm2 with hm2 | ⟨hm2, hm3⟩
  · subst hm2
    have tC : txC K1 (aTx A) := ⟨by rw [p1 1 (by simp), x0 1 (by simp)]; exact hi.1.1, fun j hj => by rw [p1 2 (by simp), x0 2 (by simp)]; exact hi.1.2 j hj⟩
    refine ⟨K1, e1.trans ?_, p1, p2, by rw [if_neg (by omega)]; exact p3⟩
    show ev_at (d + 7) M_SL_year 43 [.ref 0, .float 0, .int (nI m), .int 0, .int (nI (qA (aTx A).2 m))] [] (ev_mk h K1 L) = _
    rw [e_SL_year_43, tC.1, if_neg (fun z => absurd ((q_lt (by omega) (by omega)).mp z) (by omega)), decide_eq_false (show ¬ m < m by omega)]; rfl
  · obtain ⟨v, K', a1, a2, a3, a4, a5, a6, a7⟩ := st m K1 hm2 p1 p2 p3
    have g := hq m hm2
    refine ⟨K', e1.trans ?_, a3, a4, by rw [if_pos hm2]; exact a5⟩
    show ev_at (d + 7) M_SL_year 43 [.ref 0, .float 0, .int (nI m), .int 0, .int (nI (qA (aTx A).2 m))] [] (ev_mk h K1 L) = _
    rw [e_SL_year_43, a6.1, if_pos ((q_lt (by omega) (by omega)).mpr g.1), if_pos rfl, a1, k_I, k_1, k_2, k_3, if_pos (a2.mpr hm3), e_SL_year_73, if_neg (by decide), nxt m K' _ _ hm2 a7, e_SL_year_43, if_neg (show ¬ (1 : Int32) = 0 by decide), decide_eq_true hm2, show nI m + 0 = nI m from q_add m 0]
    split <;> rfl
/-- the reference's acts read -/
theorem c_readM (d : Nat) {sz : Nat} {tx : Nat → Nat} {e : Nat} {K0 : Nat → Nat → Int32} (he : e ≤ 60) (hr : rdM K0 tx e 0) (h31 : K0 139 31 = 0) : ∀ i, gdA tx e i → ∃ K, ev_at (d + 6) M_Mo_year 19 [.ref 139, .int (nI sz), .int 1, .float 0, .float 0] [] (ev_mk h K0 L) = ev_at (d + 6) M_Mo_year 19 [.ref 139, .int (nI sz), .int 1, .float 0, .float 0] [] (ev_mk h K L) ∧ rdM K tx e (qA tx i) ∧ K 139 31 = nI i ∧ exc [139, 156, 157, 158] K0 K ∧ (∀ j, j ≠ 11 → j ≠ 31 → K 139 j = K0 139 j) ∧ ∀ i', i' < i → acM K tx i' (qA tx i') := by
  intro i
  induction i with
  | zero => intro _; exact ⟨K0, rfl, hr, h31, exc.rf, fun _ _ _ => rfl, fun i' z => absurd z (by omega)⟩
  | succ i ih =>
    intro hg
    obtain ⟨K, e1, r1, g1, x1, n1, a1⟩ := ih (fun i' hi' => hg i' (by omega))
    have g := hg i (by omega)
    have hq := qA_s g.2
    have hge := qA_ge tx i
    have := c_readsAct (h := h) (L := L) d r1 g.1 (i := i) (by omega) g1
    rw [g.2] at this
    obtain ⟨K', e2, r2, x2, g2, a2⟩ := this
    refine ⟨K', e1.trans ?_, by rw [hq.1]; exact r2, g2, x1.tr x2.1, fun j h1 h2 => (x2.2.1 j h1 h2).trans (n1 j h1 h2), fun i' hi' => ?_⟩
    · rw [e_Mo_year_19, if_neg (show ¬ (1 : Int32) = 0 by decide), r1.1, r1.2.1, if_pos ((q_lt (by omega) (by omega)).mpr g.1), e2, k_I, k_1, k_2, k_3]
    · by_cases z : i' = i
      · rw [z]; exact a2
      · have y := x2.2.2 i' z
        have b := a1 i' (by omega)
        exact ⟨y.1.trans b.1, y.2.1.trans b.2.1, fun w => y.2.2.trans (b.2.2 w)⟩
end YO
