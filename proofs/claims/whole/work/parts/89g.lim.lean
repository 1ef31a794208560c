/-! Lines of words, read by the reference. -/
section LM
variable {h : Bool × Nat × Nat} {I J K : Nat → Nat → Int32} {L : Nat → Nat → Int64} {tx : Nat → Nat} {e p W : Nat}
theorem ix3 : ∀ c, c < 256 → ixO str3 c = if isLt c = true then some (ltr c) else if isUp c = true then some (ltr c + 8) else none := by decide +kernel
theorem m8 : ∀ i, i < 16 → nI i - nI i / 8 * 8 = nI (i % 8) := by decide +kernel
/-- what was read of a line -/
def liM (K : Nat → Nat → Int32) (tx : Nat → Nat) (k p r : Nat) : Prop := K 147 k = nI r ∧ K 148 k = nI (mkL tx p r) ∧ ∀ j, j < r → K 146 (8 * k + j) = nI (ltr (tx (p + j)))
def exL (k : Nat) (K K' : Nat → Nat → Int32) : Prop := exc [139, 146, 147, 148] K K' ∧ (∀ j, j ≠ 11 → j ≠ 17 → K' 139 j = K 139 j) ∧ (∀ j, j ≠ k → K' 147 j = K 147 j ∧ K' 148 j = K 148 j) ∧ ∀ j, j < 8 * k → K' 146 j = K 146 j
theorem exL.rf {k : Nat} : exL k K K := ⟨exc.rf, fun _ _ _ => rfl, fun _ _ => ⟨rfl, rfl⟩, fun _ _ => rfl⟩
theorem exL.up {K' : Nat → Nat → Int32} {k c j : Nat} {v : Int32} (hx : exL k K K') (hc : (c = 139 ∧ (j = 11 ∨ j = 17)) ∨ ((c = 147 ∨ c = 148) ∧ j = k) ∨ (c = 146 ∧ 8 * k ≤ j)) : exL k K (ev_up K' c j v) := by
  refine ⟨hx.1.up (by simp <;> omega), fun a h1 h2 => ?_, fun a ha => ?_, fun a ha => ?_⟩
  · rw [u_no (by omega)]; exact hx.2.1 a h1 h2
  · rw [u_no (by omega), u_no (by omega)]; exact hx.2.2.1 a ha
  · rw [u_no (by omega)]; exact hx.2.2.2 a ha
theorem c_readsWord (d : Nat) (hr : rdM K tx e p) {k : Nat} (hW : K 139 3 = nI W) (h17 : K 139 17 = nI k) (hk : W + k < 8) : ∃ K', ev_do (d + 6) M_Mo_readsWord [.ref 139] (ev_mk h K L) = ev_ri (fl (sdL tx p (rnL tx e p))) (ev_mk h K' L) ∧ rdM K' tx e (p + rnL tx e p) ∧ exL k K K' ∧ K' 139 17 = nI (k + 1) ∧ liM K' tx k p (rnL tx e p) := by
  have hr8 := rnL_le tx e p
  have hre := rnL_e (tx := tx) hr.2.2.2.1
  have ml : ∀ n, n ≤ 8 → mkL tx p n < 256 := fun n hn => Nat.lt_of_lt_of_le (msk_lt _ n) (pw8 hn)
  have p0 : ev_do (d + 6) M_Mo_readsWord [.ref 139] (ev_mk h K L) = ev_at (d + 5) M_Mo_readsWord 22 [.ref 139, .int (nI 0), .int (nI (mkL tx p 0)), .int 1, .float 0] [] (ev_mk h K L) := by
    rw [e_Mo_readsWord_0, hW, h17, q_add, if_neg (show ¬ nI (W + k) = 8 from fun z => absurd ((q_eq (b := 8) (by omega) (by omega)).mp z) (by omega))]; rfl
  obtain ⟨K1, e1, r1, x1, g1, l1⟩ := lpF (F := fun j K => ev_at (d + 5) M_Mo_readsWord 22 [.ref 139, .int (nI j), .int (nI (mkL tx p j)), .int 1, .float 0] [] (ev_mk h K L)) (fun j K' => rdM K' tx e (p + j) ∧ exL k K K' ∧ K' 139 17 = nI k ∧ ∀ j', j' < j → K' 146 (8 * k + j') = nI (ltr (tx (p + j')))) (rnL tx e p) (fun j K' hj ⟨p1, p2, p3, p4⟩ => by
    obtain ⟨g1, g2⟩ := rnL_in hj
    have hc := hr.2.2.2.2.1 (p + j) g1
    have hl := ltr_lt _ hc g2
    have ht := c_tk3 (h := h) (L := L) d p1
    rw [if_pos g1, ix3 _ hc] at ht
    have r2 : ∀ v : Int32, rdM (ev_up (advK K' (p + j + 1)) 146 (8 * k + j) v) tx e (p + (j + 1)) := fun v => (p1.adv (q := p + (j + 1)) (by omega)).w (by omega) (by omega)
    have x2 : ∀ v : Int32, exL k K (ev_up (advK K' (p + j + 1)) 146 (8 * k + j) v) := fun v => (p2.up (by omega)).up (by omega)
    have n2 : ∀ v : Int32, v = nI (ltr (tx (p + j))) → ∀ j', j' < j + 1 → ev_up (advK K' (p + j + 1)) 146 (8 * k + j) v 146 (8 * k + j') = nI (ltr (tx (p + j'))) := by
      intro v hv j' hj'
      by_cases z : j' = j
      · rw [z, u_at]; exact hv
      · rw [u_j (by omega)]; exact (u_c (by omega)).trans (p4 j' (by omega))
    have e8 : 8 * nI k + nI j = nI (8 * k + j) := by rw [show (8 : Int32) = nI 8 from rfl, q_mul, q_add]
    have h17' : advK K' (p + j + 1) 139 17 = nI k := (u_j (by omega)).trans p3
    show ∃ s', ev_at (d + 5) M_Mo_readsWord 22 [.ref 139, .int (nI j), .int (nI (mkL tx p j)), .int 1, .float 0] [] (ev_mk h K' L) = ev_at (d + 5) M_Mo_readsWord 22 [.ref 139, .int (nI (j + 1)), .int (nI (mkL tx p (j + 1))), .int 1, .float 0] [] (ev_mk h s' L) ∧ _
    rw [e_Mo_readsWord_22, if_neg (show ¬ (1 : Int32) = 0 by decide), if_pos (show nI j < 8 from (q_lt (b := 8) (by omega) (by omega)).mpr (by omega)), ht]
    cases hlt : isLt (tx (p + j)) with
    | true =>
      rw [if_pos rfl]
      refine ⟨ev_up (advK K' (p + j + 1)) 146 (8 * k + j) (nI (ltr (tx (p + j)))), ?_, r2 _, x2 _, (u_c (by omega)).trans h17', n2 _ rfl⟩
      show ev_cI (ev_ri (nI (ltr (tx (p + j)))) (ev_mk h (advK K' (p + j + 1)) L)) _ = _
      rw [k_I, k_1, k_2, k_3, e_Mo_readsWord_42, if_neg (q_nn (by omega)), e_Mo_readsWord_54, if_neg (show ¬ (1 : Int32) = 0 by decide), h17', e8, q_in (by omega), if_pos (by simp <;> omega), q_cl (by omega), if_pos (show nI (ltr (tx (p + j))) < 8 from (q_lt (b := 8) (by omega) (by omega)).mpr hl), m8 _ (by omega), Nat.mod_eq_of_lt hl, show (0 : Int32) = nI 0 from rfl, fa_or, show nI j + 1 = nI (j + 1) from q_add j 1, show mkL tx p (j + 1) = mkL tx p j ||| 0 by show mkL tx p j ||| (if slL tx p j = true then 2 ^ j else 0) = _; rw [show slL tx p j = false by unfold slL; rw [hlt]; rfl]; rfl]
    | false =>
      have hu : isUp (tx (p + j)) = true := by unfold isLr at g2; rw [hlt, Bool.false_or] at g2; exact g2
      rw [if_neg (by decide), hu, if_pos rfl]
      refine ⟨ev_up (advK K' (p + j + 1)) 146 (8 * k + j) (nI (ltr (tx (p + j)))), ?_, r2 _, x2 _, (u_c (by omega)).trans h17', n2 _ rfl⟩
      show ev_cI (ev_ri (nI (ltr (tx (p + j)) + 8)) (ev_mk h (advK K' (p + j + 1)) L)) _ = _
      rw [k_I, k_1, k_2, k_3, e_Mo_readsWord_42, if_neg (q_nn (by omega)), e_Mo_readsWord_54, if_neg (show ¬ (1 : Int32) = 0 by decide), h17', e8, q_in (by omega), if_pos (by simp <;> omega), q_cl (by omega), if_neg (show ¬ nI (ltr (tx (p + j)) + 8) < 8 from fun z => absurd ((q_lt (b := 8) (by omega) (by omega)).mp z) (by omega)), m8 _ (by omega), show (ltr (tx (p + j)) + 8) % 8 = ltr (tx (p + j)) by omega, show (1 : Int32) <<< (nI j &&& 31) = nI (2 ^ j) from z_shl (by omega), fa_or, show nI j + 1 = nI (j + 1) from q_add j 1, show mkL tx p (j + 1) = mkL tx p j ||| 2 ^ j by show mkL tx p j ||| (if slL tx p j = true then 2 ^ j else 0) = _; rw [show slL tx p j = true by unfold slL; rw [hlt]; rfl]; rfl]) K ⟨hr, exL.rf, h17, fun j' z => absurd z (by omega)⟩
  have e2 : ev_at (d + 5) M_Mo_readsWord 22 [.ref 139, .int (nI (rnL tx e p)), .int (nI (mkL tx p (rnL tx e p))), .int 1, .float 0] [] (ev_mk h K1 L) = ev_at (d + 5) M_Mo_readsWord 22 [.ref 139, .int (nI (rnL tx e p)), .int (nI (mkL tx p (rnL tx e p))), .int 0, .float 0] [] (ev_mk h K1 L) := by
    have e42 : ev_at (d + 5) M_Mo_readsWord 42 [.ref 139, .int (nI (rnL tx e p)), .int (nI (mkL tx p (rnL tx e p))), .float 0, .float 0] [.int (-1)] (ev_mk h K1 L) = ev_at (d + 5) M_Mo_readsWord 22 [.ref 139, .int (nI (rnL tx e p)), .int (nI (mkL tx p (rnL tx e p))), .int 0, .float 0] [] (ev_mk h K1 L) := by
      rw [e_Mo_readsWord_42, if_pos (by decide), e_Mo_readsWord_54, if_pos rfl]
    rw [e_Mo_readsWord_22 (x3 := 1), if_neg (show ¬ (1 : Int32) = 0 by decide), e42]
    by_cases z : rnL tx e p < 8
    · rw [if_pos (show nI (rnL tx e p) < 8 from (q_lt (b := 8) (by omega) (by omega)).mpr z), c_tk3 d r1]
      have hn : (if p + rnL tx e p < e then ixO str3 (tx (p + rnL tx e p)) else none) = none := by
        by_cases y : p + rnL tx e p < e
        · have hc := hr.2.2.2.2.1 _ y
          have := rnL_out z y
          unfold isLr at this
          rw [Bool.or_eq_false_iff] at this
          rw [if_pos y, ix3 _ hc, this.1, this.2]; rfl
        · rw [if_neg y]
      rw [hn]
      show ev_cI (ev_ri (-1) (ev_mk h K1 L)) _ = _
      rw [k_I, k_1, k_2, k_3, e42]
    · rw [if_neg (show ¬ nI (rnL tx e p) < 8 from fun y => z ((q_lt (b := 8) (by omega) (by omega)).mp y))]
  have hmk := ml _ hr8
  refine ⟨ev_up (ev_up (ev_up K1 147 k (nI (rnL tx e p))) 148 k (nI (mkL tx p (rnL tx e p)))) 139 17 (nI (k + 1)), ?_, ((r1.w (by omega) (by omega)).w (by omega) (by omega)).w (by omega) (by omega), ((x1.up (by omega)).up (by omega)).up (by omega), u_at _ _ _ _, ?_, ?_, fun j hj => ?_⟩
  · rw [p0]
    refine e1.trans (e2.trans ?_)
    have hpc := pcn_le (mkL tx p (rnL tx e p))
    rw [e_Mo_readsWord_22, if_pos rfl, g1, q_in (by omega), if_pos (by simp <;> omega), if_pos (by simp <;> omega), q_cl (by omega), show nI k + 1 = nI (k + 1) from q_add k 1, c_bitCount (d + 4) hmk, k_I, k_1, k_2, k_3, mk_pcn tx p hr8]
    have hfc := fb_ct_le (slL tx p) (rnL tx e p)
    unfold sdL
    by_cases z : fb_ct (slL tx p) (rnL tx e p) < rnL tx e p
    · rw [if_pos ((q_lt (by omega) (by omega)).mpr z), decide_eq_true z]; rfl
    · rw [if_neg (fun y => z ((q_lt (by omega) (by omega)).mp y)), decide_eq_false z]; rfl
  · rw [u_c (by omega), u_c (by omega), u_at]
  · rw [u_c (by omega), u_at]
  · rw [u_c (by omega), u_c (by omega), u_c (by omega)]; exact l1 j hj
theorem c_linesM (d : Nat) {sz : Nat} {K0 : Nat → Nat → Int32} (hr : rdM K0 tx e 0) (hW : K0 139 3 = nI W) (hW8 : W ≤ 8) (h17 : K0 139 17 = 0) : ∀ i, i ≤ 8 → (∀ i', i' < i → goL tx e W i') → ∃ K, ev_at (d + 6) M_Mo_words 29 [.ref 139, .int (nI sz), .int 1, .int 1, .float 0, .float 0, .float 0] [] (ev_mk h K0 L) = ev_at (d + 6) M_Mo_words 29 [.ref 139, .int (nI sz), .int 1, .int 1, .float 0, .float 0, .float 0] [] (ev_mk h K L) ∧ rdM K tx e (psL tx e i) ∧ K 139 17 = nI i ∧ exc [139, 146, 147, 148] K0 K ∧ (∀ j, j ≠ 11 → j ≠ 17 → K 139 j = K0 139 j) ∧ ∀ i', i' < i → liM K tx i' (psL tx e i') (rnL tx e (psL tx e i')) := by
  intro i
  induction i with
  | zero => intro _ _; exact ⟨K0, rfl, hr, h17, exc.rf, fun _ _ _ => rfl, fun i' z => absurd z (by omega)⟩
  | succ i ih =>
    intro hi8 hg
    obtain ⟨K, e1, r1, g1, x1, n1, l1⟩ := ih (by omega) (fun i' hi' => hg i' (by omega))
    have g := hg i (by omega)
    have g3 := g.2.2.1
    obtain ⟨K', e2, r2, x2, g2, l2⟩ := c_readsWord (h := h) (L := L) d r1 (W := W) ((n1 3 (by omega) (by omega)).trans hW) g1 g.1
    have et := c_takes (h := h) (L := L) (d + 4) (c := 59) (by omega) r2
    rw [decide_eq_true g3, decide_eq_true g.2.2.2, Bool.true_and, if_pos rfl] at et
    refine ⟨advK K' (psL tx e i + rnL tx e (psL tx e i) + 1), e1.trans ?_, r2.adv (by omega), (u_j (by omega)).trans g2, x1.tr (x2.1.up (by simp)), fun j h1 h2 => (u_j h1).trans ((x2.2.1 j h1 h2).trans (n1 j h1 h2)), fun i' hi' => ?_⟩
    · rw [e_Mo_words_29, if_neg (show ¬ (1 : Int32) = 0 by decide), e2, k_I, k_1, k_2, k_3, g.2.1, if_neg (show ¬ fl true = 0 by decide), show (.int 59 : Value) = .int (nI 59) from rfl, et, k_I, k_1, k_2, k_3, if_neg (show ¬ fl true = 0 by decide)]; rfl
    · have : liM K' tx i' (psL tx e i') (rnL tx e (psL tx e i')) := by
        by_cases z : i' = i
        · rw [z]; exact l2
        · have b := l1 i' (by omega)
          have y := x2.2.2.1 i' z
          have hr8 := rnL_le tx e (psL tx e i')
          exact ⟨y.1.trans b.1, y.2.trans b.2.1, fun j hj => (x2.2.2.2 _ (by omega)).trans (b.2.2 j hj)⟩
      exact ⟨(u_c (by omega)).trans this.1, (u_c (by omega)).trans this.2.1, fun j hj => (u_c (by omega)).trans (this.2.2 j hj)⟩
theorem c_linesE (d : Nat) {sz : Nat} {K0 : Nat → Nat → Int32} (hr : rdM K0 tx e 0) (hW : K0 139 3 = nI W) (hW8 : W ≤ 8) (h17 : K0 139 17 = 0) {i : Nat} (hi : i ≤ 8) (hg : ∀ i', i' < i → goL tx e W i') : (∀ f, f ≤ e → flL tx e W i f → ∃ K b, ev_at (d + 6) M_Mo_words 29 [.ref 139, .int (nI sz), .int 1, .int 1, .float 0, .float 0, .float 0] [] (ev_mk h K0 L) = ev_at (d + 6) M_Mo_words 29 [.ref 139, .int (nI sz), .int (fl b), .int 0, .float 0, .float 0, .float 0] [] (ev_mk h K L) ∧ (b && decide (f = e)) = false ∧ rdM K tx e f ∧ exc [139, 146, 147, 148] K0 K ∧ ∀ j, j ≠ 11 → j ≠ 17 → K 139 j = K0 139 j) ∧ (enL tx e W i → ∃ K, ev_at (d + 6) M_Mo_words 29 [.ref 139, .int (nI sz), .int 1, .int 1, .float 0, .float 0, .float 0] [] (ev_mk h K0 L) = ev_at (d + 6) M_Mo_words 29 [.ref 139, .int (nI sz), .int (fl true), .int 0, .float 0, .float 0, .float 0] [] (ev_mk h K L) ∧ rdM K tx e e ∧ exc [139, 146, 147, 148] K0 K ∧ (∀ j, j ≠ 11 → j ≠ 17 → K 139 j = K0 139 j) ∧ K 139 17 = nI (i + 1) ∧ ∀ i', i' < i + 1 → liM K tx i' (psL tx e i') (rnL tx e (psL tx e i'))) := by
  obtain ⟨K, e1, r1, g1, x1, n1, l1⟩ := c_linesM (h := h) (L := L) (sz := sz) d hr hW hW8 h17 i hi hg
  have hwi : W + i ≤ 8 := by
    by_cases z : i = 0
    · omega
    · have := (hg (i - 1) (by omega)).1; omega
  have hW' := (n1 3 (by omega) (by omega)).trans hW
  refine ⟨fun f hfe hf => ?_, fun he => ?_⟩
  · rcases hf with ⟨f1, f2⟩ | ⟨f1, f2, f3⟩
    · refine ⟨K, false, e1.trans ?_, rfl, by rw [f2]; exact r1, x1, n1⟩
      rw [e_Mo_words_29, if_neg (show ¬ (1 : Int32) = 0 by decide), e_Mo_readsWord_0, hW', g1, q_add, if_pos (show nI (W + i) = 8 by rw [show W + i = 8 by omega]; rfl), k_I, k_1, k_2, k_3, if_pos rfl]; rfl
    · obtain ⟨K', e2, r2, x2, g2, l2⟩ := c_readsWord (h := h) (L := L) d r1 (W := W) hW' g1 f1
      have xx := x1.tr x2.1
      have nn : ∀ j, j ≠ 11 → j ≠ 17 → K' 139 j = K0 139 j := fun j h1 h2 => (x2.2.1 j h1 h2).trans (n1 j h1 h2)
      cases hs : sdL tx (psL tx e i) (rnL tx e (psL tx e i)) with
      | false =>
        refine ⟨K', false, e1.trans ?_, rfl, by rw [f2]; exact r2, xx, nn⟩
        rw [e_Mo_words_29, if_neg (show ¬ (1 : Int32) = 0 by decide), e2, k_I, k_1, k_2, k_3, hs, if_pos (show fl false = 0 from rfl)]
      | true =>
        have f4 : f < e ∧ tx f ≠ 59 := by
          rcases f3 with f3 | f3
          · rw [hs] at f3; cases f3
          · exact f3
        have et := c_takes (h := h) (L := L) (d + 4) (c := 59) (by omega) r2
        rw [← f2, decide_eq_false f4.2, Bool.and_false, if_neg (by decide)] at et
        have r3 : rdM K' tx e f := by rw [f2]; exact r2
        refine ⟨advK K' f, true, e1.trans ?_, by rw [decide_eq_false (show ¬ f = e by omega)]; rfl, r3.adv (by omega), xx.up (by simp), fun j h1 h2 => (u_j h1).trans (nn j h1 h2)⟩
        rw [e_Mo_words_29, if_neg (show ¬ (1 : Int32) = 0 by decide), e2, k_I, k_1, k_2, k_3, hs, if_neg (show ¬ fl true = 0 by decide), show (.int 59 : Value) = .int (nI 59) from rfl, et, k_I, k_1, k_2, k_3, if_pos (show fl false = 0 from rfl)]; rfl
  · obtain ⟨K', e2, r2, x2, g2, l2⟩ := c_readsWord (h := h) (L := L) d r1 (W := W) hW' g1 he.1
    have et := c_takes (h := h) (L := L) (d + 4) (c := 59) (by omega) r2
    rw [he.2.2] at et r2
    rw [decide_eq_false (show ¬ e < e by omega), Bool.false_and, if_neg (by decide)] at et
    refine ⟨advK K' e, e1.trans ?_, r2.adv (by omega), (x1.tr x2.1).up (by simp), fun j h1 h2 => (u_j h1).trans ((x2.2.1 j h1 h2).trans (n1 j h1 h2)), (u_j (by omega)).trans g2, fun i' hi' => ?_⟩
    · rw [e_Mo_words_29, if_neg (show ¬ (1 : Int32) = 0 by decide), e2, k_I, k_1, k_2, k_3, he.2.1, if_neg (show ¬ fl true = 0 by decide), show (.int 59 : Value) = .int (nI 59) from rfl, et, k_I, k_1, k_2, k_3, if_pos (show fl false = 0 from rfl)]; rfl
    · have : liM K' tx i' (psL tx e i') (rnL tx e (psL tx e i')) := by
        by_cases z : i' = i
        · rw [z]; exact l2
        · have b := l1 i' (by omega)
          have y := x2.2.2.1 i' z
          have hr8 := rnL_le tx e (psL tx e i')
          exact ⟨y.1.trans b.1, y.2.trans b.2.1, fun j hj => (x2.2.2.2 _ (by omega)).trans (b.2.2 j hj)⟩
      exact ⟨(u_c (by omega)).trans this.1, (u_c (by omega)).trans this.2.1, fun j hj => (u_c (by omega)).trans (this.2.2 j hj)⟩
end LM
