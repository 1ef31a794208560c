/-! Calls: falls, when. -/
def fpI (P : Nat → Nat → Bool) (a : Nat) : Nat → Nat → Option (Nat × Nat)
  | 0, _ => none
  | m + 1, b => if P a b then some (a, b) else fpI P a m (b + 1)
def fpO (P : Nat → Nat → Bool) (W : Nat) : Nat → Nat → Option (Nat × Nat)
  | 0, _ => none
  | m + 1, a => match fpI P a (W - (a + 1)) (a + 1) with
    | some q => some q
    | none => fpO P W m (a + 1)
def orE (x y : Option (Nat × Nat)) : Option (Nat × Nat) := match x with
  | some q => some q
  | none => y
theorem fpO_s (P : Nat → Nat → Bool) (W : Nat) {a : Nat} (ha : a < W) : fpO P W (W - a) a = orE (fpI P a (W - (a + 1)) (a + 1)) (fpO P W (W - (a + 1)) (a + 1)) := by
  rw [show W - a = (W - (a + 1)) + 1 by omega, fpO]
  rfl
theorem fpI_t {P : Nat → Nat → Bool} {W a b : Nat} (hb : b < W) (h : P a b = true) : fpI P a (W - b) b = some (a, b) := by
  rw [show W - b = (W - (b + 1)) + 1 by omega, fpI, if_pos h]
theorem fpI_f {P : Nat → Nat → Bool} {W a b : Nat} (hb : b < W) (h : P a b = false) : fpI P a (W - b) b = fpI P a (W - (b + 1)) (b + 1) := by
  rw [show W - b = (W - (b + 1)) + 1 by omega, fpI, if_neg (by rw [h]; decide)]
/-- scanning pairs for the first with P; what is told then -/
theorem lpQ {σ : Type} {F : Nat → σ → Option ev_R} {G : Nat → Nat → σ → Option ev_R} (V : σ → Prop) (P : Nat → Nat → Bool) (R : Option ev_R → Prop) (W : Nat) (h0 : ∀ a s, a < W → V s → ∃ s', F a s = G a (a + 1) s' ∧ V s') (h1 : ∀ a b s, a < b → b < W → V s → P a b = false → ∃ s', G a b s = G a (b + 1) s' ∧ V s') (h2 : ∀ a s, a < W → V s → ∃ s', G a W s = F (a + 1) s' ∧ V s') (hit : ∀ a b s, a < b → b < W → V s → P a b = true → fpO P W W 0 = some (a, b) → R (G a b s)) (fin : ∀ s, V s → fpO P W W 0 = none → R (F W s)) : ∀ s, V s → R (F 0 s) := by
  intro s hs
  refine lpP (F := F) (G := G) (fun a s => V s ∧ fpO P W (W - a) a = fpO P W W 0) (fun a b s => V s ∧ orE (fpI P a (W - b) b) (fpO P W (W - (a + 1)) (a + 1)) = fpO P W W 0) R W ?_ ?_ ?_ ?_ s ⟨hs, rfl⟩
  · intro a s ha ⟨v, q⟩
    obtain ⟨s', e, v'⟩ := h0 a s ha v
    exact ⟨s', e, v', by rw [← q, fpO_s P W ha]⟩
  · intro a b s hab hb ⟨v, q⟩
    cases hp : P a b with
    | true =>
      rw [fpI_t hb hp] at q
      exact Or.inr (hit a b s hab hb v hp q.symm)
    | false =>
      obtain ⟨s', e, v'⟩ := h1 a b s hab hb v hp
      rw [fpI_f hb hp] at q
      exact Or.inl ⟨s', e, v', q⟩
  · intro a s ha ⟨v, q⟩
    obtain ⟨s', e, v'⟩ := h2 a s ha v
    rw [Nat.sub_self] at q
    exact ⟨s', e, v', q⟩
  · intro s ⟨v, q⟩
    rw [Nat.sub_self] at q
    exact fin s v q.symm
theorem ctr_pos {f : Nat → Bool} : ∀ {m i : Nat}, 0 < ctr f i m ↔ ∃ j, i ≤ j ∧ j < i + m ∧ f j = true
  | 0, i => ⟨fun z => absurd z (by simp [ctr]), fun ⟨j, h1, h2, _⟩ => absurd h2 (by omega)⟩
  | m + 1, i => by
    rw [ctr]
    have ih := ctr_pos (f := f) (m := m) (i := i + 1)
    constructor
    · intro z
      cases hf : f i with
      | true => exact ⟨i, by omega, by omega, hf⟩
      | false =>
        rw [hf] at z
        obtain ⟨j, h1, h2, h3⟩ := ih.mp (by simpa using z)
        exact ⟨j, by omega, by omega, h3⟩
    · rintro ⟨j, h1, h2, h3⟩
      by_cases e : j = i
      · rw [← e, h3]; simp; omega
      · have := ih.mpr ⟨j, by omega, by omega, h3⟩
        omega
theorem fpI_ct {P : Nat → Nat → Bool} {a : Nat} : ∀ {m b : Nat}, fpI P a m b = none ↔ ctr (P a) b m = 0
  | 0, b => ⟨fun _ => rfl, fun _ => rfl⟩
  | m + 1, b => by
    rw [fpI, ctr]
    cases hp : P a b with
    | true => simp
    | false => simpa using fpI_ct (P := P) (a := a) (m := m) (b := b + 1)
theorem fpO_ct {P : Nat → Nat → Bool} {W : Nat} : ∀ {m a : Nat}, fpO P W m a = none ↔ prs P W a m = 0
  | 0, a => ⟨fun _ => rfl, fun _ => rfl⟩
  | m + 1, a => by
    rw [fpO, prs]
    have h1 := fpI_ct (P := P) (a := a) (m := W - (a + 1)) (b := a + 1)
    have h2 := fpO_ct (P := P) (W := W) (m := m) (a := a + 1)
    cases hp : fpI P a (W - (a + 1)) (a + 1) with
    | some q =>
      have : ctr (P a) (a + 1) (W - (a + 1)) ≠ 0 := fun z => by rw [h1.mpr z] at hp; cases hp
      constructor
      · intro z; cases z
      · intro z; omega
    | none =>
      have := h1.mp hp
      constructor
      · intro z; have := h2.mp z; omega
      · intro z; exact h2.mpr (by omega)
section OP
variable {h : Bool × Nat × Nat} {d : Nat} {I J : Nat → Nat → Int32} {L : Nat → Nat → Int64} {A : aP}
/-- the pair falls on day i + 1 -/
def flP (A : aP) (i a b : Nat) : Bool := fal (aBk A).2.1 (aBk A).2.2 (uO (pDy A (i + 1))) (uO (pDy A (i + 1)) 24) a b
def flR (A : aP) (i : Nat) : Option (Nat × Nat) := fpO (flP A i) (aBk A).1 (aBk A).1 0
theorem uO_24 (A : aP) (i : Nat) : uO (pDy A (i + 1)) 24 = stN (aBk A).1 (aBk A).2.1 (aBk A).2.2 (aRl A).2 (aRl A).1 (pDy A i) := uO_nI rfl (by have := stN_lt (aBk A).1 (aBk A).2.1 (aBk A).2.2 (aRl A).2 (aRl A).1 (pDy A i); omega)
theorem uO_w (A : aP) (i : Nat) {w : Nat} (hw : w < 8) : uO (pDy A (i + 1)) w = uO (pDy A i) w := by
  unfold uO
  rw [show pDy A (i + 1) w = pDy A i w from if_pos hw]
theorem flR_F (hw : wfA A) (i : Nat) : flR A i = none ↔ dayF (aBk A).1 (aBk A).2.1 (aBk A).2.2 (aRl A).2 (aRl A).1 (pDy A i) = 0 := by
  have hW := hw.2.2.1.1
  unfold flR dayF dFl
  rw [fpO_ct]
  have : prs (flP A i) (aBk A).1 0 (aBk A).1 = prs (fal (aBk A).2.1 (aBk A).2.2 (uO (pDy A i)) (stN (aBk A).1 (aBk A).2.1 (aBk A).2.2 (aRl A).2 (aRl A).1 (pDy A i))) (aBk A).1 0 (aBk A).1 := by
    apply prs_congr _ _ _ (by omega)
    intro a b ha hb
    unfold flP fal
    rw [uO_24, uO_w A i (show a < 8 by omega), uO_w A i (show b < 8 by omega)]
  rw [this]
/-- the trial state is t -/
theorem c_tellFirst (d : Nat) (hw : wfA A) (hi : invC I L A) (f : frC I J) {i : Nat} (hT : cSt 21 J (pDy A (i + 1))) {L' : Nat → Nat → Int64} {q : Nat × Nat} (hq : flR A i = some q) : ∃ p : sIL, ev_do (d + 5) M_SL_tellFirstFallen [.ref 0] (ev_mk h J L') = ev_rn (ev_mk h p.1 p.2) ∧ frC I p.1 ∧ rwC p.1 p.2 (snoc (snoc nil0 (nI q.1).toInt64) (nI q.2).toInt64) ∧ p.2 140 = L' 140 := by
  have hW := hw.2.2.1.1
  have hwf := pDy_wf hw (i + 1)
  have hu : ∀ w, w < (aBk A).1 → J (21 + 1) w = nI (uO (pDy A (i + 1)) w) := fun w hw' => ((hT.1 w (by omega)).1).trans (hwf.u (by omega)).1
  obtain ⟨K, e1, x1, c1⟩ := c_Book_spellAll (h := h) (L := L') (s := uO (pDy A (i + 1)) 24) d (hi.bk f).1 (Or.inr rfl : 21 = 17 ∨ 21 = 21) (Or.inr rfl : 133 = 110 ∨ 133 = 133) hu
  have f1 : frC I K := f.x x1 (by simp [scC])
  have hW5 := (hi.bk f1).1.1
  have hlen : ∀ a, a < (aBk A).1 → ∀ u t, (looks ((aBk A).2.2 a) ((aBk A).2.1 a) u t).length ≤ 8 := fun a ha u t => Nat.le_trans (looks_len _ _ _ _) (hw.2.2.1.2 a (by omega)).1
  have hltl : ∀ a, a < (aBk A).1 → ∀ u t, ∀ l ∈ looks ((aBk A).2.2 a) ((aBk A).2.1 a) u t, l < 8 := fun a ha u t => looks_lt ((hw.2.2.1.2 a (by omega)).2.2.2)
  have hcod : ∀ a b, a < (aBk A).1 → b < (aBk A).1 → (K 133 a = K 133 b ↔ looks ((aBk A).2.2 a) ((aBk A).2.1 a) (uO (pDy A (i + 1)) a) (uO (pDy A (i + 1)) 24) = looks ((aBk A).2.2 b) ((aBk A).2.1 b) (uO (pDy A (i + 1)) b) (uO (pDy A (i + 1)) 24)) := fun a b ha hb => by
    rw [c1 a ha, c1 b hb]
    exact q_code (hlen a ha _ _) (hlen b hb _ _) (hltl a ha _ _) (hltl b hb _ _)
  have hon0 : ∀ a b, on A a b 0 = decide (looks ((aBk A).2.2 a) ((aBk A).2.1 a) (uO (pDy A (i + 1)) a) 0 = looks ((aBk A).2.2 b) ((aBk A).2.1 b) (uO (pDy A (i + 1)) b) 0) := fun a b => by
    unfold on lk
    rw [looks_0 _ _ (uO (aS A) a), looks_0 _ _ (uO (aS A) b), looks_0 _ _ (uO (pDy A (i + 1)) a), looks_0 _ _ (uO (pDy A (i + 1)) b)]
  rw [e_SL_tellFirstFallen_0, hT.2.1, hwf.s.1, e1, k_V, k_1, k_2, k_3]
  refine lpQ (F := fun a (_ : Unit) => ev_at (d + 4) M_SL_tellFirstFallen 24 [.ref 0, .int (nI a), .float 0] [] (ev_mk h K L')) (G := fun a b _ => ev_at (d + 4) M_SL_tellFirstFallen 39 [.ref 0, .int (nI a), .int (nI b)] [] (ev_mk h K L')) (fun _ => True) (flP A i) (fun o => ∃ p : sIL, o = ev_rn (ev_mk h p.1 p.2) ∧ frC I p.1 ∧ rwC p.1 p.2 (snoc (snoc nil0 (nI q.1).toInt64) (nI q.2).toInt64) ∧ p.2 140 = L' 140) (aBk A).1 ?_ ?_ ?_ ?_ ?_ () trivial
  · intro a _ ha _
    refine ⟨(), ?_, trivial⟩
    rw [e_SL_tellFirstFallen_24]; simp (disch := first | omega | assumption) only [hW5, k_I, k_L, k_V, k_1, k_2, k_3, q_cl, z_in, z_lt_t, z_lt_f, z_eq_t, z_eq_f, q_add, q_sub, q_mul, z_tt, z_bit, z_shl, u_at, u_c, u_j, fa_or, z_fl, z_flf, eq_self, ↓reduceIte, z_0, z_1, z_2, z_3, z_4, z_5, z_6, z_7, z_8, z_9, z_10, z_12, z_15, z_16, z_24, z_27, z_40, z_60, z_79, z_80, z_99, z_255, z_256, z_405, z_432, z_9999, z_1000000]
  · intro a b _ hab hb _ hp
    refine ⟨(), ?_, trivial⟩
    have htw := xTw (h := h) (L' := L') (d + 3) hw hi f1 (show a < (aBk A).1 by omega) hb
    rw [hon0] at htw
    unfold flP fal at hp
    rw [e_SL_tellFirstFallen_39, hW5, if_pos ((q_lt (by omega) (by omega)).mpr hb), q_in (by omega), if_pos (by simp <;> omega), q_in (by omega), if_pos (by simp <;> omega), q_cl (by omega), q_cl (by omega), htw, show nI b + 1 = nI (b + 1) from q_add b 1]
    by_cases e : looks ((aBk A).2.2 a) ((aBk A).2.1 a) (uO (pDy A (i + 1)) a) (uO (pDy A (i + 1)) 24) = looks ((aBk A).2.2 b) ((aBk A).2.1 b) (uO (pDy A (i + 1)) b) (uO (pDy A (i + 1)) 24)
    · rw [if_pos ((hcod a b (by omega) hb).mpr e), k_I, k_1, k_2, k_3]
      rw [decide_eq_true e, Bool.true_and] at hp
      rw [if_neg (fun z => by rw [(fl_0 _).mp z] at hp; cases hp)]
    · rw [if_neg (fun z => e ((hcod a b (by omega) hb).mp z))]
  · intro a _ ha _
    refine ⟨(), ?_, trivial⟩
    rw [e_SL_tellFirstFallen_39]; simp (disch := first | omega | assumption) only [hW5, k_I, k_L, k_V, k_1, k_2, k_3, q_cl, z_in, z_lt_t, z_lt_f, z_eq_t, z_eq_f, q_add, q_sub, q_mul, z_tt, z_bit, z_shl, u_at, u_c, u_j, fa_or, z_fl, z_flf, eq_self, ↓reduceIte, z_0, z_1, z_2, z_3, z_4, z_5, z_6, z_7, z_8, z_9, z_10, z_12, z_15, z_16, z_24, z_27, z_40, z_60, z_79, z_80, z_99, z_255, z_256, z_405, z_432, z_9999, z_1000000]
  · intro a b _ hab hb _ hp hfp
    have htw := xTw (h := h) (L' := L') (d + 3) hw hi f1 (show a < (aBk A).1 by omega) hb
    rw [hon0] at htw
    have eq : q = (a, b) := by
      have hq' : fpO (flP A i) (aBk A).1 (aBk A).1 0 = some q := hq
      rw [hfp] at hq'
      cases hq'; rfl
    unfold flP fal at hp
    rw [Bool.and_eq_true] at hp
    have e := of_decide_eq_true hp.1
    obtain ⟨K2, L2, j1, j2, j3, j4⟩ := t_two (h := h) (I := K) (L := L') (x := (nI a).toInt64) (y := (nI b).toInt64) (d + 2)
    refine ⟨(K2, L2), ?_, f1.x j2 (by simp [scC]), by rw [eq]; exact j4, j3 140 (by omega)⟩
    rw [e_SL_tellFirstFallen_39, hW5, if_pos ((q_lt (by omega) (by omega)).mpr hb), q_in (by omega), if_pos (by simp <;> omega), q_in (by omega), if_pos (by simp <;> omega), q_cl (by omega), q_cl (by omega), htw, if_pos ((hcod a b (by omega) hb).mpr e), k_I, k_1, k_2, k_3, if_pos ((fl_0 _).mpr (by have := hp.2; simpa using this)), j1, k_V, k_1, k_2, k_3]
  · intro _ _ hfp
    have hq' : fpO (flP A i) (aBk A).1 (aBk A).1 0 = some q := hq
    rw [hfp] at hq'
    cases hq'
theorem z99 {i : Nat} (hi : i < 99) : ¬ (99 : Int32) < nI (i + 1) := fun z => absurd ((q_lt (a := 99) (by omega) (by omega)).mp z) (by omega)
theorem op_falls (hi : inv I L) : okI h d M_SL_falls M_Mo_falls [] I L := by
  refine ok_q (fun A hw => ?_) hi
  have hW := hw.2.2.1.1
  have hT := hw.2.2.2.2.1
  obtain ⟨v, hv⟩ : ∃ v, v = fun k : Nat => if k < 99 then nI (k + 1) else -2 := ⟨_, rfl⟩
  obtain ⟨k, hk⟩ : ∃ k, k = fS (fun i => (flR A i).isSome) 99 0 := ⟨_, rfl⟩
  have hkle : k ≤ 99 := by have := fS_le (fun i => (flR A i).isSome) 99 0; omega
  obtain ⟨t, ht⟩ : ∃ t : Nat × (Nat → Int64), t = if k < 99 then (match flR A k with | some q => snoc (snoc nil0 (nI q.1).toInt64) (nI q.2).toInt64 | none => aRw A) else aRw A := ⟨_, rfl⟩
  refine ⟨if k < 99 then nI (k + 1) else -2, t, ?_, fun I L hi => ?_, fun I L hi => ?_⟩
  · rw [ht]
    split
    · split
      · exact show 2 ≤ 9 by decide
      · exact hw.2.1
    · exact hw.2.1
  · have x1 := cpS_ex I 21 17
    have s1 : cSt 21 (cpS I 21 17) (pDy A 0) := cpS_st (by omega) hi.2.2.2.1
    rw [e_SL_falls_0, c_copyT, k_V, k_1, k_2, k_3]
    refine lpX (τ := sIL) (F := fun i J => ev_at (d + 99) M_SL_falls 13 [.ref 0, .int (nI (i + 1))] [] (ev_mk h J L)) (fun i J => frC I J ∧ J 3 1 = I 3 1 ∧ cSt 21 J (pDy A i) ∧ fS (fun i => (flR A i).isSome) (99 - i) i = k) 99 ?_ ?_ 0 (by omega) _ ⟨frC.rf.x x1 (by simp [scC]), by rw [x1 3 (by simp)], s1, hk.symm⟩
    · intro i J hi' ⟨p1, p2, p3, p4⟩
      obtain ⟨J1, g1, g2, g3, g4⟩ := c_passDay (h := h) (L := L) (d + 94) (hi.bk p1) (Or.inr rfl : 21 = 17 ∨ 21 = 21) p3 (pDy_wf hw i) (hi.rl p1) hT
      have hF := dayF_le (len := (aBk A).2.1) (lt := (aBk A).2.2) (T := (aRl A).2) (n := (aRl A).1) (s := pDy A i) hW
      have f1 : frC I J1 := p1.tr (frC.of g2 (by simp [scC]) g3 (by simp))
      rw [show 99 - i = (99 - (i + 1)) + 1 by omega] at p4
      rw [e_SL_falls_13, if_neg (z99 hi'), g1, k_I, k_1, k_2, k_3, show nI (i + 1) + 1 = nI (i + 1 + 1) from q_add _ 1]
      cases hr : flR A i with
      | some q =>
        have h0 : 0 < dayF (aBk A).1 (aBk A).2.1 (aBk A).2.2 (aRl A).2 (aRl A).1 (pDy A i) := Nat.pos_of_ne_zero (fun z => by rw [(flR_F hw i).mpr z] at hr; cases hr)
        rw [fS_hit (P := fun i => (flR A i).isSome) (by rw [hr]; rfl)] at p4
        obtain ⟨p, j1, j2, j3, j4⟩ := c_tellFirst (h := h) (L' := L) (d + 94) hw hi f1 g4 hr
        refine Or.inr ⟨p, ?_, j2, ?_, j4⟩
        · rw [if_pos (show (0 : Int32) < nI _ from (q_lt (a := 0) (by omega) (by omega)).mpr h0), j1, k_V, k_1, k_2, k_3, ← p4, if_pos hi']
        · rw [ht, ← p4, if_pos hi', hr]; exact j3
      | none =>
        have h0 := (flR_F hw i).mp hr
        rw [fS_no (P := fun i => (flR A i).isSome) (by rw [hr]; rfl)] at p4
        refine Or.inl ⟨J1, ?_, f1, by rw [g2 3 (by simp)]; exact p2, g4, p4⟩
        rw [if_neg (by rw [h0]; decide)]
    · intro J ⟨p1, p2, p3, p4⟩
      rw [Nat.sub_self] at p4
      have p4' : 99 = k := p4
      refine ⟨(J, L), ?_, p1, ?_, rfl⟩
      · rw [e_SL_falls_13, if_pos (by decide), if_neg (by omega)]
      · rw [ht, if_neg (by omega)]; exact hi.2.1.of p2 rfl
  · obtain ⟨I1, e1, x1, s1⟩ := c_Mo_copies (h := h) (L := L) (d + 98) hi.th.2.2.2.1
    have f1 : frM I I1 := frM.t0.x x1 (by simp [scM])
    rw [e_Mo_falls_0, e1, k_V, k_1, k_2, k_3]
    refine lpX (τ := sIL) (F := fun i J => ev_at (d + 99) M_Mo_falls 11 [.ref 139, .int (nI (i + 1)), .float 0, .float 0] [] (ev_mk h J L)) (fun i J => frM I J ∧ J 139 1 = I 139 1 ∧ mSt 144 0 J (pDy A i) ∧ fS (fun i => (flR A i).isSome) (99 - i) i = k) 99 ?_ ?_ 0 (by omega) _ ⟨f1, by rw [x1 139 (by simp), u_j (by omega)], s1, hk.symm⟩
    · intro i J hi' ⟨p1, p2, p3, p4⟩
      obtain ⟨J1, g1, g2, g3⟩ := c_dayGoes (h := h) (L := L) (d + 92) (hi.bk p1) (Or.inr rfl : 144 = 143 ∨ 144 = 144) p3 (pDy_wf hw i) (hi.rl p1) hT
      have f2 : frM I J1 := p1.x g2 (by simp [scM])
      have j1 : J1 139 1 = I 139 1 := by rw [g2 139 (by simp)]; exact p2
      have hwf := pDy_wf hw (i + 1)
      rw [show 99 - i = (99 - (i + 1)) + 1 by omega] at p4
      have inn : (∃ s' : Nat → Nat → Int32, ev_at (d + 99) M_Mo_falls 28 [.ref 139, .int (nI (i + 1)), .int (nI 0), .float 0] [] (ev_mk h J1 L) = ev_at (d + 99) M_Mo_falls 11 [.ref 139, .int (nI (i + 1 + 1)), .float 0, .float 0] [] (ev_mk h s' L) ∧ (frM I s' ∧ s' 139 1 = I 139 1 ∧ mSt 144 0 s' (pDy A (i + 1))) ∧ flR A i = none) ∨ (∃ (p : sIL) (q : Nat × Nat), ev_at (d + 99) M_Mo_falls 28 [.ref 139, .int (nI (i + 1)), .int (nI 0), .float 0] [] (ev_mk h J1 L) = ev_ri (nI (i + 1)) (ev_mk h p.1 p.2) ∧ flR A i = some q ∧ frM I p.1 ∧ rwM p.1 p.2 (snoc (snoc nil0 (nI q.1).toInt64) (nI q.2).toInt64) ∧ p.2 4 = L 4) := by
        refine lpQ (F := fun a K => ev_at (d + 99) M_Mo_falls 28 [.ref 139, .int (nI (i + 1)), .int (nI a), .float 0] [] (ev_mk h K L)) (G := fun a b K => ev_at (d + 99) M_Mo_falls 40 [.ref 139, .int (nI (i + 1)), .int (nI a), .int (nI b)] [] (ev_mk h K L)) (fun K => frM I K ∧ K 139 1 = I 139 1 ∧ mSt 144 0 K (pDy A (i + 1))) (flP A i) (fun o => (∃ s' : Nat → Nat → Int32, o = ev_at (d + 99) M_Mo_falls 11 [.ref 139, .int (nI (i + 1 + 1)), .float 0, .float 0] [] (ev_mk h s' L) ∧ (frM I s' ∧ s' 139 1 = I 139 1 ∧ mSt 144 0 s' (pDy A (i + 1))) ∧ flR A i = none) ∨ (∃ (p : sIL) (q : Nat × Nat), o = ev_ri (nI (i + 1)) (ev_mk h p.1 p.2) ∧ flR A i = some q ∧ frM I p.1 ∧ rwM p.1 p.2 (snoc (snoc nil0 (nI q.1).toInt64) (nI q.2).toInt64) ∧ p.2 4 = L 4)) (aBk A).1 ?_ ?_ ?_ ?_ ?_ J1 ⟨f2, j1, g3⟩
        · intro a K ha v
          refine ⟨K, ?_, v⟩
          rw [e_Mo_falls_28, (hi.bk v.1).1, if_pos ((q_lt (by omega) (by omega)).mpr ha), show nI a + 1 = nI (a + 1) from q_add a 1]
        · intro a b K hab hb v hp
          have hu : ∀ w, w < (aBk A).1 → K 144 w = nI (uO (pDy A (i + 1)) w) := fun w hw' => (v.2.2.at (by omega)).trans (hwf.u (by omega)).1
          obtain ⟨K1, c1, c2⟩ := c_Mo_isOneBy (h := h) (L := L) (s := uO (pDy A (i + 1)) 24) (d + 96) (hi.bk v.1) (Or.inr rfl : 144 = 143 ∨ 144 = 144) (show a < 8 by omega) (show b < 8 by omega) (hu a (by omega)) (hu b hb)
          have v1 : frM I K1 ∧ K1 139 1 = I 139 1 ∧ mSt 144 0 K1 (pDy A (i + 1)) := ⟨v.1.x c2 (by simp [scM]), by rw [c2 139 (by simp)]; exact v.2.1, v.2.2.ex c2 (by simp)⟩
          rw [e_Mo_falls_40, (hi.bk v.1).1, if_pos ((q_lt (by omega) (by omega)).mpr hb), v.2.2.at (show 24 < 27 by omega), hwf.s.1, c1, k_I, k_1, k_2, k_3, show nI b + 1 = nI (b + 1) from q_add b 1]
          unfold flP fal at hp
          cases ho : decide (looks ((aBk A).2.2 a) ((aBk A).2.1 a) (uO (pDy A (i + 1)) a) (uO (pDy A (i + 1)) 24) = looks ((aBk A).2.2 b) ((aBk A).2.1 b) (uO (pDy A (i + 1)) b) (uO (pDy A (i + 1)) 24)) with
          | false => exact ⟨K1, by rw [if_pos (show fl false = 0 from rfl)], v1⟩
          | true =>
            rw [ho, Bool.true_and] at hp
            have hu1 : ∀ w, w < (aBk A).1 → K1 144 w = nI (uO (pDy A (i + 1)) w) := fun w hw' => (v1.2.2.at (by omega)).trans (hwf.u (by omega)).1
            obtain ⟨K2, c3, c4⟩ := c_Mo_isOneBy (h := h) (L := L) (s := 0) (d + 96) (hi.bk v1.1) (Or.inr rfl : 144 = 143 ∨ 144 = 144) (show a < 8 by omega) (show b < 8 by omega) (hu1 a (by omega)) (hu1 b hb)
            refine ⟨K2, ?_, v1.1.x c4 (by simp [scM]), by rw [c4 139 (by simp)]; exact v1.2.1, v1.2.2.ex c4 (by simp)⟩
            rw [if_neg (show ¬ fl true = 0 by decide), show (.int 0 : Value) = .int (nI 0) from rfl, c3, k_I, k_1, k_2, k_3, if_neg (fun z => by rw [(fl_0 _).mp z] at hp; cases hp)]
        · intro a K ha v
          refine ⟨K, ?_, v⟩
          rw [e_Mo_falls_40, (hi.bk v.1).1, if_neg (fun z => absurd ((q_lt (by omega) (by omega)).mp z) (by omega)), show nI a + 1 = nI (a + 1) from q_add a 1]
        · intro a b K hab hb v hp hfp
          refine Or.inr ?_
          have hu : ∀ w, w < (aBk A).1 → K 144 w = nI (uO (pDy A (i + 1)) w) := fun w hw' => (v.2.2.at (by omega)).trans (hwf.u (by omega)).1
          obtain ⟨K1, c1, c2⟩ := c_Mo_isOneBy (h := h) (L := L) (s := uO (pDy A (i + 1)) 24) (d + 96) (hi.bk v.1) (Or.inr rfl : 144 = 143 ∨ 144 = 144) (show a < 8 by omega) (show b < 8 by omega) (hu a (by omega)) (hu b hb)
          have v1 : frM I K1 ∧ K1 139 1 = I 139 1 ∧ mSt 144 0 K1 (pDy A (i + 1)) := ⟨v.1.x c2 (by simp [scM]), by rw [c2 139 (by simp)]; exact v.2.1, v.2.2.ex c2 (by simp)⟩
          have hu1 : ∀ w, w < (aBk A).1 → K1 144 w = nI (uO (pDy A (i + 1)) w) := fun w hw' => (v1.2.2.at (by omega)).trans (hwf.u (by omega)).1
          obtain ⟨K2, c3, c4⟩ := c_Mo_isOneBy (h := h) (L := L) (s := 0) (d + 96) (hi.bk v1.1) (Or.inr rfl : 144 = 143 ∨ 144 = 144) (show a < 8 by omega) (show b < 8 by omega) (hu1 a (by omega)) (hu1 b hb)
          unfold flP fal at hp
          rw [Bool.and_eq_true] at hp
          obtain ⟨K3, L3, e3, x3, n3, l3, r3⟩ := t_enters (h := h) (x := (nI a).toInt64) (d + 98) (rwM.nil (I := K2) (L := L)) (show 0 < 24 by decide)
          obtain ⟨K4, L4, e4, x4, n4, l4, r4⟩ := t_enters (h := h) (x := (nI b).toInt64) (d + 98) r3 (show 1 < 24 by decide)
          refine ⟨(K4, L4), (a, b), ?_, hfp, (((v1.1.x c4 (by simp [scM])).t1 _).e x3 n3).e x4 n4, r4, (l4 4 (by omega)).trans (l3 4 (by omega))⟩
          rw [e_Mo_falls_40, (hi.bk v.1).1, if_pos ((q_lt (by omega) (by omega)).mpr hb), v.2.2.at (show 24 < 27 by omega), hwf.s.1, c1, k_I, k_1, k_2, k_3, hp.1, if_neg (show ¬ fl true = 0 by decide), show (.int 0 : Value) = .int (nI 0) from rfl, c3, k_I, k_1, k_2, k_3, if_pos ((fl_0 _).mpr (by have := hp.2; simpa using this)), e3, k_V, k_1, k_2, k_3, e4, k_V, k_1, k_2, k_3]
        · intro K v hfp
          refine Or.inl ⟨K, ?_, v, hfp⟩
          rw [e_Mo_falls_28, (hi.bk v.1).1, if_neg (fun z => absurd ((q_lt (by omega) (by omega)).mp z) (by omega)), show nI (i + 1) + 1 = nI (i + 1 + 1) from q_add _ 1]
      rw [e_Mo_falls_11, if_neg (z99 hi'), g1, k_I, k_1, k_2, k_3]
      rcases inn with ⟨s', c1, c2, c3⟩ | ⟨p, q, c1, c2, c3, c4, c5⟩
      · rw [fS_no (P := fun i => (flR A i).isSome) (by rw [c3]; rfl)] at p4
        exact Or.inl ⟨s', c1, c2.1, c2.2.1, c2.2.2, p4⟩
      · rw [fS_hit (P := fun i => (flR A i).isSome) (by rw [c2]; rfl)] at p4
        refine Or.inr ⟨p, ?_, c3, ?_, c5⟩
        · rw [← p4, if_pos hi']; exact c1
        · rw [ht, ← p4, if_pos hi', c2]; exact c4
    · intro J ⟨p1, p2, p3, p4⟩
      rw [Nat.sub_self] at p4
      have p4' : 99 = k := p4
      refine ⟨(J, L), ?_, p1, ?_, rfl⟩
      · rw [e_Mo_falls_11, if_pos (by decide), if_neg (by omega)]
      · rw [ht, if_neg (by omega)]; exact hi.2.1.of p2 rfl
end OP
