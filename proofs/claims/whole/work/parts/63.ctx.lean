/-! What a picture says while a question is answered. -/
def lk (A : aP) (w st : Nat) : List Nat := looks ((aBk A).2.2 w) ((aBk A).2.1 w) (uO (aS A) w) st
def on (A : aP) (a b st : Nat) : Bool := decide (lk A a st = lk A b st)
theorem on_comm (A : aP) (a b st : Nat) : on A a b st = on A b a st := decide_eq_decide.mpr ⟨Eq.symm, Eq.symm⟩
def unL (A : aP) : Nat := uns (aBk A).2.1 (aBk A).2.2 (uO (aS A)) (aBk A).1
theorem unL_lt (A : aP) : unL A < 256 := msk_lt _ 8
section CX
variable {h : Bool × Nat × Nat} {I J : Nat → Nat → Int32} {L L' : Nat → Nat → Int64} {A : aP}
theorem invC.bk (hi : invC I L A) (f : frC I J) : bkD J (aBk A).1 (aBk A).2.1 (aBk A).2.2 := hi.2.2.1.fr (fun a ha => f.1 a (by unfold scC; omega))
theorem invC.s (hi : invC I L A) (f : frC I J) : cSt 17 J (aS A) := hi.2.2.2.1.fr (fun a h1 h2 => f.1 a (by unfold scC; omega))
theorem invC.rl (hi : invC I L A) (f : frC I J) : rlC 101 J (aRl A).2 (aRl A).1 := ⟨f.2.1.trans hi.2.2.2.2.1.1, fun j hj => by rw [f.1 102 (by unfold scC; omega)]; exact hi.2.2.2.2.1.2 j hj⟩
theorem invC.nn (hi : invC I L A) (f : frC I J) : ntC J (aNt A) := hi.2.2.2.2.2.2.2.1.fr (fun a h1 h2 => f.1 a (by unfold scC; omega))
theorem invC.u (hi : invC I L A) (hw : wfA A) (f : frC I J) : ∀ w, w < (aBk A).1 → J 18 w = nI (uO (aS A) w) := fun w hw' => (((hi.s f).1 w (by have := hw.2.2.1.1; omega)).1).trans (hw.2.2.2.1.u (by have := hw.2.2.1.1; omega)).1
theorem invC.st3 (hi : invC I L A) (hw : wfA A) (f : frC I J) : J 17 3 = nI (uO (aS A) 24) := ((hi.s f).2.1).trans hw.2.2.2.1.s.1
theorem invM.bk (hi : invM I L A) (f : frM I J) : bkM J (aBk A).1 (aBk A).2.1 (aBk A).2.2 := by
  have := hi.2.2.1
  unfold bkM at this ⊢
  rw [f.2 3 (by omega), f.1 141 (by unfold scM; omega), f.1 142 (by unfold scM; omega)]
  exact this
theorem invM.s (hi : invM I L A) (f : frM I J) : mSt 143 0 J (aS A) := hi.2.2.2.1.fr (f.1 143 (by unfold scM; omega))
theorem invM.rl (hi : invM I L A) (f : frM I J) : rlM2 J (aRl A).2 (aRl A).1 := by
  have := hi.2.2.2.2.1
  unfold rlM2 rlM at this ⊢
  rw [f.2 20 (by omega), f.1 149 (by unfold scM; omega)]
  exact this
theorem invM.nn (hi : invM I L A) (f : frM I J) : ntM J (aNt A) := hi.2.2.2.2.2.2.2.fr (f.2 35 (by omega)) (fun a h1 h2 => f.1 a (by unfold scM; omega))
theorem invM.u (hi : invM I L A) (hw : wfA A) (f : frM I J) : ∀ w, w < (aBk A).1 → J 143 w = nI (uO (aS A) w) := fun w hw' => ((hi.s f).at (by have := hw.2.2.1.1; omega)).trans (hw.2.2.2.1.u (by have := hw.2.2.1.1; omega)).1
theorem invM.st3 (hi : invM I L A) (hw : wfA A) (f : frM I J) : J 143 24 = nI (uO (aS A) 24) := ((hi.s f).at (by omega)).trans hw.2.2.2.1.s.1
theorem frM.t0 : frM I (ev_up I 139 0 0) := frM.rf.up (by unfold scM; omega) (by omega)
theorem frM.t1 (f : frM I J) (v : Int32) : frM I (ev_up J 139 1 v) := f.up (by unfold scM; omega) (by omega)
theorem frC.t1 (f : frC I J) (v : Int32) : frC I (ev_up J 3 1 v) := f.up (by unfold scC; omega) (by omega) (by omega)
theorem frC.x (f : frC I J) {ks : List Nat} {K : Nat → Nat → Int32} (hx : exc ks J K) (h : ∀ a, a ∈ ks → scC a ∧ a ≠ 101 ∧ a ≠ 127) : frC I K := f.tr ⟨fun a ha => hx a (fun z => ha (h a z).1), by rw [hx 101 (fun z => (h _ z).2.1 rfl)], fun w _ => by rw [hx 127 (fun z => (h _ z).2.2 rfl)]⟩
theorem frM.x (f : frM I J) {ks : List Nat} {K : Nat → Nat → Int32} (hx : exc ks J K) (h : ∀ a, a ∈ ks → scM a ∧ a ≠ 139) : frM I K := f.tr ⟨fun a ha => hx a (fun z => ha (h a z).1), fun j _ => by rw [hx 139 (fun z => (h _ z).2 rfl)]⟩
theorem frM.e (f : frM I J) {K : Nat → Nat → Int32} (hx : exc [139] J K) (hn : ∀ j, j ≠ 1 → K 139 j = J 139 j) : frM I K := f.tr ⟨fun a ha => hx a (by unfold scM at ha; simp <;> omega), fun j hj => hn j (by omega)⟩
theorem lk_len (hw : wfA A) {a : Nat} (ha : a < (aBk A).1) (st : Nat) : (lk A a st).length ≤ 8 := Nat.le_trans (looks_len _ _ _ _) (hw.2.2.1.2 a (by have := hw.2.2.1.1; omega)).1
theorem lk_lt (hw : wfA A) {a : Nat} (ha : a < (aBk A).1) (st : Nat) : ∀ l ∈ lk A a st, l < 8 := looks_lt (fun i hi => (hw.2.2.1.2 a (by have := hw.2.2.1.1; omega)).2.2.2 i hi)
theorem cod_on (hw : wfA A) {a b : Nat} (ha : a < (aBk A).1) (hb : b < (aBk A).1) (st : Nat) : nI (cod (lk A a st)) = nI (cod (lk A b st)) ↔ on A a b st = true := (q_code (lk_len hw ha st) (lk_len hw hb st) (lk_lt hw ha st) (lk_lt hw hb st)).trans decide_eq_true_iff.symm
theorem xSp (d : Nat) (hw : wfA A) (hi : invC I L A) (f : frC I J) (st : Nat) {L' : Nat → Nat → Int64} : ∃ K, ev_do (d + 4) M_Book_spellAll [.ref 5, .ref 17, .int (nI st), .ref 133] (ev_mk h J L') = ev_rn (ev_mk h K L') ∧ frC I K ∧ exc [133] J K ∧ ∀ w, w < (aBk A).1 → K 133 w = nI (cod (lk A w st)) := by
  obtain ⟨K, e1, x1, f1⟩ := c_Book_spellAll (h := h) (L := L') (s := st) d (hi.bk f).1 (Or.inl rfl : 17 = 17 ∨ 17 = 21) (Or.inr rfl : 133 = 110 ∨ 133 = 133) (hi.u hw f)
  exact ⟨K, e1, f.x x1 (by simp [scC]), x1, f1⟩
theorem xOne (d : Nat) (hw : wfA A) (hi : invM I L A) (f : frM I J) {a b : Nat} (ha : a < (aBk A).1) (hb : b < (aBk A).1) (st : Nat) {L' : Nat → Nat → Int64} : ∃ K, ev_do (d + 3) M_Mo_isOneBy [.ref 139, .ref 143, .int (nI a), .int (nI b), .int (nI st)] (ev_mk h J L') = ev_ri (fl (on A a b st)) (ev_mk h K L') ∧ frM I K ∧ exc [153, 154] J K := by
  have hW := hw.2.2.1.1
  obtain ⟨K, e1, x1⟩ := c_Mo_isOneBy (h := h) (L := L') (s := st) d (hi.bk f) (Or.inl rfl : 143 = 143 ∨ 143 = 144) (by omega : a < 8) (by omega : b < 8) (hi.u hw f a ha) (hi.u hw f b hb)
  exact ⟨K, e1, f.x x1 (by simp [scM]), x1⟩
theorem xTw (d : Nat) (hw : wfA A) (hi : invC I L A) (f : frC I J) {a b : Nat} (ha : a < (aBk A).1) (hb : b < (aBk A).1) {L' : Nat → Nat → Int64} : ev_do (d + 1) M_Book_areTwins [.ref 5, .int (nI a), .int (nI b)] (ev_mk h J L') = ev_ri (fl (on A a b 0)) (ev_mk h J L') := by
  have hW := hw.2.2.1.1
  have e1 := (hi.bk f).2 a ha
  have e2 := (hi.bk f).2 b hb
  have e3 : ∀ w, lk A w 0 = looks ((aBk A).2.2 w) ((aBk A).2.1 w) 0 0 := fun w => looks_0 _ _ _
  rw [← e3] at e1 e2
  rw [e_Book_areTwins_0, q_in (a := a) (by omega), q_in (a := b) (by omega), if_pos (c := decide (a < 8) = true) (by simp <;> omega), if_pos (c := decide (b < 8) = true) (by simp <;> omega), q_cl (by omega), q_cl (by omega), e1, e2]
  cases ho : on A a b 0 with
  | true => rw [if_pos ((cod_on hw ha hb 0).mpr ho)]; rfl
  | false => rw [if_neg (fun z => by rw [(cod_on hw ha hb 0).mp z] at ho; cases ho)]; rfl
theorem c_isSet (d : Nat) {x : Int32} : ev_do (d + 1) M_SL_isSet [.int x] (ev_mk h I L) = ev_ri (fl (blw x 256)) (ev_mk h I L) := by
  rw [e_SL_isSet_0, show (255 : Int32) = nI 255 from rfl, r_two (by omega)]
  cases blw x (255 + 1) <;> rfl
end CX
/-! Calls that may throw. -/
def hfT (h : Bool × Nat × Nat) (d : Nat) (Mm : ev_Me) (as : List Value) (A A' : aP) (v : Int32) (th : Int32) : Prop := ∀ I L, invM I L A → ∃ I1, ev_do (d + 100) Mm (.ref 139 :: as) (ev_mk h I L) = ev_ri v (ev_mk h I1 L) ∧ invM I1 L A' ∧ (∀ a, a < 139 → I1 a = I a) ∧ I1 139 0 = th
def okX (h : Bool × Nat × Nat) (d : Nat) (Mc Mm : ev_Me) (as : List Value) (I : Nat → Nat → Int32) (L : Nat → Nat → Int64) : Prop := (∃ v I1 L1, ev_do (d + 100) Mc (.ref 0 :: as) (ev_mk h I L) = ev_ri v (ev_mk h I1 L1) ∧ ∀ y, ∃ I2, ev_do (d + 100) Mm (.ref 139 :: as) (ev_mk h I1 (ev_up L1 174 0 y)) = ev_ri v (ev_mk h I2 (ev_up L1 174 0 y)) ∧ I2 139 0 = 0 ∧ inv I2 (ev_up L1 174 0 y)) ∨ (ev_do (d + 100) Mc (.ref 0 :: as) (ev_mk h I L) = some (none, ev_mk (false, h.2.1 + 1, h.2.2 + 6) I L) ∧ ∃ v I2, ev_do (d + 100) Mm (.ref 139 :: as) (ev_mk (false, h.2.1 + 1, h.2.2 + 6) I L) = ev_ri v (ev_mk (false, h.2.1 + 1, h.2.2 + 6) I2 L) ∧ I2 139 0 = 1 ∧ inv I2 L)
theorem okX_of {h : Bool × Nat × Nat} {d : Nat} {Mc Mm : ev_Me} {as : List Value} (H : ∀ A, wfA A → (∃ v A', wfA A' ∧ hfC h d Mc as A A' v ∧ hfT h d Mm as A A' v 0) ∨ ((∀ I L, invC I L A → ev_do (d + 100) Mc (.ref 0 :: as) (ev_mk h I L) = some (none, ev_mk (false, h.2.1 + 1, h.2.2 + 6) I L)) ∧ ∃ v, hfT (false, h.2.1 + 1, h.2.2 + 6) d Mm as A A v 1)) {I : Nat → Nat → Int32} {L : Nat → Nat → Int64} (hi : inv I L) : okX h d Mc Mm as I L := by
  obtain ⟨A, hw, hC, hM⟩ := hi
  rcases H A hw with ⟨v, A', hw', h1, h2⟩ | ⟨h1, v, h2⟩
  · obtain ⟨I1, L1, e1, c1, f1, g1⟩ := h1 I L hC
    refine Or.inl ⟨v, I1, L1, e1, fun y => ?_⟩
    obtain ⟨I2, e2, c2, f2, g2⟩ := h2 I1 (ev_up L1 174 0 y) (hM.rest f1 (by rw [u_cf (by omega), g1]))
    exact ⟨I2, e2, g2, A', hw', c1.rest f2 (by rw [u_cf (by omega)]), c2⟩
  · obtain ⟨I2, e2, c2, f2, g2⟩ := h2 I L hM
    exact Or.inr ⟨h1 I L hC, v, I2, e2, g2, A, hw, hC.rest f2 rfl, c2⟩
section CY
variable {h : Bool × Nat × Nat} {d : Nat} {I : Nat → Nat → Int32} {L : Nat → Nat → Int64} {A : aP}
theorem invM.t1 (hi : invM I L A) : invM (ev_up (ev_up I 139 0 0) 139 0 1) L A := hi.th.q (frM.rf.up (by unfold scM; omega) (by omega)) (hi.th.2.1.of (u_j (by omega)) rfl)
theorem t1_lo : ∀ a, a < 139 → ev_up (ev_up I 139 0 0) 139 0 1 a = I a := fun a ha => by rw [u_cf (by omega), u_cf (by omega)]
theorem op_at {x y : Int32} (hi : inv I L) : okX h d M_SL_at M_Mo_at [.int x, .int y] I L := by
  refine okX_of (fun A hw => ?_) hi
  have hW := hw.2.2.1.1
  cases hxy : blw x (aBk A).1 && blw y ((aBk A).2.1 x.toNatClampNeg) with
  | false =>
    refine Or.inr ⟨fun I L hi => ?_, 0, fun I L hi => ⟨_, ?_, hi.t1, t1_lo, u_at _ _ _ _⟩⟩
    · rw [e_SL_at_0, c_hasSign (d + 97) hi.2.2.1.1, k_I, k_1, k_2, k_3, hxy, if_pos (show fl false = 0 from rfl)]
    · rw [e_Mo_at_0, c_Mo_isWord (d + 97) hi.th.2.2.1.1 hW, k_I, k_1, k_2, k_3, e_Mo_refuse_0]
      cases hx : blw x (aBk A).1 with
      | false => rw [if_pos (show fl false = 0 from rfl), k_I, k_1, k_2, k_3]
      | true =>
        obtain ⟨a, ha, rfl⟩ := (blw_iff (by omega)).mp hx
        rw [hx, Bool.true_and, q_cl (by omega)] at hxy
        have hl := hi.th.2.2.1.2.2 a (by omega)
        rw [if_neg (show ¬ fl true = 0 by decide), q_in (by omega), if_pos (by simp <;> omega), q_cl (by omega), hl.1, c_inm (d + 98) (by omega), k_I, k_1, k_2, k_3, hxy, if_pos (show fl false = 0 from rfl), e_Mo_refuse_0, k_I, k_1, k_2, k_3]
  | true =>
    have hxy' := hxy
    rw [Bool.and_eq_true] at hxy'
    obtain ⟨a, ha, rfl⟩ := (blw_iff (by omega)).mp hxy'.1
    rw [q_cl (by omega)] at hxy'
    have hB := hw.2.2.1.2 a (by omega)
    obtain ⟨b, hb, rfl⟩ := (blw_iff (by omega)).mp hxy'.2
    have hlt := hB.2.2.2 b hb
    refine Or.inl ⟨nI ((aBk A).2.2 a b + if (uO (aS A) a).testBit b then 8 else 0), A, hw, fun I L hi => ⟨I, L, ?_, hi, fun _ _ => rfl, rfl⟩, fun I L hi => ⟨_, ?_, hi.th, th_lo, u_at _ _ _ _⟩⟩
    · rw [e_SL_at_0, c_hasSign (d + 97) hi.2.2.1.1, k_I, k_1, k_2, k_3, hxy, if_neg (show ¬ fl true = 0 by decide), q_in (by omega), if_pos (by simp <;> omega), q_cl (by omega), x_row (by omega) (by omega), if_pos (by simp <;> omega), ((hi.2.2.1.1.2.2 a (by omega)).2.2 b hb).1, hi.u hw frC.rf a ha, x_bit (by omega)]
      cases (uO (aS A) a).testBit b with
      | true => rw [if_pos rfl, if_pos rfl, if_pos rfl, show (8 : Int32) = nI 8 from rfl, q_add]
      | false => rw [if_neg (by decide), if_neg (by decide)]; exact congrArg (fun z => ev_ri z (ev_mk h I L)) (q_add _ 0)
    · have hl := hi.th.2.2.1.2.2 a (by omega)
      have e8 : (8 : Int32) * nI a + nI b = nI (8 * a + b) := by rw [show (8 : Int32) = nI 8 from rfl, q_mul, q_add]
      have c1 := c_Mo_has (h := h) (I := ev_up I 139 0 0) (L := L) (d + 98) (n := uO (aS A) a) (j := b) (by omega)
      rw [show (if (uO (aS A) a).testBit b then (1 : Int32) else 0) = fl ((uO (aS A) a).testBit b) from rfl] at c1
      rw [e_Mo_at_0, c_Mo_isWord (d + 97) hi.th.2.2.1.1 hW, k_I, k_1, k_2, k_3, hxy'.1, if_neg (show ¬ fl true = 0 by decide), q_in (n := 8) (by omega), if_pos (by simp <;> omega), q_cl (by omega), hl.1, c_inm (d + 98) (by omega), k_I, k_1, k_2, k_3, hxy'.2, if_neg (show ¬ fl true = 0 by decide), e8, q_in (by omega), if_pos (by simp <;> omega), q_in (by omega), if_pos (by simp <;> omega), q_cl (by omega), hi.th.u hw frM.rf a ha, (hl.2.2 b hb).1, c1, k_I, k_1, k_2, k_3, c_Mo_flag (d + 98), k_I, k_1, k_2, k_3]
      cases (uO (aS A) a).testBit b with
      | true => rw [if_pos rfl, show (8 : Int32) * fl true = nI 8 from rfl, q_add]
      | false => rw [if_neg (by decide), show (8 : Int32) * fl false = nI 0 from rfl, q_add]
end CY
