/-! A day goes by. -/
def uO (s : Nat → Int32) (j : Nat) : Nat := (s j).toNatClampNeg
def bnd (len : Nat → Nat) (j : Nat) : Nat := if j < 8 then 2 ^ len j else if j < 24 then 10 else if j = 24 then 256 else 10000
/-- a state's numbers are as they can be -/
def wfS (len : Nat → Nat) (s : Nat → Int32) : Prop := ∀ j, j < 27 → j ≠ 25 → s j = nI (uO s j) ∧ uO s j < bnd len j
def wfB (W : Nat) (len : Nat → Nat) (lt : Nat → Nat → Nat) : Prop := W ≤ 8 ∧ ∀ w, w < 8 → len w ≤ 8 ∧ (w < W → 1 ≤ len w) ∧ (W ≤ w → len w = 0) ∧ ∀ i, i < len w → lt w i < 8
theorem wfS.u {len : Nat → Nat} {s : Nat → Int32} (h : wfS len s) {w : Nat} (hw : w < 8) : s w = nI (uO s w) ∧ uO s w < 2 ^ len w := by
  have := h w (by omega) (by omega)
  unfold bnd at this
  rwa [if_pos hw] at this
theorem wfS.m {len : Nat → Nat} {s : Nat → Int32} (h : wfS len s) {w : Nat} (hw : w < 16) : s (8 + w) = nI (uO s (8 + w)) ∧ uO s (8 + w) < 10 := by
  have := h (8 + w) (by omega) (by omega)
  unfold bnd at this
  rwa [if_neg (by omega), if_pos (by omega)] at this
theorem wfS.o {len : Nat → Nat} {s : Nat → Int32} (h : wfS len s) {w : Nat} (hw : w < 8) : s (16 + w) = nI (uO s (16 + w)) ∧ uO s (16 + w) < 10 := by
  have := h.m (w := 8 + w) (by omega)
  rwa [show 8 + (8 + w) = 16 + w by omega] at this
theorem wfS.s {len : Nat → Nat} {s : Nat → Int32} (h : wfS len s) : s 24 = nI (uO s 24) ∧ uO s 24 < 256 := h 24 (by omega) (by omega)
theorem wfS.f {len : Nat → Nat} {s : Nat → Int32} (h : wfS len s) : s 26 = nI (uO s 26) ∧ uO s 26 < 10000 := h 26 (by omega) (by omega)
theorem z_min {a b : Nat} (ha : a < 2147483648) (hb : b < 2147483648) : (if nI a < nI b then nI a else nI b) = nI (min a b) := by
  by_cases h : a < b
  · rw [if_pos ((q_lt ha hb).mpr h), Nat.min_eq_left (by omega)]
  · rw [if_neg (fun z => h ((q_lt ha hb).mp z)), Nat.min_eq_right (by omega)]
theorem z_max {a b : Nat} (ha : a < 2147483648) (hb : b < 2147483648) : (if nI a < nI b then nI b else nI a) = nI (max a b) := by
  by_cases h : a < b
  · rw [if_pos ((q_lt ha hb).mpr h), Nat.max_eq_right (by omega)]
  · rw [if_neg (fun z => h ((q_lt ha hb).mp z)), Nat.max_eq_left (by omega)]
theorem md_dn {a : Nat} (ha : a < 10) : (if nI 0 < nI a - nI 2 then nI a - nI 2 else nI 0) = nI (a - 2) := by
  have : ∀ a, a < 10 → (if nI 0 < nI a - nI 2 then nI a - nI 2 else nI 0) = nI (a - 2) := by decide +kernel
  exact this a ha
theorem md_dm {a : Nat} (ha : a < 10) : (if nI 0 < (if nI a + -nI 2 < nI 9 then nI a + -nI 2 else nI 9) then (if nI a + -nI 2 < nI 9 then nI a + -nI 2 else nI 9) else nI 0) = nI (a - 2) := by
  have : ∀ a, a < 10 → (if nI 0 < (if nI a + -nI 2 < nI 9 then nI a + -nI 2 else nI 9) then (if nI a + -nI 2 < nI 9 then nI a + -nI 2 else nI 9) else nI 0) = nI (a - 2) := by decide +kernel
  exact this a ha
theorem md_um {a : Nat} (ha : a < 10) (b : Bool) : (if nI 0 < (if nI a + fl b < nI 9 then nI a + fl b else nI 9) then (if nI a + fl b < nI 9 then nI a + fl b else nI 9) else nI 0) = nI (if b then min 9 (a + 1) else a) := by
  have : ∀ b : Bool, ∀ a, a < 10 → (if nI 0 < (if nI a + fl b < nI 9 then nI a + fl b else nI 9) then (if nI a + fl b < nI 9 then nI a + fl b else nI 9) else nI 0) = nI (if b then min 9 (a + 1) else a) := by decide +kernel
  exact this b a ha
theorem looks_0 (lt : Nat → Nat) (n u : Nat) : looks lt n u 0 = looks lt n 0 0 := look_congr fun j _ => by simp
/-- who strikes next -/
def stN (W : Nat) (len : Nat → Nat) (lt : Nat → Nat → Nat) (T : Nat → Nat) (n : Nat) (s : Nat → Int32) : Nat := msk (sks len lt W (uO s) (fun l => s (8 + l)) (fun l => s (16 + l)) (uO s 24) (s 25) T n) 8
/-- how many pairs fall -/
def dFl (W : Nat) (len : Nat → Nat) (lt : Nat → Nat → Nat) (s : Nat → Int32) (st : Nat) : Nat := prs (fal len lt (uO s) st) W 0 W
def dMd (W : Nat) (len : Nat → Nat) (lt : Nat → Nat → Nat) (s : Nat → Int32) (st l : Nat) : Nat := if st.testBit l then uO s (8 + l) - 2 else if decide (0 < sgn len lt (uO s) l true W) then min 9 (uO s (8 + l) + 1) else uO s (8 + l)
/-- the state a day later -/
def dayS (W : Nat) (len : Nat → Nat) (lt : Nat → Nat → Nat) (T : Nat → Nat) (n : Nat) (s : Nat → Int32) : Nat → Int32 := fun j => if j < 8 then s j else if j < 16 then nI (dMd W len lt s (stN W len lt T n s) (j - 8)) else if j < 24 then s j else if j = 24 then nI (stN W len lt T n s) else if j = 25 then s 25 + nI 1 else nI (min (uO s 26 + dFl W len lt s (stN W len lt T n s)) 9999)
def dayF (W : Nat) (len : Nat → Nat) (lt : Nat → Nat → Nat) (T : Nat → Nat) (n : Nat) (s : Nat → Int32) : Nat := dFl W len lt s (stN W len lt T n s)
theorem stN_lt (W : Nat) (len : Nat → Nat) (lt : Nat → Nat → Nat) (T : Nat → Nat) (n : Nat) (s : Nat → Int32) : stN W len lt T n s < 256 := msk_lt _ 8
theorem ctr_le (f : Nat → Bool) : ∀ m i, ctr f i m ≤ m
  | 0, _ => Nat.le_refl _
  | m + 1, i => by
    have := ctr_le f m (i + 1)
    rw [ctr]
    split <;> omega
theorem prs_le (P : Nat → Nat → Bool) (W : Nat) : ∀ m a, prs P W a m ≤ m * W
  | 0, _ => by simp [prs]
  | m + 1, a => by
    have h1 := prs_le P W m (a + 1)
    have h2 := ctr_le (P a) (W - (a + 1)) (a + 1)
    rw [prs, Nat.succ_mul]
    omega
theorem dayF_le {W : Nat} {len : Nat → Nat} {lt : Nat → Nat → Nat} {T : Nat → Nat} {n : Nat} {s : Nat → Int32} (hW : W ≤ 8) : dayF W len lt T n s ≤ 64 := by
  have h1 := prs_le (fal len lt (uO s) (stN W len lt T n s)) W W 0
  have h2 : W * W ≤ 8 * 8 := Nat.mul_le_mul hW hW
  unfold dayF dFl
  omega
theorem dMd_lt {W : Nat} {len : Nat → Nat} {lt : Nat → Nat → Nat} {s : Nat → Int32} {st l : Nat} (h : uO s (8 + l) < 10) : dMd W len lt s st l < 10 := by
  unfold dMd
  split
  · omega
  · split <;> omega
theorem uO_nI {s : Nat → Int32} {j a : Nat} (h : s j = nI a) (ha : a < 2147483648) : uO s j = a := by
  unfold uO
  rw [h, q_cl ha]
theorem dayS_wf {W : Nat} {len : Nat → Nat} {lt : Nat → Nat → Nat} {T : Nat → Nat} {n : Nat} {s : Nat → Int32} (h : wfS len s) : wfS len (dayS W len lt T n s) := by
  have key : ∀ (t : Nat → Int32) (j a : Nat), t j = nI a → a < bnd len j → a < 2147483648 → t j = nI (uO t j) ∧ uO t j < bnd len j := by
    intro t j a h1 h2 h3
    rw [uO_nI h1 h3]
    exact ⟨h1, h2⟩
  intro j hj hj25
  by_cases c1 : j < 8
  · have e : dayS W len lt T n s j = s j := if_pos c1
    have := h j hj hj25
    unfold uO at this ⊢
    rw [e]; exact this
  · by_cases c2 : j < 16
    · have e : dayS W len lt T n s j = nI (dMd W len lt s (stN W len lt T n s) (j - 8)) := by
        unfold dayS; rw [if_neg c1, if_pos c2]
      have h8 := (h.m (w := j - 8) (by omega)).2
      have := dMd_lt (W := W) (len := len) (lt := lt) (st := stN W len lt T n s) h8
      refine key _ j _ e ?_ (by omega)
      unfold bnd; rw [if_neg c1, if_pos (by omega)]; exact this
    · by_cases c3 : j < 24
      · have e : dayS W len lt T n s j = s j := by
          unfold dayS; rw [if_neg c1, if_neg c2, if_pos c3]
        have := h j hj hj25
        unfold uO at this ⊢
        rw [e]; exact this
      · by_cases c4 : j = 24
        · subst c4
          have := stN_lt W len lt T n s
          exact key _ 24 _ (show dayS W len lt T n s 24 = nI (stN W len lt T n s) from rfl) this (by omega)
        · have c5 : j = 26 := by omega
          subst c5
          exact key _ 26 _ (show dayS W len lt T n s 26 = nI (min (uO s 26 + dFl W len lt s (stN W len lt T n s)) 9999) from rfl) (show _ < 10000 by omega) (by omega)
theorem q_code {la lb : List Nat} (ha : la.length ≤ 8) (hb : lb.length ≤ 8) (ta : ∀ a ∈ la, a < 8) (tb : ∀ a ∈ lb, a < 8) : nI (cod la) = nI (cod lb) ↔ la = lb := by
  constructor
  · intro y
    have k1 := cod_lt 8 la ha ta
    have k2 := cod_lt 8 lb hb tb
    have k3 : (nI (cod la)).toBitVec.toNat = (nI (cod lb)).toBitVec.toNat := by rw [y]
    have t1 : ∀ n, (nI n).toBitVec.toNat = n % 2 ^ 32 := fun n => BitVec.toNat_ofNat n 32
    rw [t1, t1, Nat.mod_eq_of_lt (by omega), Nat.mod_eq_of_lt (by omega)] at k3
    exact cod_inj 8 la lb ha ta tb k3
  · intro e; rw [e]
theorem prs_congr {P Q : Nat → Nat → Bool} {W : Nat} (h : ∀ a b, a < W → b < W → P a b = Q a b) : ∀ m a, a + m ≤ W → prs P W a m = prs Q W a m := by
  have c : ∀ a, a < W → ∀ m b, b + m ≤ W → ctr (P a) b m = ctr (Q a) b m := by
    intro a ha m
    induction m with
    | zero => intro b _; rfl
    | succ m ih => intro b hb; rw [ctr, ctr, h a b ha (by omega), ih (b + 1) (by omega)]
  intro m
  induction m with
  | zero => intro a _; rfl
  | succ m ih => intro a ha; rw [prs, prs, c a (by omega) _ _ (by omega), ih (a + 1) (by omega)]
/-- the class's words, with what they look like in full -/
def bkD (I : Nat → Nat → Int32) (W : Nat) (len : Nat → Nat) (lt : Nat → Nat → Nat) : Prop := bkC I W len lt ∧ ∀ w, w < W → I 16 w = nI (cod (looks (lt w) (len w) 0 0))
theorem bkD.ex {ks : List Nat} {I J : Nat → Nat → Int32} {W : Nat} {len : Nat → Nat} {lt : Nat → Nat → Nat} (hB : bkD I W len lt) (h : exc ks I J) (hk : ∀ a, (a = 5 ∨ (7 ≤ a ∧ a < 17)) → a ∉ ks) : bkD J W len lt := by
  refine ⟨hB.1.ex h (fun a ha => hk a (by omega)), fun w hw => ?_⟩
  rw [h 16 (hk 16 (by omega))]
  exact hB.2 w hw
section DY
variable {h : Bool × Nat × Nat} {I : Nat → Nat → Int32} {L : Nat → Nat → Int64} {W : Nat} {len : Nat → Nat} {lt : Nat → Nat → Nat}
theorem c_passDay (d : Nat) (hB : bkD I W len lt) {c n : Nat} {T : Nat → Nat} {s : Nat → Int32} (hc : c = 17 ∨ c = 21) (hS : cSt c I s) (hw : wfS len s) (hR : rlC 101 I T n) (hT : okT T n) : ∃ I', ev_do (d + 5) M_Union_passDay [.ref 109, .ref 101, .ref c] (ev_mk h I L) = ev_ri (nI (dayF W len lt T n s)) (ev_mk h I' L) ∧ exc [c, c + 2, 101, 103, 110, 111, 112, 113] I I' ∧ I' 101 1 = I 101 1 ∧ cSt c I' (dayS W len lt T n s) := by
  have hW8 := hB.1.2.1
  obtain ⟨s1, s2, s3, s4⟩ := hS
  have hu : ∀ w, w < W → I (c + 1) w = nI (uO s w) := fun w hw' => ((s1 w (by omega)).1).trans (hw.u (by omega)).1
  obtain ⟨I1, e1, x1, r1, f1⟩ := c_Union_strikers (h := h) (L := L) d hB.1 (Or.inl rfl : 101 = 101 ∨ 101 = 105) hc hu hR hT (s2.trans hw.s.1) hw.s.2
  have est : msk (sks len lt W (uO s) (I (c + 2)) (I (c + 3)) (uO s 24) (I c 4) T n) 8 = stN W len lt T n s := by
    refine msk_congr fun j hj => ?_
    unfold sks grd
    rw [(s1 j hj).2.1, (s1 j hj).2.2, s3]
  rw [est] at e1
  have hst8 := stN_lt W len lt T n s
  have hdf := dayF_le (len := len) (lt := lt) (T := T) (n := n) (s := s) hW8
  unfold dayF at hdf ⊢
  generalize hst : stN W len lt T n s = st at *
  obtain ⟨J1, hJ1⟩ : ∃ J, J = ev_up I1 c 3 (nI st) := ⟨_, rfl⟩
  have xJ1 : exc [c, 112, 113, 111, 101, 103] I J1 := by
    rw [hJ1]; exact (x1.mono (by simp <;> omega)).up (by simp)
  have hB1 := hB.ex xJ1 (by intro a ha; simp; omega)
  have hu1 : ∀ w, w < W → J1 (c + 1) w = nI (uO s w) := fun w hw' => by rw [xJ1 (c + 1) (by simp <;> omega)]; exact hu w hw'
  obtain ⟨I2, e2, x2, f2⟩ := c_Book_spellAll (h := h) (L := L) (s := st) d hB1.1 hc (Or.inl rfl : 110 = 110 ∨ 110 = 133) hu1
  have xI2 : exc [c, 110, 112, 113, 111, 101, 103] I I2 := (xJ1.mono (by simp <;> omega)).tr (x2.mono (by simp))
  have hB2 := hB.ex xI2 (by intro a ha; simp; omega)
  have hlen : ∀ a, a < W → ∀ u t, (looks (lt a) (len a) u t).length ≤ 8 := fun a ha u t => Nat.le_trans (looks_len _ _ _ _) (hB.1.2.2 a (by omega)).2.1
  have hltl : ∀ a, a < W → ∀ u t, ∀ l ∈ looks (lt a) (len a) u t, l < 8 := fun a ha u t => looks_lt (fun i hi => ((hB.1.2.2 a (by omega)).2.2 i hi).2)
  have e3 := c_pairsThatFall (h := h) (L := L) (d + 2) hB2.1.1 hW8 (P := fal len lt (uO s) st) (fun a b ha hb => by
    rw [f2 a ha, f2 b hb, hB2.2 a ha, hB2.2 b hb]
    unfold fal
    rw [looks_0 (lt a) (len a) (uO s a), looks_0 (lt b) (len b) (uO s b)]
    congr 1
    · exact decide_eq_decide.mpr (q_code (hlen a ha _ _) (hlen b hb _ _) (hltl a ha _ _) (hltl b hb _ _))
    · congr 1
      exact decide_eq_decide.mpr (q_code (hlen a ha _ _) (hlen b hb _ _) (hltl a ha _ _) (hltl b hb _ _)))
  have h5 : I2 c 5 = nI (uO s 26) := by
    rw [x2 c (by simp <;> omega), hJ1, u_j (by omega), x1 c (by simp <;> omega), s4]
    exact hw.f.1
  have hf1 := hw.f.2
  have e0 : ev_do (d + 5) M_Union_passDay [.ref 109, .ref 101, .ref c] (ev_mk h I L) = ev_at (d + 4) M_Union_passDay 50 [.ref 109, .float 0, .ref c, .int (nI (dFl W len lt s st)), .int (nI 0)] [] (ev_mk h (ev_up I2 c 5 (nI (min (uO s 26 + dFl W len lt s st) 9999))) L) := by
    rw [e_Union_passDay_0 _ hc, e1, k_I, k_1, k_2, k_3, ← hJ1, e2, k_V, k_1, k_2, k_3, e3, k_I, k_1, k_2, k_3, h5, q_add, show (9999 : Int32) = nI 9999 from rfl]
    unfold dFl at hdf ⊢
    rw [z_min (by omega) (by omega)]
    rfl
  rw [e0]
  have hc3 : I2 c 3 = nI st := by rw [x2 c (by simp <;> omega), hJ1, u_at]
  have hc4 : I2 c 4 = s 25 := by rw [x2 c (by simp <;> omega), hJ1, u_j (by omega), x1 c (by simp <;> omega), s3]
  have hm2 : ∀ l, l < 8 → I2 (c + 2) l = nI (uO s (8 + l)) := fun l hl => by rw [xI2 (c + 2) (by simp <;> omega), (s1 l hl).2.1]; exact (hw.m (by omega)).1
  have h112 : ∀ l, l < 8 → I2 112 l = nI (sgn len lt (uO s) l true W) := fun l hl => by rw [x2 112 (by simp), hJ1, u_c (by omega)]; exact (f1 l hl).1
  have h101 : I2 101 1 = I 101 1 := by rw [x2 101 (by simp), hJ1, u_c (by omega)]; exact r1 1 (by omega)
  refine lpX (F := fun i J => ev_at (d + 4) M_Union_passDay 50 [.ref 109, .float 0, .ref c, .int (nI (dFl W len lt s st)), .int (nI i)] [] (ev_mk h J L)) (fun i J => exc [c + 2] (ev_up I2 c 5 (nI (min (uO s 26 + dFl W len lt s st) 9999))) J ∧ ∀ l, l < 8 → J (c + 2) l = if l < i then nI (dMd W len lt s st l) else nI (uO s (8 + l))) 8 ?_ ?_ 0 (by omega) _ ⟨exc.rf, fun l hl => ?_⟩
  · intro i J hi ⟨p1, p2⟩
    have q3 : J c 3 = nI st := by rw [p1 c (by simp), u_j (by omega)]; exact hc3
    have q112 : J 112 i = nI (sgn len lt (uO s) i true W) := by rw [p1 112 (by simp <;> omega), u_c (by omega)]; exact h112 i hi
    have qm : J (c + 2) i = nI (uO s (8 + i)) := by rw [p2 i hi, if_neg (by omega)]
    have hm9 := (hw.m (w := i) (by omega)).2
    have hsg := sgn_le (len := len) (lt := lt) (u := uO s) (l := i) (b := true) (n := W) (fun w hw' => (hB.1.2.2 w (by omega)).2.1)
    refine Or.inl ⟨ev_up J (c + 2) i (nI (dMd W len lt s st i)), ?_, p1.up (by simp), fun l hl => ?_⟩
    · have hid : J = ev_up J (c + 2) i (nI (uO s (8 + i))) := by
        funext a b
        by_cases e : a = c + 2 ∧ b = i
        · rw [e.1, e.2, u_at, qm]
        · rw [u_no e]
      unfold dMd
      cases hb : st.testBit i with
      | true =>
        rw [e_Union_passDay_50 (hk2 := hc)]; simp (disch := first | omega | assumption) only [q3, qm, q112, hb, md_dn, z_min, k_I, k_L, k_V, k_1, k_2, k_3, q_cl, z_in, z_lt_t, z_lt_f, z_eq_t, z_eq_f, q_add, q_sub, q_mul, z_tt, z_bit, z_shl, u_at, u_c, u_j, fa_or, z_fl, z_flf, eq_self, ↓reduceIte, z_0, z_1, z_2, z_3, z_4, z_5, z_6, z_7, z_8, z_9, z_10, z_12, z_15, z_16, z_24, z_27, z_40, z_60, z_79, z_80, z_99, z_255, z_256, z_405, z_432, z_9999, z_1000000]
      | false =>
        by_cases hz : 0 < sgn len lt (uO s) i true W
        · rw [e_Union_passDay_50 (hk2 := hc)]; simp (disch := first | omega | assumption) only [q3, qm, q112, hb, hz, decide_true, z_min, Bool.false_eq_true, k_I, k_L, k_V, k_1, k_2, k_3, q_cl, z_in, z_lt_t, z_lt_f, z_eq_t, z_eq_f, q_add, q_sub, q_mul, z_tt, z_bit, z_shl, u_at, u_c, u_j, fa_or, z_fl, z_flf, eq_self, ↓reduceIte, z_0, z_1, z_2, z_3, z_4, z_5, z_6, z_7, z_8, z_9, z_10, z_12, z_15, z_16, z_24, z_27, z_40, z_60, z_79, z_80, z_99, z_255, z_256, z_405, z_432, z_9999, z_1000000]
          rw [Nat.min_comm]
        · have hz' : sgn len lt (uO s) i true W = 0 := by omega
          rw [e_Union_passDay_50 (hk2 := hc)]; simp (disch := first | omega | assumption) only [q3, q112, hb, hz', Nat.lt_irrefl, decide_false, Bool.false_eq_true, k_I, k_L, k_V, k_1, k_2, k_3, q_cl, z_in, z_lt_t, z_lt_f, z_eq_t, z_eq_f, q_add, q_sub, q_mul, z_tt, z_bit, z_shl, u_at, u_c, u_j, fa_or, z_fl, z_flf, eq_self, ↓reduceIte, z_0, z_1, z_2, z_3, z_4, z_5, z_6, z_7, z_8, z_9, z_10, z_12, z_15, z_16, z_24, z_27, z_40, z_60, z_79, z_80, z_99, z_255, z_256, z_405, z_432, z_9999, z_1000000]
          rw [← hid]
    · by_cases e : l = i
      · subst e
        rw [u_at, if_pos (by omega)]
      · rw [u_j e, p2 l hl]
        by_cases e2 : l < i
        · rw [if_pos e2, if_pos (by omega)]
        · rw [if_neg e2, if_neg (by omega)]
  · intro J ⟨p1, p2⟩
    refine ⟨ev_up J c 4 (s 25 + nI 1), ?_, ?_, ?_, ?_⟩
    · have q4 : J c 4 = s 25 := by rw [p1 c (by simp), u_j (by omega)]; exact hc4
      rw [e_Union_passDay_50 (hk2 := hc)]; simp (disch := first | omega | assumption) only [q4, k_I, k_L, k_V, k_1, k_2, k_3, q_cl, z_in, z_lt_t, z_lt_f, z_eq_t, z_eq_f, q_add, q_sub, q_mul, z_tt, z_bit, z_shl, u_at, u_c, u_j, fa_or, z_fl, z_flf, eq_self, ↓reduceIte, z_0, z_1, z_2, z_3, z_4, z_5, z_6, z_7, z_8, z_9, z_10, z_12, z_15, z_16, z_24, z_27, z_40, z_60, z_79, z_80, z_99, z_255, z_256, z_405, z_432, z_9999, z_1000000]
    · exact ((((xI2.mono (by simp <;> omega)).up (by simp)).tr (p1.mono (by simp <;> omega))).up (by simp))
    · rw [u_c (by omega), p1 101 (by simp <;> omega), u_c (by omega)]; exact h101
    · refine ⟨fun w hw' => ⟨?_, ?_, ?_⟩, ?_, ?_, ?_⟩
      · rw [u_c (by omega), p1 (c + 1) (by simp), u_c (by omega), xI2 (c + 1) (by simp <;> omega), (s1 w hw').1]
        exact (if_pos hw').symm
      · rw [u_c (by omega), p2 w hw', if_pos hw']
        unfold dayS
        rw [if_neg (by omega), if_pos (by omega), hst, show 8 + w - 8 = w by omega]
      · rw [u_c (by omega), p1 (c + 3) (by simp), u_c (by omega), xI2 (c + 3) (by simp <;> omega), (s1 w hw').2.2]
        unfold dayS
        rw [if_neg (by omega), if_neg (by omega), if_pos (by omega)]
      · rw [u_j (by omega), p1 c (by simp), u_j (by omega), hc3]
        unfold dayS
        rw [hst]; rfl
      · rw [u_at]; rfl
      · rw [u_j (by omega), p1 c (by simp), u_at]
        unfold dayS
        rw [hst]; rfl
  · rw [if_neg (by omega), u_c (by omega)]
    exact hm2 l hl
end DY
