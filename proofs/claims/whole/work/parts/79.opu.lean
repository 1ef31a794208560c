/-! Calls: power. -/
section OU
variable {h : Bool × Nat × Nat} {d : Nat} {I J : Nat → Nat → Int32} {L : Nat → Nat → Int64} {A : aP}
def vt (A : aP) (l : Nat) : Nat := sgn (aBk A).2.1 (aBk A).2.2 (uO (aS A)) l true (aBk A).1
/-- the set s is turned by the letter l -/
def trn (f : Nat → Nat) (l s : Nat) : Bool := !s.testBit l && (decide (2 * smS s f 8 ≤ smS 255 f 8) && decide (smS 255 f 8 < 2 * (smS s f 8 + f l)))
def tp (f : Nat → Nat) (l : Nat) : Nat := fb_ct (trn f l) 256
theorem tp_le (f : Nat → Nat) (l : Nat) : tp f l ≤ 256 := fb_ct_le _ 256
theorem sm_255 (f : Nat → Nat) : ∀ n, n ≤ 8 → smS 255 f n = sm f n
  | 0, _ => rfl
  | n + 1, hn => by rw [smS, sm, sm_255 f n (by omega), b255 n (by omega), if_pos rfl]
theorem c_turned (d : Nat) {f : Nat → Nat} {l : Nat} (hl : l < 8) (hf : ∀ k, k < 8 → J 135 k = nI (f k)) (hf2 : ∀ k, f k ≤ 64) : ev_do (d + 2) M_SL_setsTurnedBy [.ref 0, .int (nI l)] (ev_mk h J L) = ev_ri (nI (tp f l)) (ev_mk h J L) := by
  have hso : ∀ s, ev_do (d + 1) M_SL_sumOver [.ref 0, .int (nI s)] (ev_mk h J L) = ev_ri (nI (smS s f 8)) (ev_mk h J L) := fun s => c_sumOver d (fun k hk _ => hf k hk)
  have hs8 : ∀ s, smS s f 8 ≤ 512 := fun s => by have := smS_le (s := s) hf2 8; omega
  rw [e_SL_setsTurnedBy_0, show (.int 255 : Value) = .int (nI 255) from rfl, hso, k_I, k_1, k_2, k_3]
  refine lpE (F := fun i (_ : Unit) => ev_at (d + 1) M_SL_setsTurnedBy 13 [.ref 0, .int (nI l), .int (nI (smS 255 f 8)), .int (nI (fb_ct (trn f l) i)), .int (nI i), .float 0, .float 0] [] (ev_mk h J L)) (fun _ _ => True) (fun o => o = ev_ri (nI (tp f l)) (ev_mk h J L)) 256 ?_ ?_ 0 (by omega) () trivial
  · intro i _ hi _
    refine Or.inl ⟨(), ?_, trivial⟩
    have h1 := hs8 255
    have h2 := hs8 i
    have h3 := hf2 l
    have e66 : ∀ z : Bool, trn f l i = z → ev_at (d + 1) M_SL_setsTurnedBy 66 [.ref 0, .int (nI l), .int (nI (smS 255 f 8)), .int (nI (fb_ct (trn f l) i)), .int (nI i), .float 0, .float 0] [.int (fl z)] (ev_mk h J L) = ev_at (d + 1) M_SL_setsTurnedBy 13 [.ref 0, .int (nI l), .int (nI (smS 255 f 8)), .int (nI (fb_ct (trn f l) (i + 1))), .int (nI (i + 1)), .float 0, .float 0] [] (ev_mk h J L) := by
      intro z hz
      rw [e_SL_setsTurnedBy_66, fb_ct_succ, hz, show nI i + 1 = nI (i + 1) from q_add i 1]
      cases z with
      | true => rw [if_neg (show ¬ fl true = 0 by decide), if_pos rfl, show nI (fb_ct (trn f l) i) + 1 = nI (fb_ct (trn f l) i + 1) from q_add _ 1]
      | false => rw [if_pos (show fl false = 0 from rfl), if_neg (by decide), show nI (fb_ct (trn f l) i) + 0 = nI (fb_ct (trn f l) i + 0) from q_add _ 0]
    rw [e_SL_setsTurnedBy_13, if_pos (show nI i < (256 : Int32) from (q_lt (b := 256) (by omega) (by omega)).mpr hi), show (nI i >>> (nI l &&& 31)) &&& 1 = fl (i.testBit l) from x_bit (by omega)]
    cases hb : i.testBit l with
    | true =>
      rw [if_neg (show ¬ fl true = 0 by decide), fb_ct_succ, show trn f l i = false by unfold trn; rw [hb]; rfl, if_neg (by decide), show nI i + 1 = nI (i + 1) from q_add i 1]
      rfl
    | false =>
      rw [if_pos (show fl false = 0 from rfl), hso, k_I, k_1, k_2, k_3, show (2 : Int32) * nI (smS i f 8) = nI (2 * smS i f 8) from q_mul 2 _, q_in (by omega), q_cl (by omega), hf l hl, q_add, show (2 : Int32) * nI (smS i f 8 + f l) = nI (2 * (smS i f 8 + f l)) from q_mul 2 _]
      by_cases c1 : 2 * smS i f 8 ≤ smS 255 f 8
      · rw [if_neg (fun z => absurd ((q_lt (by omega) (by omega)).mp z) (by omega)), if_pos (by simp <;> omega)]
        by_cases c2 : smS 255 f 8 < 2 * (smS i f 8 + f l)
        · rw [if_pos ((q_lt (by omega) (by omega)).mpr c2)]
          exact e66 true (by unfold trn; rw [hb, decide_eq_true c1, decide_eq_true c2]; rfl)
        · rw [if_neg (fun z => c2 ((q_lt (by omega) (by omega)).mp z))]
          exact e66 false (by unfold trn; rw [hb, decide_eq_true c1, decide_eq_false c2]; rfl)
      · rw [if_pos ((q_lt (by omega) (by omega)).mpr (by omega))]
        exact e66 false (by unfold trn; rw [hb, decide_eq_false c1]; rfl)
  · intro _ _
    rw [e_SL_setsTurnedBy_13, if_neg (by decide)]
    rfl
theorem c_tips (d : Nat) {f : Nat → Nat} {l : Nat} (hl : l < 8) (hf : ∀ k, k < 8 → J 167 k = nI (f k)) (hf2 : ∀ k, f k ≤ 64) : ev_do (d + 2) M_Mo_tips [.ref 139, .int (nI l)] (ev_mk h J L) = ev_ri (nI (tp f l)) (ev_mk h J L) := by
  have hs8 : ∀ s, smS s f 8 ≤ 512 := fun s => by have := smS_le (s := s) hf2 8; omega
  have l1 : ev_at (d + 1) M_Mo_tips 7 [.ref 139, .int (nI l), .int (nI (sm f 0)), .int 0, .int (nI 0), .float 0, .float 0] [] (ev_mk h J L) = ev_at (d + 1) M_Mo_tips 33 [.ref 139, .int (nI l), .int (nI (smS 255 f 8)), .int 0, .int 0, .float 0, .float 0] [] (ev_mk h J L) := by
    refine lpE (F := fun i (_ : Unit) => ev_at (d + 1) M_Mo_tips 7 [.ref 139, .int (nI l), .int (nI (sm f i)), .int 0, .int (nI i), .float 0, .float 0] [] (ev_mk h J L)) (fun _ _ => True) (fun o => o = ev_at (d + 1) M_Mo_tips 33 [.ref 139, .int (nI l), .int (nI (smS 255 f 8)), .int 0, .int 0, .float 0, .float 0] [] (ev_mk h J L)) 8 ?_ ?_ 0 (by omega) () trivial
    · intro i _ hi _
      refine Or.inl ⟨(), ?_, trivial⟩
      rw [e_Mo_tips_7, if_pos (show nI i < (8 : Int32) from (q_lt (b := 8) (by omega) (by omega)).mpr hi), q_in (by omega), if_pos (by simp <;> omega), q_cl (by omega), hf i hi, q_add, show nI i + 1 = nI (i + 1) from q_add i 1, sm]
    · intro _ _
      rw [e_Mo_tips_7, if_neg (by decide), sm_255 f 8 (Nat.le_refl _)]
  rw [e_Mo_tips_0]
  refine Eq.trans l1 ?_
  refine lpE (F := fun i (_ : Unit) => ev_at (d + 1) M_Mo_tips 33 [.ref 139, .int (nI l), .int (nI (smS 255 f 8)), .int (nI (fb_ct (trn f l) i)), .int (nI i), .float 0, .float 0] [] (ev_mk h J L)) (fun _ _ => True) (fun o => o = ev_ri (nI (tp f l)) (ev_mk h J L)) 256 ?_ ?_ 0 (by omega) () trivial
  · intro i _ hi _
    refine Or.inl ⟨(), ?_, trivial⟩
    have h1 := hs8 255
    have h2 := hs8 i
    have h3 := hf2 l
    have inn : ev_at (d + 1) M_Mo_tips 47 [.ref 139, .int (nI l), .int (nI (smS 255 f 8)), .int (nI (fb_ct (trn f l) i)), .int (nI i), .int (nI (smS i f 0)), .int (nI 0)] [] (ev_mk h J L) = ev_at (d + 1) M_Mo_tips 47 [.ref 139, .int (nI l), .int (nI (smS 255 f 8)), .int (nI (fb_ct (trn f l) i)), .int (nI i), .int (nI (smS i f 8)), .int (nI 8)] [] (ev_mk h J L) := by
      refine lpE (F := fun k (_ : Unit) => ev_at (d + 1) M_Mo_tips 47 [.ref 139, .int (nI l), .int (nI (smS 255 f 8)), .int (nI (fb_ct (trn f l) i)), .int (nI i), .int (nI (smS i f k)), .int (nI k)] [] (ev_mk h J L)) (fun _ _ => True) (fun o => o = ev_at (d + 1) M_Mo_tips 47 [.ref 139, .int (nI l), .int (nI (smS 255 f 8)), .int (nI (fb_ct (trn f l) i)), .int (nI i), .int (nI (smS i f 8)), .int (nI 8)] [] (ev_mk h J L)) 8 ?_ (fun _ _ => rfl) 0 (by omega) () trivial
      intro k _ hk _
      refine Or.inl ⟨(), ?_, trivial⟩
      rw [show smS i f (k + 1) = smS i f k + (if i.testBit k then f k else 0) from rfl, e_Mo_tips_47, if_pos (show nI k < (8 : Int32) from (q_lt (b := 8) (by omega) (by omega)).mpr hk), xHas d (by omega), k_I, k_1, k_2, k_3, show nI k + 1 = nI (k + 1) from q_add k 1]
      cases hb : i.testBit k with
      | false => rw [if_pos (show fl false = 0 from rfl), if_neg (by decide), show nI (smS i f k) + 0 = nI (smS i f k + 0) from q_add _ 0]
      | true => rw [if_neg (show ¬ fl true = 0 by decide), if_pos rfl, q_in (by omega), if_pos (by simp <;> omega), q_cl (by omega), hf k hk, q_add]
    have e124 : ∀ z : Bool, trn f l i = z → ev_at (d + 1) M_Mo_tips 124 [.ref 139, .int (nI l), .int (nI (smS 255 f 8)), .float 0, .int (nI i), .float 0, .float 0] [.int (fl z), .int (nI (fb_ct (trn f l) i))] (ev_mk h J L) = ev_at (d + 1) M_Mo_tips 33 [.ref 139, .int (nI l), .int (nI (smS 255 f 8)), .int (nI (fb_ct (trn f l) (i + 1))), .int (nI (i + 1)), .float 0, .float 0] [] (ev_mk h J L) := by
      intro z hz
      rw [e_Mo_tips_124, c_Mo_flag d, k_I, k_1, k_2, k_3, fl_or, q_add, show nI i + 1 = nI (i + 1) from q_add i 1, fb_ct_succ, hz]
    rw [e_Mo_tips_33, if_pos (show nI i < (256 : Int32) from (q_lt (b := 256) (by omega) (by omega)).mpr hi)]
    refine inn.trans ?_
    rw [e_Mo_tips_47, if_neg (by decide), xHas d (by omega), k_I, k_1, k_2, k_3]
    cases hb : i.testBit l with
    | true =>
      rw [if_neg (show ¬ fl true = 0 by decide)]
      exact e124 false (by unfold trn; rw [hb]; rfl)
    | false =>
      rw [if_pos (show fl false = 0 from rfl), show (2 : Int32) * nI (smS i f 8) = nI (2 * smS i f 8) from q_mul 2 _, q_in (by omega), q_cl (by omega), hf l hl, q_add, show (2 : Int32) * nI (smS i f 8 + f l) = nI (2 * (smS i f 8 + f l)) from q_mul 2 _]
      by_cases c1 : 2 * smS i f 8 ≤ smS 255 f 8
      · rw [if_neg (fun z => absurd ((q_lt (by omega) (by omega)).mp z) (by omega)), if_pos (by simp <;> omega)]
        by_cases c2 : smS 255 f 8 < 2 * (smS i f 8 + f l)
        · rw [if_pos ((q_lt (by omega) (by omega)).mpr c2)]
          exact e124 true (by unfold trn; rw [hb, decide_eq_true c1, decide_eq_true c2]; rfl)
        · rw [if_neg (fun z => c2 ((q_lt (by omega) (by omega)).mp z))]
          exact e124 false (by unfold trn; rw [hb, decide_eq_true c1, decide_eq_false c2]; rfl)
      · rw [if_pos ((q_lt (by omega) (by omega)).mpr (by omega))]
        exact e124 false (by unfold trn; rw [hb, decide_eq_false c1]; rfl)
  · intro _ _
    rw [e_Mo_tips_33, if_neg (by decide)]
    rfl
theorem op_power {x : Int32} (hi : inv I L) : okI h d M_SL_power M_Mo_power [.int x] I L := by
  refine ok_q (fun A hw => ?_) hi
  have hW := hw.2.2.1.1
  cases hx : blw x 8 with
  | false =>
    refine no_q (v := -1) hw (fun I L hi => ?_) (fun I L hi => ?_)
    · rw [e_SL_power_0, c_SL_isLetter, k_I, k_1, k_2, k_3, hx, if_pos (show fl false = 0 from rfl)]
    · rw [e_Mo_power_0, c_Mo_isLetter, k_I, k_1, k_2, k_3, hx, if_pos (show fl false = 0 from rfl)]
  | true =>
    obtain ⟨l, hl, rfl⟩ := (blw_iff (by omega)).mp hx
    obtain ⟨f, hf⟩ : ∃ f : Nat → Nat, f = vt A := ⟨_, rfl⟩
    have hfk : ∀ k, sgn (aBk A).2.1 (aBk A).2.2 (uO (aS A)) k true (aBk A).1 = f k := fun k => by rw [hf]; rfl
    have hf2 : ∀ k, f k ≤ 64 := fun k => by rw [← hfk]; exact sg_le hw k true
    have ht8 : ∀ n, sm (tp f) n ≤ 256 * n := sm_le (fun k => tp_le f k)
    have hs8 := ht8 8
    have htl := tp_le f l
    have hz : sm (tp f) 8 = 0 → tp f l = 0 := by
      have : ∀ n, l < n → tp f l ≤ sm (tp f) n := by
        intro n
        induction n with
        | zero => intro z; omega
        | succ n ih =>
          intro z
          rw [sm]
          by_cases e : l = n
          · rw [e]; omega
          · have := ih (by omega); omega
      have := this 8 hl
      omega
    have hfr : frc (tp f l) (sm (tp f) 8) = frc (tp f l) (max 1 (sm (tp f) 8)) := by
      by_cases e : sm (tp f) 8 = 0
      · unfold frc
        rw [if_pos (hz e), if_pos (hz e)]
      · rw [Nat.max_eq_right (by omega)]
    refine ⟨nI (tp f l), frc (tp f l) (sm (tp f) 8), by rw [frc_len]; decide, fun I L hi => ?_, fun I L hi => ?_⟩
    · obtain ⟨I1, e1, f1, x1, t1⟩ := xTl (h := h) (L' := L) (d + 97) hw hi frC.rf
      obtain ⟨K, hK⟩ : ∃ K, K = ev_cp I1 112 135 0 0 8 := ⟨_, rfl⟩
      have xK : exc [135] I1 K := by
        intro a ha
        rw [hK, cp_no (by simpa using ha)]
      have fK : frC I K := f1.x xK (by simp [scC])
      have hv : ∀ k, k < 8 → K 135 k = nI (f k) := fun k hk => by rw [hK, cp_in hk, (t1 k hk).1, hfk]
      have lp : ev_at (d + 99) M_SL_power 45 [.ref 0, .int (nI l), .int (nI (if l < 0 then tp f l else 0)), .int (nI (sm (tp f) 0)), .int (nI 0), .float 0] [] (ev_mk h K L) = ev_at (d + 99) M_SL_power 45 [.ref 0, .int (nI l), .int (nI (if l < 8 then tp f l else 0)), .int (nI (sm (tp f) 8)), .int (nI 8), .float 0] [] (ev_mk h K L) := by
        refine lpE (F := fun i (_ : Unit) => ev_at (d + 99) M_SL_power 45 [.ref 0, .int (nI l), .int (nI (if l < i then tp f l else 0)), .int (nI (sm (tp f) i)), .int (nI i), .float 0] [] (ev_mk h K L)) (fun _ _ => True) (fun o => o = ev_at (d + 99) M_SL_power 45 [.ref 0, .int (nI l), .int (nI (if l < 8 then tp f l else 0)), .int (nI (sm (tp f) 8)), .int (nI 8), .float 0] [] (ev_mk h K L)) 8 ?_ (fun _ _ => rfl) 0 (by omega) () trivial
        intro i _ hi' _
        refine Or.inl ⟨(), ?_, trivial⟩
        rw [e_SL_power_45, if_pos (show nI i < (8 : Int32) from (q_lt (b := 8) (by omega) (by omega)).mpr hi'), c_turned (d + 97) hi' hv hf2, k_I, k_1, k_2, k_3, sm]
        by_cases e : i = l
        · subst e
          rw [if_pos rfl, e_SL_power_72, q_add, show nI i + 1 = nI (i + 1) from q_add i 1, if_pos (c := i < i + 1) (by omega)]
        · rw [if_neg (fun z => e ((q_eq (by omega) (by omega)).mp z)), e_SL_power_72, q_add, show nI i + 1 = nI (i + 1) from q_add i 1]
          by_cases e2 : l < i
          · rw [if_pos e2, if_pos (c := l < i + 1) (by omega)]
          · rw [if_neg e2, if_neg (c := l < i + 1) (by omega)]
      obtain ⟨p, e2, x2, l2, r2⟩ := c_frac (h := h) (J := K) (L := L) (d + 96) (u := tp f l) (v := sm (tp f) 8) (by omega) (by omega) hz
      refine ⟨p, ?_, fK.x x2 (by simp [scC]), r2, l2 140 (by omega)⟩
      rw [e_SL_power_0, c_SL_isLetter, k_I, k_1, k_2, k_3, hx, if_neg (show ¬ fl true = 0 by decide), e1, k_V, k_1, k_2, k_3, ← hK]
      refine lp.trans ?_
      rw [e_SL_power_45, if_neg (by decide), if_pos hl, nI_l (by omega), nI_l (by omega), e2, k_V, k_1, k_2, k_3]
    · have lp : ∃ K, ev_at (d + 99) M_Mo_power 16 [.ref 139, .int (nI l), .int (nI 0), .float 0] [] (ev_mk h (ev_up I 139 0 0) L) = ev_at (d + 99) M_Mo_power 48 [.ref 139, .int (nI l), .int 0, .int 0] [] (ev_mk h K L) ∧ frM I K ∧ ∀ k, k < 8 → K 167 k = nI (f k) := by
        refine lpX (F := fun i J => ev_at (d + 99) M_Mo_power 16 [.ref 139, .int (nI l), .int (nI i), .float 0] [] (ev_mk h J L)) (fun i J => frM I J ∧ ∀ k, k < i → J 167 k = nI (f k)) 8 ?_ ?_ 0 (by omega) _ ⟨frM.t0, fun k hk => by omega⟩
        · intro i J hi' ⟨p1, p2⟩
          refine Or.inl ⟨ev_up J 167 i (nI (f i)), ?_, p1.up (by unfold scM; omega) (by omega), fun k hk => ?_⟩
          · rw [e_Mo_power_16, if_pos (show nI i < (8 : Int32) from (q_lt (b := 8) (by omega) (by omega)).mpr hi'), show (.int 1 : Value) = .int (fl true) from rfl, xSo (d + 97) hw hi p1 hi' true, k_I, k_1, k_2, k_3, q_in (by omega), if_pos (by simp <;> omega), q_cl (by omega), hfk, show nI i + 1 = nI (i + 1) from q_add i 1]
          · by_cases e : k = i
            · rw [e, u_at]
            · rw [u_j e]; exact p2 k (by omega)
        · intro J ⟨p1, p2⟩
          refine ⟨J, ?_, p1, p2⟩
          rw [e_Mo_power_16, if_neg (by decide)]
      obtain ⟨K, e1, f1, v1⟩ := lp
      have lp2 : ev_at (d + 99) M_Mo_power 48 [.ref 139, .int (nI l), .int (nI (sm (tp f) 0)), .int (nI 0)] [] (ev_mk h K L) = ev_at (d + 99) M_Mo_power 48 [.ref 139, .int (nI l), .int (nI (sm (tp f) 8)), .int (nI 8)] [] (ev_mk h K L) := by
        refine lpE (F := fun i (_ : Unit) => ev_at (d + 99) M_Mo_power 48 [.ref 139, .int (nI l), .int (nI (sm (tp f) i)), .int (nI i)] [] (ev_mk h K L)) (fun _ _ => True) (fun o => o = ev_at (d + 99) M_Mo_power 48 [.ref 139, .int (nI l), .int (nI (sm (tp f) 8)), .int (nI 8)] [] (ev_mk h K L)) 8 ?_ (fun _ _ => rfl) 0 (by omega) () trivial
        intro i _ hi' _
        refine Or.inl ⟨(), ?_, trivial⟩
        rw [e_Mo_power_48, if_pos (show nI i < (8 : Int32) from (q_lt (b := 8) (by omega) (by omega)).mpr hi'), c_tips (d + 97) hi' v1 hf2, k_I, k_1, k_2, k_3, q_add, show nI i + 1 = nI (i + 1) from q_add i 1, sm]
      obtain ⟨p, e2, x2, n2, l2, r2⟩ := c_fracM (h := h) (J := K) (L := L) (d + 38) (u := tp f l) (v := max 1 (sm (tp f) 8)) (by omega) (by omega) (by omega)
      have v2 : ∀ k, k < 8 → p.1 167 k = nI (f k) := fun k hk => by rw [x2 167 (by simp)]; exact v1 k hk
      refine ⟨p, ?_, f1.e x2 n2, by rw [hfr]; exact r2, l2 4 (by omega)⟩
      rw [e_Mo_power_0, c_Mo_isLetter, k_I, k_1, k_2, k_3, hx, if_neg (show ¬ fl true = 0 by decide)]
      refine e1.trans (lp2.trans ?_)
      rw [e_Mo_power_48, if_neg (by decide), c_tips (d + 97) hl v1 hf2, k_I, k_1, k_2, k_3, show (1 : Int32) = nI 1 from rfl, z_max (by omega) (by omega), nI_l (by omega), nI_l (by omega), e2, k_V, k_1, k_2, k_3, c_tips (d + 97) hl v2 hf2, k_I, k_1, k_2, k_3]
end OU
