/-! years. -/
theorem q_div {a b : Nat} (ha : a < 2147483648) (hb : b < 2147483648) : nI a / nI b = nI (a / b) := by
  have h1 : a / b ≤ a := Nat.div_le_self a b
  rw [fa_eq, Int32.toInt_div, q_ti ha, q_ti hb, q_ti (by omega)]
  have : (a : Int).tdiv (b : Int) = ((a / b : Nat) : Int) := (Int.ofNat_tdiv a b).symm
  rw [this]
  generalize a / b = c at h1
  exact Int.bmod_eq_of_le (by omega) (by omega)
def dn (q : Int32) : Int32 := q * 1103515245 + 12345
def du (q : Int32) : Nat := (dn q).toUInt32.toNat / 65536
theorem du_lt (q : Int32) : du q < 65536 := by
  have := (dn q).toUInt32.toNat_lt
  unfold du; omega
theorem du_is (q : Int32) : ((q * 1103515245 + 12345).toUInt32 >>> ((16 : Int32).toUInt32 &&& Int32.toUInt32 31)).toInt32 = nI (du q) := by
  have h1 : ((16 : Int32).toUInt32 &&& Int32.toUInt32 31) = 16 := by decide
  rw [h1]
  apply Int32.toBitVec_inj.mp
  apply BitVec.eq_of_toNat_eq
  have h2 := (dn q).toUInt32.toNat_lt
  show ((dn q).toUInt32 >>> 16).toNat = (BitVec.ofNat 32 (du q)).toNat
  rw [UInt32.toNat_shiftRight, BitVec.toNat_ofNat, Nat.shiftRight_eq_div_pow]
  have h3 := du_lt q
  rw [Nat.mod_eq_of_lt (by omega : du q < 2 ^ 32)]
  rfl
def dv (q : Int32) (n : Nat) : Nat := du q % n
section OY2
variable {h : Bool × Nat × Nat} {d : Nat} {I J : Nat → Nat → Int32} {L : Nat → Nat → Int64} {A : aP}
theorem dv_is {q : Int32} {n : Nat} (hn : n < 100) : nI (du q) - nI (du q) / nI n * nI n = nI (dv q n) := by
  have h1 := du_lt q
  have h2 := Nat.div_mul_le_self (du q) n
  have h3 := Nat.mod_add_div (du q) n
  rw [q_div (by omega) (by omega), q_mul, q_sub h2]
  congr 1
  show _ = du q % n
  rw [Nat.mul_comm] at h2 ⊢
  omega
theorem c_draw (d : Nat) {n : Nat} (h0 : 0 < n) (hn : n < 100) : ev_do (d + 1) M_SL_draw [.ref 0, .int (nI n)] (ev_mk h J L) = ev_ri (nI (dv (J 0 17) n)) (ev_mk h (ev_up J 0 17 (dn (J 0 17))) L) := by
  rw [e_SL_draw_0, if_pos (show (0 : Int32) < nI n from (q_lt (a := 0) (by omega) (by omega)).mpr h0), if_neg (show ¬ nI n = 0 from fun z => absurd ((q_eq (b := 0) (by omega) (by omega)).mp z) (by omega)), du_is, dv_is hn]; rfl
theorem c_draws (d : Nat) {n : Nat} (h0 : 0 < n) (hn : n < 100) : ev_do (d + 1) M_Mo_draws [.ref 139, .int (nI n)] (ev_mk h J L) = ev_ri (nI (dv (J 139 45) n)) (ev_mk h (ev_up J 139 45 (dn (J 139 45))) L) := by
  rw [e_Mo_draws_0, if_neg (show ¬ nI n = 0 from fun z => absurd ((q_eq (b := 0) (by omega) (by omega)).mp z) (by omega)), du_is, dv_is hn]; rfl
/-- drawing, of both; only this is used of it -/
def isD (dn : Int32 → Int32) (dv : Int32 → Nat → Nat) : Prop := (∀ (h : Bool × Nat × Nat) (J : Nat → Nat → Int32) (L : Nat → Nat → Int64) (d n : Nat), 0 < n → n < 100 → ev_do (d + 1) M_SL_draw [.ref 0, .int (nI n)] (ev_mk h J L) = ev_ri (nI (dv (J 0 17) n)) (ev_mk h (ev_up J 0 17 (dn (J 0 17))) L)) ∧ (∀ (h : Bool × Nat × Nat) (J : Nat → Nat → Int32) (L : Nat → Nat → Int64) (d n : Nat), 0 < n → n < 100 → ev_do (d + 1) M_Mo_draws [.ref 139, .int (nI n)] (ev_mk h J L) = ev_ri (nI (dv (J 139 45) n)) (ev_mk h (ev_up J 139 45 (dn (J 139 45))) L)) ∧ ∀ q n, 0 < n → dv q n < n
theorem isD_ex : ∃ dn dv, isD dn dv := ⟨dn, dv, fun _ _ _ d _ h0 hn => c_draw d h0 hn, fun _ _ _ d _ h0 hn => c_draws d h0 hn, fun _ _ h0 => Nat.mod_lt _ h0⟩
section DR
variable {dn : Int32 → Int32} {dv : Int32 → Nat → Nat}
/-- a year: what is drawn, the state, how many fell -/
abbrev yT : Type := Int32 × (Nat → Int32) × Nat
def yN (dn : Int32 → Int32) (dv : Int32 → Nat → Nat) (A : aP) (y : yT) : yT :=
  if dv y.1 4 < 2 then (dn y.1, dayS (aBk A).1 (aBk A).2.1 (aBk A).2.2 (aRl A).2 (aRl A).1 y.2.1, y.2.2 + dayF (aBk A).1 (aBk A).2.1 (aBk A).2.2 (aRl A).2 (aRl A).1 y.2.1)
  else if dv y.1 4 = 2 then (dn (dn (dn y.1)), (aOf y.2.1 (nI (dv (dn y.1) 8)) (nI (dv (dn (dn y.1)) 10))).2, y.2.2)
  else if 0 < (aBk A).1 then (dn (dn (dn y.1)), (aMu (aBk A).1 (aBk A).2.1 y.2.1 (nI (dv (dn y.1) (aBk A).1)) (nI (dv (dn (dn y.1)) ((aBk A).2.1 (dv (dn y.1) (aBk A).1))))).2, y.2.2)
  else (dn y.1, y.2.1, y.2.2)
def yI (dn : Int32 → Int32) (dv : Int32 → Nat → Nat) (A : aP) (q : Int32) : Nat → yT
  | 0 => (q, aS A, 0)
  | i + 1 => yN dn dv A (yI dn dv A q i)
theorem yI_wf (hw : wfA A) (q : Int32) : ∀ i, wfS (aBk A).2.1 (yI dn dv A q i).2.1
  | 0 => hw.2.2.2.1
  | i + 1 => by
    have ih := yI_wf hw q i
    show wfS _ (yN dn dv A (yI dn dv A q i)).2.1
    unfold yN
    split
    · exact dayS_wf ih
    · split
      · exact aOf_wf ih _ _
      · split
        · exact aMu_wf hw.2.2.1 ih _ _
        · exact ih
theorem c_yearC (hd : isD dn dv) (d : Nat) (hw : wfA A) (hi : invC I L A) {q x2 : Int32} {n : Nat} (hx : x2 = nI n) (hn : n ≤ 60) {L' : Nat → Nat → Int64} (f : frC I J) (hs : cSt 21 J (aS A)) (hq : J 0 17 = q) : ∃ K, ev_at (d + 5) M_SL_years 34 [.ref 0, .float 0, .int x2, .int (nI 0), .int (nI 0), .float 0, .float 0] [] (ev_mk h J L') = ev_at (d + 5) M_SL_years 34 [.ref 0, .float 0, .int x2, .int (nI (yI dn dv A q n).2.2), .int (nI n), .float 0, .float 0] [] (ev_mk h K L') ∧ frC I K ∧ K 3 = J 3 ∧ cSt 21 K (yI dn dv A q n).2.1 := by
  have hW := hw.2.2.1.1
  have hT := hw.2.2.2.2.1
  obtain ⟨K, e, p1, p2, p3, p4⟩ := lpF (F := fun i K => ev_at (d + 5) M_SL_years 34 [.ref 0, .float 0, .int x2, .int (nI (yI dn dv A q i).2.2), .int (nI i), .float 0, .float 0] [] (ev_mk h K L')) (fun i K => frC I K ∧ K 3 = J 3 ∧ cSt 21 K (yI dn dv A q i).2.1 ∧ K 0 17 = (yI dn dv A q i).1) n (fun i K hi' ⟨p1, p2, p3, p4⟩ => by
    have hwf := yI_wf (dn := dn) (dv := dv) hw q i
    have es : yI dn dv A q (i + 1) = yN dn dv A (yI dn dv A q i) := rfl
    have hv := hd.2.2 ((yI dn dv A q i).1) 4 (by omega)
    have f1 : frC I (ev_up K 0 17 (dn (K 0 17))) := p1.up (by unfold scC; omega) (by omega) (by omega)
    have s1 : cSt 21 (ev_up K 0 17 (dn (K 0 17))) (yI dn dv A q i).2.1 := p3.ex (exc.rf.up (by simp) : exc [0] K _) (by simp) (by simp) (by simp) (by simp)
    show ∃ s', ev_at (d + 5) M_SL_years 34 [.ref 0, .float 0, .int x2, .int (nI (yI dn dv A q i).2.2), .int (nI i), .float 0, .float 0] [] (ev_mk h K L') = ev_at (d + 5) M_SL_years 34 [.ref 0, .float 0, .int x2, .int (nI (yI dn dv A q (i + 1)).2.2), .int (nI (i + 1)), .float 0, .float 0] [] (ev_mk h s' L') ∧ _
    have e8 := hd.1 h (ev_up K 0 17 (dn (K 0 17))) L' (d + 4) (8) (by omega) (by omega)
    rw [u_at] at e8
    have e10 := hd.1 h (ev_up (ev_up K 0 17 (dn (K 0 17))) 0 17 (dn (dn (K 0 17)))) L' (d + 4) (10) (by omega) (by omega)
    rw [u_at] at e10
    rw [es, e_SL_years_34, hx, if_pos ((q_lt (by omega) (by omega)).mpr hi'), show (.int 4 : Value) = .int (nI 4) from rfl, hd.1 h K L' (d + 4) 4 (by omega) (by omega), k_I, k_1, k_2, k_3, show nI i + 1 = nI (i + 1) from q_add i 1, show (.int 8 : Value) = .int (nI 8) from rfl, show (.int 10 : Value) = .int (nI 10) from rfl]
    unfold yN
    by_cases e1 : dv (yI dn dv A q i).1 4 < 2
    · obtain ⟨K2, g1, g2, g3, g4⟩ := c_passDay (h := h) (L := L') d (hi.bk f1) (Or.inr rfl : 21 = 17 ∨ 21 = 21) s1 hwf (hi.rl f1) hT
      rw [if_pos e1, if_pos (show nI (dv (K 0 17) 4) < 2 from (q_lt (b := 2) (by rw [p4]; omega) (by omega)).mpr (by rw [p4]; exact e1)), g1, k_I, k_1, k_2, k_3, q_add]
      refine ⟨K2, rfl, f1.tr ⟨fun a ha => g2 a (by unfold scC at ha; simp <;> omega), g3, fun w _ => by rw [g2 127 (by simp)]⟩, by rw [g2 3 (by simp), u_cf (by omega)]; exact p2, g4, ?_⟩
      rw [g2 0 (by simp), u_at, p4]
    · rw [if_neg e1, if_neg (show ¬ nI (dv (K 0 17) 4) < 2 from fun z => e1 (by have := (q_lt (b := 2) (by rw [p4]; omega) (by omega)).mp z; rwa [p4] at this))]
      by_cases e2 : dv (yI dn dv A q i).1 4 = 2
      · rw [if_pos e2, if_pos (show nI (dv (K 0 17) 4) = 2 by rw [p4, e2]; rfl), e8, k_I, k_1, k_2, k_3, e10, k_I, k_1, k_2, k_3]
        obtain ⟨K2, g1, g2, g3⟩ := c_putOffer (h := h) (L := L') (d + 3) (x := nI (dv (dn (K 0 17)) 8)) (y := nI (dv (dn (dn (K 0 17))) 10)) (Or.inr rfl : 21 = 17 ∨ 21 = 21) ((s1.ex (exc.rf.up (by simp) : exc [0] _ (ev_up (ev_up K 0 17 (dn (K 0 17))) 0 17 (dn (dn (K 0 17))))) (by simp) (by simp) (by simp) (by simp)).ex (exc.rf.up (by simp) : exc [0] _ (ev_up (ev_up (ev_up K 0 17 (dn (K 0 17))) 0 17 (dn (dn (K 0 17)))) 0 17 (dn (dn (dn (K 0 17)))))) (by simp) (by simp) (by simp) (by simp))
        rw [g1, k_I, k_1, k_2, k_3]
        refine ⟨K2, rfl, ((f1.up (by unfold scC; omega) (by omega) (by omega)).up (by unfold scC; omega) (by omega) (by omega)).x g2 (by simp [scC]), by rw [g2 3 (by simp), u_cf (by omega), u_cf (by omega), u_cf (by omega)]; exact p2, ?_, ?_⟩
        · rw [p4] at g3; exact g3
        · rw [g2 0 (by simp), u_at, p4]
      · rw [if_neg e2, if_neg (show ¬ nI (dv (K 0 17) 4) = 2 from fun z => e2 (by have := (q_eq (b := 2) (by rw [p4]; omega) (by omega)).mp z; rwa [p4] at this)), (hi.bk f1).1.1]
        by_cases e3 : 0 < (aBk A).1
        · have hwd := hd.2.2 (dn (K 0 17)) _ e3
          have eW := hd.1 h (ev_up K 0 17 (dn (K 0 17))) L' (d + 4) ((aBk A).1) e3 (by omega)
          rw [u_at] at eW
          have hB := hw.2.2.1.2 (dv (dn (K 0 17)) (aBk A).1) (by omega)
          have f2 : frC I (ev_up (ev_up K 0 17 (dn (K 0 17))) 0 17 (dn (dn (K 0 17)))) := f1.up (by unfold scC; omega) (by omega) (by omega)
          have f3 : frC I (ev_up (ev_up (ev_up K 0 17 (dn (K 0 17))) 0 17 (dn (dn (K 0 17)))) 0 17 (dn (dn (dn (K 0 17))))) := f2.up (by unfold scC; omega) (by omega) (by omega)
          have eL := hd.1 h (ev_up (ev_up K 0 17 (dn (K 0 17))) 0 17 (dn (dn (K 0 17)))) L' (d + 4) ((aBk A).2.1 (dv (dn (K 0 17)) (aBk A).1)) (hB.2.1 hwd) (by omega)
          rw [u_at] at eL
          obtain ⟨K2, g1, g2, g3⟩ := c_mute (h := h) (L := L') (d + 2) (hi.bk f3).1 (x := nI (dv (dn (K 0 17)) (aBk A).1)) (y := nI (dv (dn (dn (K 0 17))) ((aBk A).2.1 (dv (dn (K 0 17)) (aBk A).1)))) (Or.inr rfl : 21 = 17 ∨ 21 = 21) ((s1.ex (exc.rf.up (by simp) : exc [0] _ (ev_up (ev_up K 0 17 (dn (K 0 17))) 0 17 (dn (dn (K 0 17))))) (by simp) (by simp) (by simp) (by simp)).ex (exc.rf.up (by simp) : exc [0] _ (ev_up (ev_up (ev_up K 0 17 (dn (K 0 17))) 0 17 (dn (dn (K 0 17)))) 0 17 (dn (dn (dn (K 0 17)))))) (by simp) (by simp) (by simp) (by simp)) hwf
          rw [if_pos e3, if_pos (show (0 : Int32) < nI (aBk A).1 from (q_lt (a := 0) (by omega) (by omega)).mpr e3), eW, k_I, k_1, k_2, k_3, q_in (by omega), if_pos (by simp <;> omega), q_cl (by omega), ((hi.bk f2).1.2.2 _ (by omega)).1, eL, k_I, k_1, k_2, k_3, g1, k_I, k_1, k_2, k_3]
          refine ⟨K2, rfl, f3.x g2 (by simp [scC]), by rw [g2 3 (by simp), u_cf (by omega), u_cf (by omega), u_cf (by omega)]; exact p2, ?_, ?_⟩
          · rw [p4] at g3; exact g3
          · rw [g2 0 (by simp), u_at, p4]
        · rw [if_neg e3, if_neg (show ¬ (0 : Int32) < nI (aBk A).1 from fun z => e3 ((q_lt (a := 0) (by omega) (by omega)).mp z))]
          exact ⟨_, rfl, f1, by rw [u_cf (by omega)]; exact p2, s1, by rw [u_at, p4]⟩) J ⟨f, rfl, hs, hq⟩
  exact ⟨K, e, p1, p2, p3⟩
theorem c_yearM (hd : isD dn dv) (d : Nat) (hw : wfA A) (hi : invM I L A) {q x2 : Int32} {n : Nat} (hx : x2 = nI n) (hn : n ≤ 60) {L' : Nat → Nat → Int64} (f : frM I J) (hs : mSt 144 0 J (aS A)) (hq : J 139 45 = q) : ∃ K, ev_at (d + 7) M_Mo_years 33 [.ref 139, .float 0, .int x2, .int (nI 0), .int (nI 0), .float 0, .float 0] [] (ev_mk h J L') = ev_at (d + 7) M_Mo_years 33 [.ref 139, .float 0, .int x2, .int (nI (yI dn dv A q n).2.2), .int (nI n), .float 0, .float 0] [] (ev_mk h K L') ∧ frM I K ∧ mSt 144 0 K (yI dn dv A q n).2.1 := by
  have hW := hw.2.2.1.1
  have hT := hw.2.2.2.2.1
  obtain ⟨K, e, p1, p3, p4⟩ := lpF (F := fun i K => ev_at (d + 7) M_Mo_years 33 [.ref 139, .float 0, .int x2, .int (nI (yI dn dv A q i).2.2), .int (nI i), .float 0, .float 0] [] (ev_mk h K L')) (fun i K => frM I K ∧ mSt 144 0 K (yI dn dv A q i).2.1 ∧ K 139 45 = (yI dn dv A q i).1) n (fun i K hi' ⟨p1, p3, p4⟩ => by
    have hwf := yI_wf (dn := dn) (dv := dv) hw q i
    have es : yI dn dv A q (i + 1) = yN dn dv A (yI dn dv A q i) := rfl
    have hv := hd.2.2 ((yI dn dv A q i).1) 4 (by omega)
    have f1 : frM I (ev_up K 139 45 (dn (K 139 45))) := p1.up (by unfold scM; omega) (by omega)
    have s1 : mSt 144 0 (ev_up K 139 45 (dn (K 139 45))) (yI dn dv A q i).2.1 := p3.ex (exc.rf.up (by simp) : exc [139] K _) (by simp)
    show ∃ s', ev_at (d + 7) M_Mo_years 33 [.ref 139, .float 0, .int x2, .int (nI (yI dn dv A q i).2.2), .int (nI i), .float 0, .float 0] [] (ev_mk h K L') = ev_at (d + 7) M_Mo_years 33 [.ref 139, .float 0, .int x2, .int (nI (yI dn dv A q (i + 1)).2.2), .int (nI (i + 1)), .float 0, .float 0] [] (ev_mk h s' L') ∧ _
    have e8 := hd.2.1 h (ev_up K 139 45 (dn (K 139 45))) L' (d + 6) (8) (by omega) (by omega)
    rw [u_at] at e8
    have e10 := hd.2.1 h (ev_up (ev_up K 139 45 (dn (K 139 45))) 139 45 (dn (dn (K 139 45)))) L' (d + 6) (10) (by omega) (by omega)
    rw [u_at] at e10
    rw [es, e_Mo_years_33, hx, if_pos ((q_lt (by omega) (by omega)).mpr hi'), show (.int 4 : Value) = .int (nI 4) from rfl, hd.2.1 h K L' (d + 6) 4 (by omega) (by omega), k_I, k_1, k_2, k_3, show nI i + 1 = nI (i + 1) from q_add i 1, show (.int 8 : Value) = .int (nI 8) from rfl, show (.int 10 : Value) = .int (nI 10) from rfl]
    unfold yN
    by_cases e1 : dv (yI dn dv A q i).1 4 < 2
    · obtain ⟨K2, g1, g2, g4⟩ := c_dayGoes (h := h) (L := L') d (hi.bk f1) (Or.inr rfl : 144 = 143 ∨ 144 = 144) s1 hwf (hi.rl f1) hT
      rw [if_pos e1, if_pos (show nI (dv (K 139 45) 4) < 2 from (q_lt (b := 2) (by rw [p4]; omega) (by omega)).mpr (by rw [p4]; exact e1)), g1, k_I, k_1, k_2, k_3, q_add]
      refine ⟨K2, rfl, f1.x g2 (by simp [scM]), g4, ?_⟩
      rw [g2 139 (by simp), u_at, p4]
    · rw [if_neg e1, if_neg (show ¬ nI (dv (K 139 45) 4) < 2 from fun z => e1 (by have := (q_lt (b := 2) (by rw [p4]; omega) (by omega)).mp z; rwa [p4] at this))]
      by_cases e2 : dv (yI dn dv A q i).1 4 = 2
      · rw [if_pos e2, if_pos (show nI (dv (K 139 45) 4) = 2 by rw [p4, e2]; rfl), e8, k_I, k_1, k_2, k_3, e10, k_I, k_1, k_2, k_3]
        obtain ⟨K2, g1, g2, g3⟩ := c_Mo_offers (h := h) (L := L') (d + 4) (x := nI (dv (dn (K 139 45)) 8)) (y := nI (dv (dn (dn (K 139 45))) 10)) (Or.inr rfl : 144 = 143 ∨ 144 = 144) ((s1.ex (exc.rf.up (by simp) : exc [139] _ (ev_up (ev_up K 139 45 (dn (K 139 45))) 139 45 (dn (dn (K 139 45))))) (by simp)).ex (exc.rf.up (by simp) : exc [139] _ (ev_up (ev_up (ev_up K 139 45 (dn (K 139 45))) 139 45 (dn (dn (K 139 45)))) 139 45 (dn (dn (dn (K 139 45)))))) (by simp))
        rw [g1, k_I, k_1, k_2, k_3]
        refine ⟨K2, rfl, ((f1.up (by unfold scM; omega) (by omega)).up (by unfold scM; omega) (by omega)).x g2 (by simp [scM]), ?_, ?_⟩
        · rw [p4] at g3; exact g3
        · rw [g2 139 (by simp), u_at, p4]
      · rw [if_neg e2, if_neg (show ¬ nI (dv (K 139 45) 4) = 2 from fun z => e2 (by have := (q_eq (b := 2) (by rw [p4]; omega) (by omega)).mp z; rwa [p4] at this)), (hi.bk f1).1]
        by_cases e3 : 0 < (aBk A).1
        · have hwd := hd.2.2 (dn (K 139 45)) _ e3
          have eW := hd.2.1 h (ev_up K 139 45 (dn (K 139 45))) L' (d + 6) ((aBk A).1) e3 (by omega)
          rw [u_at] at eW
          have hB := hw.2.2.1.2 (dv (dn (K 139 45)) (aBk A).1) (by omega)
          have f2 : frM I (ev_up (ev_up K 139 45 (dn (K 139 45))) 139 45 (dn (dn (K 139 45)))) := f1.up (by unfold scM; omega) (by omega)
          have f3 : frM I (ev_up (ev_up (ev_up K 139 45 (dn (K 139 45))) 139 45 (dn (dn (K 139 45)))) 139 45 (dn (dn (dn (K 139 45))))) := f2.up (by unfold scM; omega) (by omega)
          have eL := hd.2.1 h (ev_up (ev_up K 139 45 (dn (K 139 45))) 139 45 (dn (dn (K 139 45)))) L' (d + 6) ((aBk A).2.1 (dv (dn (K 139 45)) (aBk A).1)) (hB.2.1 hwd) (by omega)
          rw [u_at] at eL
          obtain ⟨K2, g1, g2, g3⟩ := c_Mo_mutesOne (h := h) (L := L') (d + 4) (hi.bk f3) (x := nI (dv (dn (K 139 45)) (aBk A).1)) (y := nI (dv (dn (dn (K 139 45))) ((aBk A).2.1 (dv (dn (K 139 45)) (aBk A).1)))) (Or.inr rfl : 144 = 143 ∨ 144 = 144) ((s1.ex (exc.rf.up (by simp) : exc [139] _ (ev_up (ev_up K 139 45 (dn (K 139 45))) 139 45 (dn (dn (K 139 45))))) (by simp)).ex (exc.rf.up (by simp) : exc [139] _ (ev_up (ev_up (ev_up K 139 45 (dn (K 139 45))) 139 45 (dn (dn (K 139 45)))) 139 45 (dn (dn (dn (K 139 45)))))) (by simp)) hwf
          rw [if_pos e3, if_pos (show (0 : Int32) < nI (aBk A).1 from (q_lt (a := 0) (by omega) (by omega)).mpr e3), eW, k_I, k_1, k_2, k_3, q_in (by omega), if_pos (by simp <;> omega), q_cl (by omega), ((hi.bk f2).2.2 _ (by omega)).1, eL, k_I, k_1, k_2, k_3, g1, k_I, k_1, k_2, k_3]
          refine ⟨K2, rfl, f3.x g2 (by simp [scM]), ?_, ?_⟩
          · rw [p4] at g3; exact g3
          · rw [g2 139 (by simp), u_at, p4]
        · rw [if_neg e3, if_neg (show ¬ (0 : Int32) < nI (aBk A).1 from fun z => e3 ((q_lt (a := 0) (by omega) (by omega)).mp z))]
          exact ⟨_, rfl, f1, s1, by rw [u_at, p4]⟩) J ⟨f, hs, hq⟩
  exact ⟨K, e, p1, p3⟩
end DR
theorem op_years {x y : Int32} (hi : inv I L) : okI h d M_SL_years M_Mo_years [.int x, .int y] I L := by
  obtain ⟨dn, dv, hd⟩ := isD_ex
  refine ok_q (fun A hw => ?_) hi
  have hin : ∀ (h : Bool × Nat × Nat) I L, ev_do (d + 99) M_Mo_in [.long y.toInt64, .long 1, .long 60] (ev_mk h I L) = ev_ri (if ¬ y < 1 ∧ ¬ 60 < y then 1 else 0) (ev_mk h I L) := fun h I L => by
    have := c_Mo_in (d + 98) y 1 60 h I L
    rw [show (1 : Int32).toInt64 = 1 by decide, show (60 : Int32).toInt64 = 60 by decide] at this
    exact this
  by_cases hy : ¬ y < 1 ∧ ¬ 60 < y
  · obtain ⟨k, hk, rfl⟩ : ∃ k, k ≤ 60 ∧ y = nI k := by
      have h0 : ¬ y < 0 := fun z => hy.1 (by
        rw [Int32.lt_iff_toInt_lt] at z ⊢
        rw [show (1 : Int32).toInt = 1 by decide]; rw [show (0 : Int32).toInt = 0 by decide] at z; omega)
      obtain ⟨a, ha, rfl⟩ := q_ge h0
      exact ⟨a, by have := hy.2; rw [show (60 : Int32) = nI 60 from rfl, q_lt (by omega) ha] at this; omega, rfl⟩
    refine ⟨nI (yI dn dv A x k).2.2, snoc (snoc nil0 ((yI dn dv A x k).2.1 24).toInt64) (sm8 (fun j => (yI dn dv A x k).2.1 (8 + j)) 8).toInt64, show 2 ≤ 9 by decide, fun I L hi => ?_, fun I L hi => ?_⟩
    · have x1 := cpS_ex I 21 17
      have s1 : cSt 21 (cpS I 21 17) (aS A) := cpS_st (by omega) hi.2.2.2.1
      have f1 : frC I (cpS I 21 17) := frC.rf.x x1 (by simp [scC])
      obtain ⟨K, e1, f2, x2, s2⟩ := c_yearC (h := h) hd (L' := L) (q := x) (d + 94) hw hi (n := k) rfl hk (f1.up (k := 0) (j := 17) (v := x) (by unfold scC; omega) (by omega) (by omega)) (s1.ex (exc.rf.up (by simp) : exc [0] _ (ev_up (cpS I 21 17) 0 17 x)) (by simp) (by simp) (by simp) (by simp)) (u_at _ _ _ _)
      obtain ⟨I3, L3, e3, x3, l3, t3⟩ := t_two (h := h) (I := K) (L := L) (x := ((yI dn dv A x k).2.1 24).toInt64) (y := (sm8 (fun j => (yI dn dv A x k).2.1 (8 + j)) 8).toInt64) (d + 97)
      refine ⟨(I3, L3), ?_, f2.x x3 (by simp [scC]), t3, l3 140 (by omega)⟩
      rw [e_SL_years_0, if_neg hy.1, if_neg hy.2, c_copyT, k_V, k_1, k_2, k_3]
      refine e1.trans ?_
      rw [e_SL_years_34, if_neg (fun z => absurd ((q_lt (by omega) (by omega)).mp z) (by omega)), c_moodsTogether (d + 97) (Or.inr rfl) s2, k_I, k_1, k_2, k_3, s2.2.1, e3, k_V, k_1, k_2, k_3]
    · have x9 : exc [139] I (ev_up (ev_up I 139 0 0) 139 45 x) := (exc.rf.up (by simp)).up (by simp)
      obtain ⟨I1, e1, x1, s1⟩ := c_Mo_copies (h := h) (L := L) (d + 98) (hi.2.2.2.1.ex x9 (by simp))
      have f1 : frM I I1 := (frM.t0.up (k := 139) (j := 45) (v := x) (by unfold scM; omega) (by omega)).x x1 (by simp [scM])
      obtain ⟨K, e2, f2, s2⟩ := c_yearM (h := h) hd (L' := L) (q := x) (d + 92) hw hi (n := k) rfl hk f1 s1 (by rw [x1 139 (by simp), u_at])
      obtain ⟨I3, L3, e3, x3, n3, l3, t3⟩ := t_enters (h := h) (x := ((yI dn dv A x k).2.1 24).toInt64) (d + 98) (rwM.nil (I := K) (L := L)) (show 0 < 24 by decide)
      have s3 : mSt 144 0 I3 (yI dn dv A x k).2.1 := (s2.ex (exc.rf.up (by simp) : exc [139] K (ev_up K 139 1 0)) (by simp)).ex x3 (by simp)
      obtain ⟨I4, L4, e4, x4, n4, l4, t4⟩ := t_enters (h := h) (x := (sm8 (fun j => (yI dn dv A x k).2.1 (8 + j)) 8).toInt64) (d + 98) t3 (show 1 < 24 by decide)
      refine ⟨(I4, L4), ?_, ((f2.t1 0).e x3 n3).e x4 n4, t4, (l4 4 (by omega)).trans (l3 4 (by omega))⟩
      rw [e_Mo_years_0, hin, k_I, k_1, k_2, k_3, if_pos hy, if_neg (by decide), e1, k_V, k_1, k_2, k_3]
      refine e2.trans ?_
      rw [e_Mo_years_33, if_neg (fun z => absurd ((q_lt (by omega) (by omega)).mp z) (by omega)), s2.at (by omega), e3, k_V, k_1, k_2, k_3, show (.int 8 : Value) = .int (nI 8) from rfl, c_Mo_sumOf (d + 98) (Or.inr rfl) (by omega) (fun j hj => s3.at (by omega)), k_I, k_1, k_2, k_3, e4, k_V, k_1, k_2, k_3]
  · refine no_q (v := -1) hw (fun I L hi => ?_) (fun I L hi => ?_)
    · rw [e_SL_years_0]
      by_cases z : y < 1
      · rw [if_pos z]
      · rw [if_neg z, if_pos (Decidable.byContradiction fun w => hy ⟨z, w⟩)]
    · rw [e_Mo_years_0, hin, k_I, k_1, k_2, k_3, if_neg hy, if_pos rfl]
end OY2
