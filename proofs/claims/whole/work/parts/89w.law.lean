/-! law, both. -/
section LW
variable {h : Bool × Nat × Nat} {d : Nat} {I I' J K : Nat → Nat → Int32} {L : Nat → Nat → Int64} {A : aP}
/-- the row that law tells: what strikes by the rule in force, then grudges by the one proposed -/
def lwR (A : aP) (R : Nat × (Nat → Nat)) : Nat → Nat × (Nat → Int64)
  | 0 => snoc nil0 (nI (skA A)).toInt64
  | l + 1 => snoc (lwR A R l) (gA A R l (aS A (16 + l))).toInt64
theorem lwR_1 (A : aP) (R : Nat × (Nat → Nat)) : ∀ l, (lwR A R l).1 = l + 1
  | 0 => rfl
  | l + 1 => by show (lwR A R l).1 + 1 = _; rw [lwR_1 A R l]
/-- strikers by a rule, the class -/
theorem xSk (d : Nat) (hw : wfA A) (hi : invC I L A) (f : frC I J) {k : Nat} {R : Nat × (Nat → Nat)} (hk : k = 101 ∨ k = 105) (hR : rlC k J R.2 R.1) (hT : okT R.2 R.1) {L' : Nat → Nat → Int64} : ∃ K, ev_do (d + 4) M_Union_strikers [.ref 109, .ref k, .ref 17] (ev_mk h J L') = ev_ri (nI (skA (sRl A R))) (ev_mk h K L') ∧ exc [112, 113, 111, k, k + 2] J K ∧ (∀ b, b ≠ 3 → K k b = J k b) ∧ tly A K := by
  have hs := hi.s f
  obtain ⟨K, e1, x1, n1, t1⟩ := c_Union_strikers (h := h) (L := L') d (hi.bk f).1 hk (Or.inl rfl : 17 = 17 ∨ 17 = 21) (hi.u hw f) hR hT (hi.st3 hw f) hw.2.2.2.1.s.2
  have est : msk (sks (aBk A).2.1 (aBk A).2.2 (aBk A).1 (uO (aS A)) (J (17 + 2)) (J (17 + 3)) (uO (aS A) 24) (J 17 4) R.2 R.1) 8 = skA (sRl A R) := by
    unfold skA stN
    refine msk_congr fun j hj => ?_
    unfold sks grd
    rw [(hs.1 j hj).2.1, (hs.1 j hj).2.2, hs.2.2.1]
    rfl
  rw [est] at e1
  exact ⟨K, e1, x1, n1, t1⟩
/-- a grudge by the rule proposed, the class -/
theorem xGp (d : Nat) (hw : wfA A) (hi : invC I L A) (f : frC I J) (ht : tly A J) {R : Nat × (Nat → Nat)} (hR : rlC 105 J R.2 R.1) (hT : okT R.2 R.1) {l : Nat} (hl : l < 8) (off : Int32) {L' : Nat → Nat → Int64} : ∃ K, ev_do (d + 3) M_Union_grudge [.ref 109, .ref 105, .ref 17, .int (nI l), .int off] (ev_mk h J L') = ev_ri (gA A R l off) (ev_mk h K L') ∧ frC I K ∧ tly A K ∧ rlC 105 K R.2 R.1 ∧ exc [111, 105, 107] J K := by
  obtain ⟨K, e1, x1, n1⟩ := c_Union_grudge (h := h) (L := L') (off := off) d (Or.inr rfl : 105 = 101 ∨ 105 = 105) (Or.inl rfl : 17 = 17 ∨ 17 = 21) hl hR hT (ht l hl).1 (ht l hl).2 (hi.st3 hw f) hw.2.2.2.1.s.2
  have hs := hi.s f
  rw [(hs.1 l hl).2.1, hs.2.2.1] at e1
  refine ⟨K, e1, f.x x1 (by simp [scC]), fun k hk => ?_, hR.ex x1 (n1 1 (by omega)) (by simp), x1⟩
  rw [x1 112 (by simp), x1 113 (by simp)]
  exact ht k hk
theorem m1_3 : ∀ P, P < 41 → ((-1 : Int32) - nI P + 1) - 10000 = (-10000) - nI P := by decide +kernel
theorem op_law (hi : inv I L) : okI h d M_SL_law M_Mo_law [] I L := by
  refine ok_of (fun A hw => ?_) hi
  rcases rlV_or (aTx A) with hv | ⟨P, hP, hv⟩
  · have hwn := nT_wf hw
    have hT := rlL_ok hv
    obtain ⟨R, hR⟩ : ∃ R, R = rlN (aTx A) := ⟨_, rfl⟩
    have hT' : okT R.2 R.1 := by rw [hR]; exact hT
    have hwB : wfA (sRl (nT A) R) := hwn.rl2 hT'
    refine ⟨nI (skA (sRl (nT A) R)), sRw (nT A) (lwR A R 8), hwn.rw (by rw [lwR_1]; omega), fun I L hi => ?_, fun I L hi => ?_⟩
    · obtain ⟨K, e1, x1, i1, c1⟩ := xRd (h := h) (d + 89) hw hi
      have c := c1 hv
      rw [← hR] at c
      obtain ⟨I0, hI0⟩ : ∃ I0, I0 = ev_up K 1 1 0 := ⟨_, rfl⟩
      rw [← hI0] at i1 c
      have f0 : frC I0 (ev_up I0 3 1 0) := frC.rf.t1 0
      obtain ⟨K2, e2, x2, n2, t2⟩ := xSk (h := h) (L' := L) (d + 95) hwn i1 f0 (k := 101) (R := aRl A) (Or.inl rfl) (i1.rl f0) hw.2.2.2.2.1
      have f2 : frC I0 K2 := f0.tr (frC.of x2 (by simp [scC]) (n2 1 (by omega)) (by simp))
      have r2 : rwC K2 L nil0 := (rwC.nil (I := I0) (L := L)).of (by rw [x2 3 (by simp)]) rfl
      obtain ⟨K3, L3, e3, x3, l3, r3⟩ := t_tell (h := h) (x := (nI (skA A)).toInt64) (d + 98) r2 (by decide)
      have f3 : frC I0 K3 := f2.x x3 (by simp [scC])
      have c3 : rlC 105 K3 R.2 R.1 := ((c.ex (exc.rf.up (by simp) : exc [3] I0 (ev_up I0 3 1 0)) (u_c (by omega)) (by simp)).ex x2 (by rw [x2 105 (by simp)]) (by simp)).ex x3 (by rw [x3 105 (by simp)]) (by simp)
      have t3 : tly (nT A) K3 := fun l hl => by rw [x3 112 (by simp), x3 113 (by simp)]; exact t2 l hl
      obtain ⟨⟨K4, L4⟩, e4, f4, c4, t4, r4, l4⟩ := lpF (F := fun l (p : sIL) => ev_at (d + 99) M_SL_law 64 [.ref 0, .float 0, .int (nI l)] [] (ev_mk h p.1 p.2)) (fun l p => frC I0 p.1 ∧ rlC 105 p.1 R.2 R.1 ∧ tly (nT A) p.1 ∧ rwC p.1 p.2 (lwR A R l) ∧ p.2 140 = L 140) 8 (fun l p hl ⟨q1, q2, q3, q4, q5⟩ => by
        have hs := i1.s q1
        obtain ⟨K5, e5, f5, t5, c5, x5⟩ := xGp (h := h) (L' := p.2) (d + 96) hwn i1 q1 q3 q2 hT' hl (aS A (16 + l))
        have r5 : rwC K5 p.2 (lwR A R l) := q4.of (by rw [x5 3 (by simp)]) rfl
        obtain ⟨K6, L6, e6, x6, l6, r6⟩ := t_tell (h := h) (x := (gA A R l (aS A (16 + l))).toInt64) (d + 98) r5 (by rw [lwR_1]; omega)
        have c6 : rlC 105 K6 R.2 R.1 := c5.ex x6 (by rw [x6 105 (by simp)]) (by simp)
        have t6 : tly (nT A) K6 := fun k hk => by rw [x6 112 (by simp), x6 113 (by simp)]; exact t5 k hk
        refine ⟨(K6, L6), ?_, f5.x x6 (by simp [scC]), c6, t6, r6, by show L6 140 = L 140; rw [l6 140 (by omega)]; exact q5⟩
        show ev_at (d + 99) M_SL_law 64 [.ref 0, .float 0, .int (nI l)] [] (ev_mk h p.1 p.2) = _
        rw [e_SL_law_64, if_pos (show nI l < 8 from (q_lt (b := 8) (by omega) (by omega)).mpr hl), q_in (by omega), if_pos (by simp <;> omega), q_cl (by omega), (hs.1 l hl).2.2, show aS (nT A) (16 + l) = aS A (16 + l) from rfl, e5, k_I, k_1, k_2, k_3, show gA (nT A) R l (aS A (16 + l)) = gA A R l (aS A (16 + l)) from rfl, e6, k_V, k_1, k_2, k_3, show nI l + 1 = nI (l + 1) from q_add l 1]) (K3, L3) ⟨f3, c3, t3, r3, l3 140 (by omega)⟩
      obtain ⟨K7, e7, x7, n7, t7⟩ := xSk (h := h) (L' := L4) (d + 95) hwn i1 f4 (k := 105) (R := R) (Or.inr rfl) c4 hT'
      have f7 : frC I0 K7 := f4.x x7 (by simp [scC])
      refine ⟨K7, L4, ?_, i1.q f7 (r4.of (by rw [x7 3 (by simp)]) rfl), fun a ha => ?_, l4⟩
      · rw [e_SL_law_0, e1, k_I, k_1, k_2, k_3, hv, if_pos (by decide), ← hI0, e2, k_I, k_1, k_2, k_3, show skA (sRl (nT A) (aRl A)) = skA A from rfl, e3, k_V, k_1, k_2, k_3]
        refine e4.trans ?_
        show ev_at (d + 99) M_SL_law 64 [.ref 0, .float 0, .int (nI 8)] [] (ev_mk h K4 L4) = _
        rw [e_SL_law_64, if_neg (by decide), e7, k_I, k_1, k_2, k_3]
      · rw [f7.hi a ha, hI0, u_cf (by omega), x1 a (by simp <;> omega)]
    · obtain ⟨K1, e1, x1, i1, t1⟩ := xRr (h := h) (d + 1) hw hi.th
      obtain ⟨K2, e2, f2, x2⟩ := xSn (h := h) (L' := L) (d + 93) hwn i1 frM.rf
      have i2 : invM K2 L (nT A) := i1.q (t := aRw A) f2 (i1.2.1.of (by rw [x2 139 (by simp)]) rfl)
      have t2 : tkM K2 (rlQ (aTx A)).2.2 := ⟨by rw [x2 139 (by simp)]; exact t1.1, fun j hj => by rw [x2 150 (by simp)]; exact t1.2 j hj⟩
      obtain ⟨n, h20, hn⟩ : ∃ n, K2 139 20 = nI n ∧ n ≤ 40 := by
        rcases i2.2.2.2.2.1 with ⟨_, y⟩ | ⟨y, _⟩
        · exact ⟨_, y.1, hwn.2.2.2.2.1.1⟩
        · exact ⟨0, y, by omega⟩
      obtain ⟨K3, e3, x3, c3⟩ := lpF (F := fun i K' => ev_at (d + 99) M_Mo_law 39 [.ref 139, .float 0, .int (nI (skA A)), .int (nI n), .int (nI i), .float 0] [] (ev_mk h K' L)) (fun i K' => exc [170] K2 K' ∧ ∀ j, j < i → K' 170 j = K2 149 j) n (fun i K' hi ⟨q1, q2⟩ => by
        refine ⟨ev_up K' 170 i (K2 149 i), ?_, q1.up (by simp), fun j hj => ?_⟩
        · show ev_at (d + 99) M_Mo_law 39 [.ref 139, .float 0, .int (nI (skA A)), .int (nI n), .int (nI i), .float 0] [] (ev_mk h K' L) = _
          rw [e_Mo_law_39, q1 139 (by simp), h20, if_pos ((q_lt (by omega) (by omega)).mpr hi), q_in (by omega), if_pos (by simp <;> omega), if_pos (by simp <;> omega), q_cl (by omega), q1 149 (by simp), show nI i + 1 = nI (i + 1) from q_add i 1]
        · by_cases z : j = i
          · rw [z, u_at]
          · rw [u_j z]; exact q2 j (by omega)) K2 ⟨exc.rf, fun j hj => absurd hj (Nat.not_lt_zero _)⟩
      have i3 : invM K3 L (nT A) := i2.q (t := aRw A) (frM.rf.x x3 (by simp [scM])) (i2.2.1.of (by rw [x3 139 (by simp)]) rfl)
      have t3 : tkM K3 (rlQ (aTx A)).2.2 := ⟨by rw [x3 139 (by simp)]; exact t2.1, fun j hj => by rw [x3 150 (by simp)]; exact t2.2 j hj⟩
      obtain ⟨K4, e4, i4, x4, n4⟩ := xLy (h := h) (d + 98) hv i3 t3
      rw [← hR] at i4
      obtain ⟨K5, e5, f5, x5⟩ := xSn (h := h) (L' := L) (d + 93) hwB i4 frM.rf
      have f5' : frM K4 (ev_up K5 139 1 0) := f5.t1 0
      obtain ⟨K6, L6, e6, x6, n6, l6, r6⟩ := t_enters (h := h) (x := (nI (skA A)).toInt64) (d + 98) (rwM.nil (I := K5) (L := L)) (by decide)
      have f6 : frM K4 K6 := f5'.e x6 n6
      have x56 : exc [139, 151, 152] K4 K6 := ((x5.mono (by simp)).up (by simp)).tr (x6.mono (by simp))
      obtain ⟨⟨K7, L7⟩, e7, f7, r7, l7, x7⟩ := lpF (F := fun l (p : sIL) => ev_at (d + 99) M_Mo_law 104 [.ref 139, .float 0, .float 0, .int (nI n), .int (nI (skA (sRl (nT A) R))), .int (nI l)] [] (ev_mk h p.1 p.2)) (fun l p => frM K4 p.1 ∧ rwM p.1 p.2 (lwR A R l) ∧ p.2 4 = L 4 ∧ exc [139, 151, 152] K4 p.1) 8 (fun l p hl ⟨q1, q2, q3, q4⟩ => by
        obtain ⟨K8, e8, f8, x8⟩ := xGo (h := h) (L' := p.2) (d + 94) hwB i4 q1 hl
        have r8 : rwM K8 p.2 (lwR A R l) := q2.of (by rw [x8 139 (by simp)]) rfl
        obtain ⟨K9, L9, e9, x9, n9, l9, r9⟩ := t_enters (h := h) (x := (gA A R l (aS A (16 + l))).toInt64) (d + 98) r8 (by rw [lwR_1]; omega)
        refine ⟨(K9, L9), ?_, f8.e x9 n9, r9, by show L9 4 = L 4; rw [l9 4 (by omega)]; exact q3, (q4.tr (x8.mono (by simp))).tr (x9.mono (by simp))⟩
        show ev_at (d + 99) M_Mo_law 104 [.ref 139, .float 0, .float 0, .int (nI n), .int (nI (skA (sRl (nT A) R))), .int (nI l)] [] (ev_mk h p.1 p.2) = _
        rw [e_Mo_law_104, if_pos (show nI l < 8 from (q_lt (b := 8) (by omega) (by omega)).mpr hl), e8, k_I, k_1, k_2, k_3, show gA (sRl (nT A) R) (aRl (sRl (nT A) R)) l (aS (sRl (nT A) R) (16 + l)) = gA A R l (aS A (16 + l)) from rfl, e9, k_V, k_1, k_2, k_3, show nI l + 1 = nI (l + 1) from q_add l 1]) (K6, L6) ⟨f6, r6, l6 4 (by omega), x56⟩
      have x7 : exc [139, 151, 152] K4 K7 := x7
      have i7 : invM K7 L7 (sRw (sRl (nT A) R) (lwR A R 8)) := i4.q f7 r7
      obtain ⟨K8, e8, x8, n8, z8, c8⟩ := c_laysCode (h := h) (K := K7) (L := L7) (d + 98) (k := 170) (n := n) (Or.inr rfl) (by omega)
      have h170 : ∀ j, j < n → K8 149 j = K2 149 j := fun j hj => by
        rw [c8 j hj, x7 170 (by simp), x4 170 (by simp), c3 j hj]
      have hrl : rlM2 K8 (aRl A).2 (aRl A).1 := by
        rcases i2.2.2.2.2.1 with ⟨y0, y⟩ | ⟨y, y1⟩
        · have hy : nI n = nI (aRl A).1 := h20.symm.trans y.1
          have hle : (aRl A).1 ≤ 40 := hw.2.2.2.2.1.1
          have hy' : n = (aRl A).1 := (q_eq (by omega) (by omega)).mp hy
          refine Or.inl ⟨y0, by rw [z8, hy'], fun j hj => ?_⟩
          rw [h170 j (by omega)]; exact y.2 j hj
        · have hy : n = 0 := (q_eq (b := 0) (by omega) (by omega)).mp (h20.symm.trans y)
          exact Or.inr ⟨by rw [z8, hy]; rfl, y1⟩
      refine ⟨K8, L7, ?_, i7.rl2 (R := aRl A) x8 n8 hrl, fun a ha => ?_, l7⟩
      · rw [e_Mo_law_0, e1, k_I, k_1, k_2, k_3, hv, if_neg (by decide), e2, k_I, k_1, k_2, k_3, show skA (nT A) = skA A from rfl, h20]
        refine e3.trans ?_
        show ev_at (d + 99) M_Mo_law 39 [.ref 139, .float 0, .int (nI (skA A)), .int (nI n), .int (nI n), .float 0] [] (ev_mk h K3 L) = _
        rw [e_Mo_law_39, x3 139 (by simp), h20, if_neg (fun z => absurd ((q_lt (by omega) (by omega)).mp z) (by omega)), ← x3 139 (by simp), e4, k_V, k_1, k_2, k_3, e5, k_I, k_1, k_2, k_3, e6, k_V, k_1, k_2, k_3]
        refine e7.trans ?_
        show ev_at (d + 99) M_Mo_law 104 [.ref 139, .float 0, .float 0, .int (nI n), .int (nI (skA (sRl (nT A) R))), .int (nI 8)] [] (ev_mk h K7 L7) = _
        rw [e_Mo_law_104, if_neg (by decide), e8, k_V, k_1, k_2, k_3]
      · rw [x8 a (by simp <;> omega), x7 a (by simp <;> omega), x4 a (by simp <;> omega), x3 a (by simp <;> omega), x2 a (by simp <;> omega), x1 a (by simp <;> omega), th_lo a ha]
  · refine ⟨(-10000) - nI P, nT A, nT_wf hw, fun I L hi => ?_, fun I L hi => ?_⟩
    · obtain ⟨K, e1, x1, i1, c1⟩ := xRd (h := h) (d + 89) hw hi
      refine ⟨ev_up K 1 1 0, L, ?_, i1, fun a ha => ?_, rfl⟩
      · rw [e_SL_law_0, e1, k_I, k_1, k_2, k_3, hv, m1_2 P (by omega), if_neg (m1_ne (by omega))]
      · rw [u_cf (by omega), x1 a (by simp <;> omega)]
    · obtain ⟨K, e1, x1, i1, t1⟩ := xRr (h := h) (d + 1) hw hi.th
      refine ⟨K, L, ?_, i1, fun a ha => by rw [x1 a (by simp <;> omega), th_lo a ha], rfl⟩
      rw [e_Mo_law_0, e1, k_I, k_1, k_2, k_3, hv, if_pos (m1_neg (by omega)), m1_3 P (by omega)]
end LW
