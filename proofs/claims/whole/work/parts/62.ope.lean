/-! Calls: sheet, count. -/
section OE
variable {h : Bool × Nat × Nat} {d : Nat} {I I' : Nat → Nat → Int32} {L L' : Nat → Nat → Int64} {A : aP}
def clp (y : Int32) : Int32 := if 0 < (if y < 9 then y else 9) then (if y < 9 then y else 9) else 0
theorem clp_lt (y : Int32) : ∃ a, a < 10 ∧ clp y = nI a := by
  unfold clp
  by_cases h1 : y < 9
  · rw [if_pos h1]
    by_cases h2 : 0 < y
    · rw [if_pos h2]
      have h3 : ¬ y < 0 := fun z => absurd h2 (by rw [Int32.lt_iff_toInt_lt] at z ⊢; omega)
      obtain ⟨a, ha, rfl⟩ := q_ge h3
      exact ⟨a, by have := (q_lt (b := 9) ha (by omega)).mp h1; omega, rfl⟩
    · rw [if_neg h2]; exact ⟨0, by omega, rfl⟩
  · rw [if_neg h1, if_pos (by decide)]; exact ⟨9, by omega, rfl⟩
def ctT (kd y : Int32) : Int32 := if kd = 0 then y.toInt8.toInt32 else if kd = 1 then y.toInt16.toInt32 else y
/-- the moods that a sheet tells -/
def shM (kd n f st : Int32) (l : Nat) : Int32 := if kd = 3 then 0 else if nI l < n then clp (ctT kd (f + nI l * st)) else 0
def shS (s : Nat → Int32) (g : Nat → Int32) (i : Nat) : Nat → Int32 := fun j => if 8 ≤ j ∧ j < 8 + i then g (j - 8) else s j
theorem shS_in {s g : Nat → Int32} {i j : Nat} (h : 8 ≤ j ∧ j < 8 + i) : shS s g i j = g (j - 8) := if_pos h
theorem shS_no {s g : Nat → Int32} {i j : Nat} (h : ¬ (8 ≤ j ∧ j < 8 + i)) : shS s g i j = s j := if_neg h
theorem shM_lt (kd n f st : Int32) (l : Nat) : ∃ a, a < 10 ∧ shM kd n f st l = nI a := by
  unfold shM
  split
  · exact ⟨0, by omega, rfl⟩
  · split
    · exact clp_lt _
    · exact ⟨0, by omega, rfl⟩
theorem shS_wf {len : Nat → Nat} {s g : Nat → Int32} (hs : wfS len s) (hg : ∀ l, ∃ a, a < 10 ∧ g l = nI a) : wfS len (shS s g 8) := by
  intro j hj hj25
  by_cases e : 8 ≤ j ∧ j < 8 + 8
  · have e1 : shS s g 8 j = g (j - 8) := if_pos e
    obtain ⟨a, ha, hg⟩ := hg (j - 8)
    rw [hg] at e1
    rw [uO_nI e1 (by omega), bnd_8 (by omega) (by omega)]
    exact ⟨e1, ha⟩
  · have := hs j hj hj25
    have e1 : shS s g 8 j = s j := if_neg e
    unfold uO at this ⊢
    rw [e1]; exact this
theorem invC.s17 (hi : invC I L A) {s : Nat → Int32} (hf : ∀ a, ¬ (17 ≤ a ∧ a ≤ 20) → I' a = I a) (hs : cSt 17 I' s) : invC I' L (sS A s) := hi.st (fun a ha => hf a (by omega)) (by rw [hf 101 (by omega)]) (fun w hw => by rw [hf 127 (by omega)]) hs (hi.2.2.2.2.2.1.fr (fun a ha => hf a (by omega))) (hi.2.1.of (by rw [hf 3 (by omega)]) rfl)
theorem invM.s143 (hi : invM I L A) {s : Nat → Int32} (hf : ∀ a, ¬ (a = 143 ∨ a = 139) → I' a = I a) (f9 : ∀ j, j ≠ 0 → I' 139 j = I 139 j) (hs : mSt 143 0 I' s) : invM I' L (sS A s) := hi.st (fun a ha => hf a (by unfold scM at ha; omega)) (fun j hj => f9 j (by omega)) hs ⟨(f9 26 (by omega)).trans hi.2.2.2.2.2.1.1, hi.2.2.2.2.2.1.2.1, fun i hi' => (hi.2.2.2.2.2.1.2.2 i hi').fr (hf 155 (by omega))⟩ (hi.2.1.of (f9 1 (by omega)) rfl)
theorem wfA.s17 (hw : wfA A) {s : Nat → Int32} (hs : wfS (aBk A).2.1 s) : wfA (sS A s) := ⟨hw.1, hw.2.1, hw.2.2.1, hs, hw.2.2.2.2⟩
theorem clp_0 : clp 0 = 0 := by decide
theorem op_sheet {x y z w : Int32} (hi : inv I L) : okI h d M_SL_sheet M_Mo_sheet [.int x, .int y, .int z, .int w] I L := by
  refine ok_of (fun A hw => ?_) hi
  have rC : ∀ (I : Nat → Nat → Int32) (L : Nat → Nat → Int64), ev_do (d + 100) M_SL_sheet (.ref 0 :: [.int x, .int y, .int z, .int w]) (ev_mk h I L) = if blw x 4 then (if 8 < y then ev_ri (-1) (ev_mk h I L) else if x = 3 then ev_cV (ev_do (d + 99) M_Arr_fill [.ref 19, .int 0] (ev_mk h I L)) (fun s1 => ev_ri (-3) (ev_mk s1.1.2 s1.2.1 s1.2.2.1)) else if y < 0 then ev_ri (-2) (ev_mk h I L) else ev_at (d + 99) M_SL_sheet 46 [.ref 0, .int x, .int y, .int z, .int w, .int 0, .float 0] [] (ev_mk h I L)) else ev_ri (-1) (ev_mk h I L) := by
    intro I L
    rw [e_SL_sheet_0]
    exact r_two (n := 3) (by omega)
  have rM : ∀ (I : Nat → Nat → Int32) (L : Nat → Nat → Int64), ev_do (d + 100) M_Mo_sheet (.ref 139 :: [.int x, .int y, .int z, .int w]) (ev_mk h I L) = if blw x 4 then (if 8 < y then ev_ri (-1) (ev_mk h (ev_up I 139 0 0) L) else if x = 3 then ev_at (d + 99) M_Mo_sheet 43 [.ref 139, .int x, .int y, .float 0, .int w, .int z, .int 0, .float 0] [] (ev_mk h (ev_up I 139 0 0) L) else if y < 0 then ev_ri (-2) (ev_mk h (ev_up I 139 0 0) L) else ev_at (d + 99) M_Mo_sheet 43 [.ref 139, .int x, .int y, .float 0, .int w, .int z, .int 0, .float 0] [] (ev_mk h (ev_up I 139 0 0) L)) else ev_ri (-1) (ev_mk h (ev_up I 139 0 0) L) := by
    intro I L
    rw [e_Mo_sheet_0, c_in3, k_I, k_1, k_2, k_3]
    cases blw x 4 with
    | false => rw [if_pos (show fl false = 0 from rfl)]; rfl
    | true => rw [if_neg (show ¬ fl true = 0 by decide), if_pos (c := true = true) rfl]
  have no : ∀ v : Int32, (∀ (I : Nat → Nat → Int32) (L : Nat → Nat → Int64), ev_do (d + 100) M_SL_sheet (.ref 0 :: [.int x, .int y, .int z, .int w]) (ev_mk h I L) = ev_ri v (ev_mk h I L)) → (∀ (I : Nat → Nat → Int32) (L : Nat → Nat → Int64), ev_do (d + 100) M_Mo_sheet (.ref 139 :: [.int x, .int y, .int z, .int w]) (ev_mk h I L) = ev_ri v (ev_mk h (ev_up I 139 0 0) L)) → ∃ v A', wfA A' ∧ hfC h d M_SL_sheet [.int x, .int y, .int z, .int w] A A' v ∧ hfM h d M_Mo_sheet [.int x, .int y, .int z, .int w] A A' v := fun v h1 h2 => ⟨v, A, hw, fun I L hi => ⟨I, L, h1 I L, hi, fun _ _ => rfl, rfl⟩, fun I L hi => ⟨_, L, h2 I L, hi.th, th_lo, rfl⟩⟩
  cases hx : blw x 4 with
  | false =>
    rw [hx] at rC rM
    exact no (-1) (fun I L => (rC I L).trans (if_neg (by decide))) (fun I L => (rM I L).trans (if_neg (by decide)))
  | true =>
    rw [hx] at rC rM
    by_cases hy : 8 < y
    · exact no (-1) (fun I L => (rC I L).trans ((if_pos rfl).trans (if_pos hy))) (fun I L => (rM I L).trans ((if_pos rfl).trans (if_pos hy)))
    · -- the reference's loop
      have mlp : ∀ (I : Nat → Nat → Int32) (L : Nat → Nat → Int64), invM I L A → ∃ I1, ev_at (d + 99) M_Mo_sheet 43 [.ref 139, .int x, .int y, .float 0, .int w, .int z, .int 0, .float 0] [] (ev_mk h (ev_up I 139 0 0) L) = ev_at (d + 99) M_Mo_sheet 43 [.ref 139, .int x, .int y, .float 0, .int w, .int (z + nI 8 * w), .int (nI 8), .float 0] [] (ev_mk h I1 L) ∧ exc [143] (ev_up I 139 0 0) I1 ∧ mSt 143 0 I1 (shS (aS A) (shM x y z w) 8) := by
        intro I L hi
        have e0 : z + nI 0 * w = z := by rw [show nI 0 = 0 from rfl, Int32.zero_mul, Int32.add_zero]
        have := lpX (res := fun I1 => ev_at (d + 99) M_Mo_sheet 43 [.ref 139, .int x, .int y, .float 0, .int w, .int (z + nI 8 * w), .int (nI 8), .float 0] [] (ev_mk h I1 L)) (Q := fun I1 => exc [143] (ev_up I 139 0 0) I1 ∧ mSt 143 0 I1 (shS (aS A) (shM x y z w) 8)) (F := fun i J => ev_at (d + 99) M_Mo_sheet 43 [.ref 139, .int x, .int y, .float 0, .int w, .int (z + nI i * w), .int (nI i), .float 0] [] (ev_mk h J L)) (fun i J => exc [143] (ev_up I 139 0 0) J ∧ mSt 143 0 J (shS (aS A) (shM x y z w) i)) 8 ?_ ?_ 0 (by omega) (ev_up I 139 0 0) ⟨exc.rf, fun j hj => ?_⟩
        · rw [e0] at this; exact this
        · intro i J hi' ⟨p1, p2⟩
          refine Or.inl ⟨ev_up J 143 (8 + i) (shM x y z w i), ?_, p1.up (by simp), fun j hj => ?_⟩
          · have ez : z + nI (i + 1) * w = z + nI i * w + w := by
              rw [← q_add i 1, Int32.add_mul, show nI 1 = 1 from rfl, Int32.one_mul, Int32.add_assoc]
            have e8 : (8 : Int32) + nI i = nI (8 + i) := q_add 8 i
            have e110 : ∀ v, ev_at (d + 99) M_Mo_sheet 110 [.ref 139, .int x, .int y, .float 0, .int w, .int (z + nI i * w), .int (nI i), .float 0] [.int v, .int (8 + nI i), .ref 143] (ev_mk h J L) = ev_at (d + 99) M_Mo_sheet 43 [.ref 139, .int x, .int y, .float 0, .int w, .int (z + nI (i + 1) * w), .int (nI (i + 1)), .float 0] [] (ev_mk h (ev_up J 143 (8 + i) v) L) := by
              intro v
              rw [e_Mo_sheet_110, e8, q_in (by omega), if_pos (by simp <;> omega), q_cl (by omega), ez, show nI i + 1 = nI (i + 1) from q_add i 1]
            have e73 : ∀ v, clp v = clp (ctT x (z + nI i * w)) → ev_at (d + 99) M_Mo_sheet 73 [.ref 139, .int x, .int y, .float 0, .int w, .int (z + nI i * w), .int (nI i), .float 0] [.int v] (ev_mk h J L) = ev_at (d + 99) M_Mo_sheet 43 [.ref 139, .int x, .int y, .float 0, .int w, .int (z + nI (i + 1) * w), .int (nI (i + 1)), .float 0] [] (ev_mk h (ev_up J 143 (8 + i) (shM x y z w i)) L) := by
              intro v hv
              rw [e_Mo_sheet_73]
              unfold shM
              by_cases c3 : x = 3
              · rw [if_pos c3, if_pos c3, e110]
              · rw [if_neg c3, if_neg c3]
                by_cases c4 : nI i < y
                · rw [if_pos c4, if_pos c4, e110, ← hv]; rfl
                · rw [if_neg c4, if_neg c4, e110]
            rw [e_Mo_sheet_43, if_pos (show nI i < (8 : Int32) from (q_lt (b := 8) (by omega) (by omega)).mpr hi')]
            by_cases c0 : x = 0
            · rw [if_pos c0, e73 _ (by unfold ctT; rw [if_pos c0])]
            · rw [if_neg c0]
              by_cases c1 : x = 1
              · rw [if_pos c1, e73 _ (by unfold ctT; rw [if_neg c0, if_pos c1])]
              · rw [if_neg c1, e73 _ (by unfold ctT; rw [if_neg c0, if_neg c1])]
          · rw [Nat.zero_add]
            unfold shS
            by_cases e : j = 8 + i
            · subst e; rw [u_at, if_pos (by omega), show 8 + i - 8 = i by omega]
            · have := p2.at hj
              unfold shS at this
              rw [u_j e, this]
              by_cases e2 : 8 ≤ j ∧ j < 8 + i
              · rw [if_pos e2, if_pos (by omega)]
              · rw [if_neg e2, if_neg (by omega)]
        · intro J ⟨p1, p2⟩
          exact ⟨J, rfl, p1, p2⟩
        · rw [Nat.zero_add, u_c (by omega)]
          unfold shS
          rw [if_neg (by omega)]
          exact hi.2.2.2.1.at hj
      by_cases h3 : x = 3
      · refine ⟨-3, sS A (shS (aS A) (shM x y z w) 8), hw.s17 (shS_wf hw.2.2.2.1 (shM_lt x y z w)), fun I L hi => ?_, fun I L hi => ?_⟩
        · obtain ⟨I1, e1, x1, f1⟩ := c_fill8 (h := h) (I := I) (L := L) (d + 98) (k := 19) (x := 0) (by omega)
          refine ⟨I1, L, ?_, hi.s17 (fun a ha => x1 a (by simp <;> omega)) ?_, fun a ha => x1 a (by simp <;> omega), rfl⟩
          · rw [rC, if_pos rfl, if_neg hy, if_pos h3, e1, k_V, k_1, k_2, k_3]
          · obtain ⟨s1, s2, s3, s4⟩ := hi.2.2.2.1
            refine ⟨fun l hl => ⟨?_, ?_, ?_⟩, ?_, ?_, ?_⟩
            · rw [x1 18 (by simp), shS_no (by omega)]; exact (s1 l hl).1
            · rw [shS_in (by omega)]; unfold shM; rw [if_pos h3]; exact f1 l hl
            · rw [x1 20 (by simp), shS_no (by omega)]; exact (s1 l hl).2.2
            · rw [x1 17 (by simp)]; exact s2
            · rw [x1 17 (by simp)]; exact s3
            · rw [x1 17 (by simp)]; exact s4
        · obtain ⟨I1, e1, x1, s1⟩ := mlp I L hi
          refine ⟨I1, L, ?_, hi.s143 (fun a ha => by rw [x1 a (by simp <;> omega), u_cf (by omega)]) (fun j hj => by rw [x1 139 (by simp), u_j hj]) s1, fun a ha => by rw [x1 a (by simp <;> omega), u_cf (by omega)], rfl⟩
          rw [rM, if_pos rfl, if_neg hy, if_pos h3, e1, e_Mo_sheet_43, if_neg (by decide), if_pos h3]
      · by_cases hy0 : y < 0
        · exact no (-2) (fun I L => (rC I L).trans ((if_pos rfl).trans ((if_neg hy).trans ((if_neg h3).trans (if_pos hy0))))) (fun I L => (rM I L).trans ((if_pos rfl).trans ((if_neg hy).trans ((if_neg h3).trans (if_pos hy0)))))
        · refine ⟨sm8 (fun j => shS (aS A) (shM x y z w) 8 (8 + j)) 8, sS A (shS (aS A) (shM x y z w) 8), hw.s17 (shS_wf hw.2.2.2.1 (shM_lt x y z w)), fun I L hi => ?_, fun I L hi => ?_⟩
          · have lp : ∃ I1, ev_at (d + 99) M_SL_sheet 46 [.ref 0, .int x, .int y, .int z, .int w, .int (nI 0), .float 0] [] (ev_mk h I L) = ev_at (d + 99) M_SL_sheet 46 [.ref 0, .int x, .int y, .int z, .int w, .int (nI 8), .float 0] [] (ev_mk h I1 L) ∧ exc [19] I I1 ∧ ∀ l, l < 8 → I1 19 l = shM x y z w l := by
              refine lpX (F := fun i J => ev_at (d + 99) M_SL_sheet 46 [.ref 0, .int x, .int y, .int z, .int w, .int (nI i), .float 0] [] (ev_mk h J L)) (fun i J => exc [19] I J ∧ ∀ l, l < i → J 19 l = shM x y z w l) 8 ?_ ?_ 0 (by omega) _ ⟨exc.rf, fun l hl => by omega⟩
              · intro i J hi' ⟨p1, p2⟩
                refine Or.inl ⟨ev_up J 19 i (shM x y z w i), ?_, p1.up (by simp), fun l hl => ?_⟩
                · have e74 : ∀ v, ev_at (d + 99) M_SL_sheet 74 [.ref 0, .int x, .int y, .int z, .int w, .int (nI i), .float 0] [.int v] (ev_mk h J L) = ev_at (d + 99) M_SL_sheet 46 [.ref 0, .int x, .int y, .int z, .int w, .int (nI (i + 1)), .float 0] [] (ev_mk h (ev_up J 19 i (clp v)) L) := by
                    intro v
                    rw [e_SL_sheet_74, q_in (by omega), if_pos (by simp <;> omega), q_cl (by omega), show nI i + 1 = nI (i + 1) from q_add i 1]
                    rfl
                  have ect : ev_do (d + 99) M_SL_cutTo [.int x, .int (z + nI i * w)] (ev_mk h J L) = ev_ri (ctT x (z + nI i * w)) (ev_mk h J L) := by
                    rw [e_SL_cutTo_0]
                    unfold ctT
                    by_cases c0 : x = 0
                    · rw [if_pos c0, if_pos c0]
                    · rw [if_neg c0, if_neg c0]
                      by_cases c1 : x = 1
                      · rw [if_pos c1, if_pos c1]
                      · rw [if_neg c1, if_neg c1]
                  rw [e_SL_sheet_46, if_pos (show nI i < (8 : Int32) from (q_lt (b := 8) (by omega) (by omega)).mpr hi')]
                  unfold shM
                  rw [if_neg h3]
                  by_cases c4 : nI i < y
                  · rw [if_pos c4, if_pos c4, ect, k_I, k_1, k_2, k_3, e74]
                  · rw [if_neg c4, if_neg c4, e74, clp_0]
                · by_cases e : l = i
                  · rw [e, u_at]
                  · rw [u_j e]; exact p2 l (by omega)
              · intro J ⟨p1, p2⟩
                exact ⟨J, rfl, p1, p2⟩
            obtain ⟨I1, e1, x1, f1⟩ := lp
            have sg : cSt 17 I1 (shS (aS A) (shM x y z w) 8) := by
              obtain ⟨s1, s2, s3, s4⟩ := hi.2.2.2.1
              refine ⟨fun l hl => ⟨?_, ?_, ?_⟩, ?_, ?_, ?_⟩
              · rw [x1 18 (by simp), shS_no (by omega)]; exact (s1 l hl).1
              · rw [shS_in (by omega), show 8 + l - 8 = l by omega]; exact f1 l hl
              · rw [x1 20 (by simp), shS_no (by omega)]; exact (s1 l hl).2.2
              · rw [x1 17 (by simp)]; exact s2
              · rw [x1 17 (by simp)]; exact s3
              · rw [x1 17 (by simp)]; exact s4
            refine ⟨I1, L, ?_, hi.s17 (fun a ha => x1 a (by simp <;> omega)) sg, fun a ha => x1 a (by simp <;> omega), rfl⟩
            rw [rC, if_pos rfl, if_neg hy, if_neg h3, if_neg hy0]
            refine e1.trans ?_
            rw [e_SL_sheet_46, if_neg (by decide), c_moodsTogether (d + 97) (Or.inl rfl) sg, k_I, k_1, k_2, k_3]
          · obtain ⟨I1, e1, x1, s1⟩ := mlp I L hi
            refine ⟨I1, L, ?_, hi.s143 (fun a ha => by rw [x1 a (by simp <;> omega), u_cf (by omega)]) (fun j hj => by rw [x1 139 (by simp), u_j hj]) s1, fun a ha => by rw [x1 a (by simp <;> omega), u_cf (by omega)], rfl⟩
            rw [rM, if_pos rfl, if_neg hy, if_neg h3, if_neg hy0, e1, e_Mo_sheet_43, if_neg (by decide), if_neg h3, show (.int 8 : Value) = .int (nI 8) from rfl, c_Mo_sumOf (f := fun j => shS (aS A) (shM x y z w) 8 (8 + j)) (d + 98) (Or.inl rfl) (by omega) (fun j hj => s1.at (by omega)), k_I, k_1, k_2, k_3]
theorem c_allSigns (d : Nat) {W : Nat} {len : Nat → Nat} {lt : Nat → Nat → Nat} {u : Nat → Nat} {b : Bool} (hB : bkM I W len lt) (hu : ∀ w, w < W → I 143 w = nI (u w)) : ev_do (d + 3) M_Mo_allSigns [.ref 139, .int (fl b)] (ev_mk h I L) = ev_ri (sm8 (fun l => nI (sgn len lt u l b W)) 8) (ev_mk h I L) := by
  rw [e_Mo_allSigns_0]
  refine lpE (F := fun i (_ : Unit) => ev_at (d + 2) M_Mo_allSigns 4 [.ref 139, .int (fl b), .int (sm8 (fun l => nI (sgn len lt u l b W)) i), .int (nI i)] [] (ev_mk h I L)) (fun _ _ => True) (fun o => o = ev_ri (sm8 (fun l => nI (sgn len lt u l b W)) 8) (ev_mk h I L)) 8 ?_ ?_ 0 (by omega) () trivial
  · intro i _ hi _
    refine Or.inl ⟨(), ?_, trivial⟩
    rw [sm8, e_Mo_allSigns_4, if_pos (show nI i < (8 : Int32) from (q_lt (b := 8) (by omega) (by omega)).mpr hi), c_Mo_signsOf d hB (Or.inl rfl) hi hu, k_I, k_1, k_2, k_3, show nI i + 1 = nI (i + 1) from q_add i 1]
  · intro _ _
    rw [e_Mo_allSigns_4, if_neg (by decide)]
/-- what count answers -/
def cnt (A : aP) (x : Int32) : Int32 := if x = 0 then nI (aBk A).1 else if x = 1 then aS A 25 else if x = 2 then aS A 24 else if x = 3 then aS A 26 else if x = 4 then sm8 (fun j => aS A (8 + j)) 8 else if x = 5 then sm8 (fun j => aS A (16 + j)) 8 else if x = 6 then sm8 (fun l => nI (sgn (aBk A).2.1 (aBk A).2.2 (uO (aS A)) l true (aBk A).1)) 8 else if x = 7 then sm8 (fun l => nI (sgn (aBk A).2.1 (aBk A).2.2 (uO (aS A)) l false (aBk A).1)) 8 else if x = 8 then nI (aNt A).1 else if x = 9 then nI (aUn A).1 else if x = 10 then nI (aRw A).1 else if x = 11 then nI (aTx A).1 else -100
theorem op_count {x : Int32} (hi : inv I L) : okI h d M_SL_count M_Mo_count [.int x] I L := by
  refine ok_of (fun A hw => ⟨cnt A x, A, hw, fun I L hi => ?_, fun I L hi => ?_⟩) hi
  · obtain ⟨h1, h2, h3, h4, h5, ⟨ua, _, _, h6, _⟩, h7, h8, h9⟩ := id hi
    have hW := h3.1.2.1
    have hu : ∀ w, w < (aBk A).1 → I (17 + 1) w = nI (uO (aS A) w) := fun w hw' => ((h4.1 w (by omega)).1).trans (hw.2.2.2.1.u (by omega)).1
    obtain ⟨I1, e1, x1, f1⟩ := c_Union_tally (h := h) (L := L) (d + 97) h3.1 (Or.inl rfl : 17 = 17 ∨ 17 = 21) hu
    have s1 : cSt 17 I1 (aS A) := h4.ex x1 (by simp) (by simp) (by simp) (by simp)
    have fr : frC I I1 := frC.of x1 (by simp [scC]) (by rw [x1 101 (by simp)]) (by simp)
    refine ⟨I1, L, ?_, hi.q (t := aRw A) fr (h2.of (by rw [x1 3 (by simp)]) rfl), fr.hi, rfl⟩
    rw [e_SL_count_0, e1, k_V, k_1, k_2, k_3, c_moodsTogether (d + 97) (Or.inl rfl) s1, c_sum (f := fun j => aS A (16 + j)) (d + 98) (by omega : 20 = 19 ∨ 20 = 20 ∨ 20 = 23 ∨ 20 = 112 ∨ 20 = 113) (fun j hj => (s1.1 j hj).2.2), c_sum (d + 98) (by omega : 112 = 19 ∨ 112 = 20 ∨ 112 = 23 ∨ 112 = 112 ∨ 112 = 113) (fun j hj => (f1 j hj).1), c_sum (d + 98) (by omega : 113 = 19 ∨ 113 = 20 ∨ 113 = 23 ∨ 113 = 112 ∨ 113 = 113) (fun j hj => (f1 j hj).2), s1.2.1, s1.2.2.1, s1.2.2.2, x1 5 (by simp), x1 129 (by simp), x1 25 (by simp), x1 3 (by simp), x1 1 (by simp), h3.1.1, h8.1, h6, h2.1, h1.1]
    unfold cnt
    by_cases c0 : x = 0
    · rw [if_pos c0, if_pos c0]; try rfl
    rw [if_neg c0, if_neg c0]
    by_cases c1 : x = 1
    · rw [if_pos c1, if_pos c1]; try rfl
    rw [if_neg c1, if_neg c1]
    by_cases c2 : x = 2
    · rw [if_pos c2, if_pos c2]; try rfl
    rw [if_neg c2, if_neg c2]
    by_cases c3 : x = 3
    · rw [if_pos c3, if_pos c3]; try rfl
    rw [if_neg c3, if_neg c3]
    by_cases c4 : x = 4
    · rw [if_pos c4, if_pos c4]; try rfl
    rw [if_neg c4, if_neg c4]
    by_cases c5 : x = 5
    · rw [if_pos c5, if_pos c5]; try rfl
    rw [if_neg c5, if_neg c5]
    by_cases c6 : x = 6
    · rw [if_pos c6, if_pos c6]; try rfl
    rw [if_neg c6, if_neg c6]
    by_cases c7 : x = 7
    · rw [if_pos c7, if_pos c7]; try rfl
    rw [if_neg c7, if_neg c7]
    by_cases c8 : x = 8
    · rw [if_pos c8, if_pos c8]; try rfl
    rw [if_neg c8, if_neg c8]
    by_cases c9 : x = 9
    · rw [if_pos c9, if_pos c9]; try rfl
    rw [if_neg c9, if_neg c9]
    by_cases c10 : x = 10
    · rw [if_pos c10, if_pos c10]; try rfl
    rw [if_neg c10, if_neg c10]
    by_cases c11 : x = 11
    · rw [if_pos c11, if_pos c11]; try rfl
    rw [if_neg c11, if_neg c11]
  · obtain ⟨h1, h2, h3, h4, h5, h6, _, h9⟩ := id hi
    have ht := hi.th
    have hW := h3.2.1
    have hu : ∀ w, w < (aBk A).1 → ev_up I 139 0 0 143 w = nI (uO (aS A) w) := fun w hw' => (ht.2.2.2.1.at (by omega)).trans (hw.2.2.2.1.u (by omega)).1
    refine ⟨_, L, ?_, ht, th_lo, rfl⟩
    rw [e_Mo_count_0, show (.int 8 : Value) = .int (nI 8) from rfl, show (.int 16 : Value) = .int (nI 16) from rfl, show (.int 1 : Value) = .int (fl true) from rfl, show (.int 0 : Value) = .int (fl false) from rfl, c_Mo_sumOf (f := fun j => aS A (8 + j)) (d + 98) (Or.inl rfl) (by omega) (fun j hj => ht.2.2.2.1.at (by omega)), c_Mo_sumOf (f := fun j => aS A (16 + j)) (d + 98) (Or.inl rfl) (by omega) (fun j hj => ht.2.2.2.1.at (by omega)), c_allSigns (d + 96) ht.2.2.1 hu, c_allSigns (d + 96) ht.2.2.1 hu, h3.1, h4.at (show 25 < 27 by omega), h4.at (show 24 < 27 by omega), h4.at (show 26 < 27 by omega), h9.1, h6.1, h2.1, h1.1]
    unfold cnt
    by_cases c0 : x = 0
    · rw [if_pos c0, if_pos c0]; try rfl
    rw [if_neg c0, if_neg c0]
    by_cases c1 : x = 1
    · rw [if_pos c1, if_pos c1]; try rfl
    rw [if_neg c1, if_neg c1]
    by_cases c2 : x = 2
    · rw [if_pos c2, if_pos c2]; try rfl
    rw [if_neg c2, if_neg c2]
    by_cases c3 : x = 3
    · rw [if_pos c3, if_pos c3]; try rfl
    rw [if_neg c3, if_neg c3]
    by_cases c4 : x = 4
    · rw [if_pos c4, if_pos c4]; try rfl
    rw [if_neg c4, if_neg c4]
    by_cases c5 : x = 5
    · rw [if_pos c5, if_pos c5]; try rfl
    rw [if_neg c5, if_neg c5]
    by_cases c6 : x = 6
    · rw [if_pos c6, if_pos c6]; try rfl
    rw [if_neg c6, if_neg c6]
    by_cases c7 : x = 7
    · rw [if_pos c7, if_pos c7]; try rfl
    rw [if_neg c7, if_neg c7]
    by_cases c8 : x = 8
    · rw [if_pos c8, if_pos c8]; try rfl
    rw [if_neg c8, if_neg c8]
    by_cases c9 : x = 9
    · rw [if_pos c9, if_pos c9]; try rfl
    rw [if_neg c9, if_neg c9]
    by_cases c10 : x = 10
    · rw [if_pos c10, if_pos c10]; try rfl
    rw [if_neg c10, if_neg c10]
    by_cases c11 : x = 11
    · rw [if_pos c11, if_pos c11]; try rfl
    rw [if_neg c11, if_neg c11]
end OE
