/-! Calls: parts. -/
theorem pc_all : ∀ n, n < 9 → ∀ v, v < 2 ^ n → (pcn v < n ↔ v ≠ 2 ^ n - 1) := by decide +kernel
theorem xor_lt2 {a b n : Nat} (ha : a < 2 ^ n) (hb : b < 2 ^ n) : a ^^^ b < 2 ^ n := Nat.xor_lt_two_pow ha hb
section OM
variable {h : Bool × Nat × Nat} {d : Nat} {I J : Nat → Nat → Int32} {L : Nat → Nat → Int64} {A : aP}
/-- with these unsaid places the word w can be one with b -/
def cnv (A : aP) (w b v : Nat) : Bool := cn ((aBk A).2.2 w) ((aBk A).2.1 w) v ((aBk A).2.2 b) ((aBk A).2.1 b) (uO (aS A) b)
def ptP (A : aP) (w b k : Nat) : Bool := decide ((uO (aS A) w ^^^ k) ≠ 2 ^ (aBk A).2.1 w - 1) && !cnv A w b (uO (aS A) w ^^^ k)
theorem op_parts {x y : Int32} (hi : inv I L) : okI h d M_SL_parts M_Mo_parts [.int x, .int y] I L := by
  refine ok_q (fun A hw => ?_) hi
  have hW := hw.2.2.1.1
  cases hxy : blw x (aBk A).1 && blw y (aBk A).1 && decide (x ≠ y) with
  | false =>
    refine no_q (v := -1) hw (fun I L hi => ?_) (fun I L hi => ?_)
    · rw [e_SL_parts_0, c_Book_hasBoth (d + 97) hi.2.2.1.1.1, k_I, k_1, k_2, k_3, hxy, if_pos (show fl false = 0 from rfl)]
    · rw [e_Mo_parts_0, c_Mo_arePair (d + 96) hi.th.2.2.1.1 hW, k_I, k_1, k_2, k_3, hxy, if_pos (show fl false = 0 from rfl)]
  | true =>
    have hxy' := hxy
    rw [Bool.and_eq_true, Bool.and_eq_true] at hxy'
    obtain ⟨w, hw', rfl⟩ := (blw_iff (by omega)).mp hxy'.1.1
    obtain ⟨b, hb, rfl⟩ := (blw_iff (by omega)).mp hxy'.1.2
    have hwb : w ≠ b := fun e => (of_decide_eq_true hxy'.2) (by rw [e])
    obtain ⟨l8, l1, _, llt⟩ := hw.2.2.1.2 w (by omega)
    have h8 := pw8 l8
    have hp1 : 0 < 2 ^ (aBk A).2.1 w := Nat.two_pow_pos _
    have hu := (hw.2.2.2.1.u (w := w) (by omega)).2
    obtain ⟨n, hn⟩ : ∃ n, n = 2 ^ (aBk A).2.1 w := ⟨_, rfl⟩
    obtain ⟨P, hP⟩ : ∃ P : Nat → Bool, P = ptP A w b := ⟨_, rfl⟩
    have hlook : ∀ v st, look ((aBk A).2.2 w) (fun i => (v &&& msk (fun i => st.testBit ((aBk A).2.2 w i)) ((aBk A).2.1 w)).testBit i) ((aBk A).2.1 w) = looks ((aBk A).2.2 w) ((aBk A).2.1 w) v st := fun v st => look_congr (fun j hj => by rw [Nat.testBit_and, msk_bit, decide_eq_true hj, Bool.true_and])
    have hcode : ∀ v st, nI (cod (looks ((aBk A).2.2 w) ((aBk A).2.1 w) v st)) = nI (cod (lk A b st)) ↔ looks ((aBk A).2.2 w) ((aBk A).2.1 w) v st = lk A b st := fun v st => q_code (Nat.le_trans (looks_len _ _ _ _) l8) (lk_len hw hb st) (looks_lt llt) (lk_lt hw hb st)
    have lC : ∀ (I : Nat → Nat → Int32) (L : Nat → Nat → Int64), invC I L A → ∃ K, ev_do (d + 100) M_SL_parts (.ref 0 :: [.int (nI w), .int (nI b)]) (ev_mk h I L) = ev_at (d + 99) M_SL_parts 106 [.ref 0, .int (nI w), .float 0, .int (nI (n - 1)), .int (enc (bF P n)), .int (nI n), .float 0] [] (ev_mk h K L) ∧ frC I K ∧ K 3 1 = I 3 1 := by
      intro I L hi
      have lp : ∃ K, ev_at (d + 99) M_SL_parts 31 [.ref 0, .int (nI w), .int (nI b), .int (nI (n - 1)), .int (nI 0), .float 0, .float 0] [] (ev_mk h I L) = ev_at (d + 99) M_SL_parts 106 [.ref 0, .int (nI w), .float 0, .int (nI (n - 1)), .int (-1), .int 0, .float 0] [] (ev_mk h K L) ∧ exc [136, 137, 138] I K ∧ ∀ k, k < 256 → K 136 k = nI (msk (fun i => k.testBit ((aBk A).2.2 w i)) ((aBk A).2.1 w)) ∧ K 137 k = nI (cod (look ((aBk A).2.2 w) (fun i => k.testBit i) ((aBk A).2.1 w))) ∧ K 138 k = nI (cod (lk A b k)) := by
        refine lpX (F := fun i J => ev_at (d + 99) M_SL_parts 31 [.ref 0, .int (nI w), .int (nI b), .int (nI (n - 1)), .int (nI i), .float 0, .float 0] [] (ev_mk h J L)) (fun i J => exc [136, 137, 138] I J ∧ ∀ k, k < i → J 136 k = nI (msk (fun i => k.testBit ((aBk A).2.2 w i)) ((aBk A).2.1 w)) ∧ J 137 k = nI (cod (look ((aBk A).2.2 w) (fun i => k.testBit i) ((aBk A).2.1 w))) ∧ J 138 k = nI (cod (lk A b k))) 256 ?_ ?_ 0 (by omega) I ⟨exc.rf, fun k hk => by omega⟩
        · intro i J hi' ⟨p1, p2⟩
          have f1 : frC I J := frC.rf.x p1 (by simp [scC])
          have e1 := c_Book_placesOf (h := h) (L := L) (set := i) (d + 98) (hi.bk f1).1 (show w < 8 by omega)
          obtain ⟨J1, hJ1⟩ : ∃ K, K = ev_up J 136 i (nI (msk (fun j => i.testBit ((aBk A).2.2 w j)) ((aBk A).2.1 w))) := ⟨_, rfl⟩
          have f2 : frC I J1 := by rw [hJ1]; exact f1.up (by unfold scC; omega) (by omega) (by omega)
          have e2 := c_Book_bare (h := h) (L := L) (g := i) (d + 98) (hi.bk f2).1 (show w < 8 by omega)
          obtain ⟨J2, hJ2⟩ : ∃ K, K = ev_up J1 137 i (nI (cod (look ((aBk A).2.2 w) (fun j => i.testBit j) ((aBk A).2.1 w)))) := ⟨_, rfl⟩
          have f3 : frC I J2 := by rw [hJ2]; exact f2.up (by unfold scC; omega) (by omega) (by omega)
          have e3 := c_Book_spell (h := h) (L := L) (set := i) (d + 96) (hi.bk f3).1 (Or.inl rfl : 17 = 17 ∨ 17 = 21) (show b < 8 by omega) (hi.u hw f3 b hb)
          refine Or.inl ⟨ev_up J2 138 i (nI (cod (lk A b i))), ?_, ?_, fun k hk => ?_⟩
          · rw [e_SL_parts_31, if_pos (show nI i < (256 : Int32) from (q_lt (b := 256) (by omega) (by omega)).mpr hi'), e1, k_I, k_1, k_2, k_3, q_in (by omega), if_pos (by simp <;> omega), q_cl (by omega), ← hJ1, e2, k_I, k_1, k_2, k_3, if_pos (by simp <;> omega), ← hJ2, e3, k_I, k_1, k_2, k_3, if_pos (by simp <;> omega), show nI i + 1 = nI (i + 1) from q_add i 1]
            rfl
          · rw [hJ2, hJ1]; exact ((p1.up (by simp)).up (by simp)).up (by simp)
          · by_cases e : k = i
            · subst e
              refine ⟨?_, ?_, u_at _ _ _ _⟩
              · rw [u_c (by omega), hJ2, u_c (by omega), hJ1, u_at]
              · rw [u_c (by omega), hJ2, u_at]
            · have := p2 k (by omega)
              refine ⟨?_, ?_, ?_⟩
              · rw [u_c (by omega), hJ2, u_c (by omega), hJ1, u_j e]; exact this.1
              · rw [u_c (by omega), hJ2, u_j e, hJ1, u_c (by omega)]; exact this.2.1
              · rw [u_j e, hJ2, u_c (by omega), hJ1, u_c (by omega)]; exact this.2.2
        · intro J ⟨p1, p2⟩
          refine ⟨J, ?_, p1, p2⟩
          rw [e_SL_parts_31, if_neg (by decide)]
      obtain ⟨K, e1, x1, t1⟩ := lp
      have f1 : frC I K := frC.rf.x x1 (by simp [scC])
      have nt : ∀ v, v < n → ev_do (d + 99) M_SL_neverTaken [.ref 0, .int (nI v)] (ev_mk h K L) = ev_ri (fl (!cnv A w b v)) (ev_mk h K L) := by
        intro v hv
        rw [e_SL_neverTaken_0]
        refine lpE (F := fun i (_ : Unit) => ev_at (d + 98) M_SL_neverTaken 2 [.ref 0, .int (nI v), .int (nI i)] [] (ev_mk h K L)) (fun i _ => ∀ st, st < i → decide (looks ((aBk A).2.2 w) ((aBk A).2.1 w) v st = lk A b st) = false) (fun o => o = ev_ri (fl (!cnv A w b v)) (ev_mk h K L)) 256 ?_ ?_ 0 (by omega) () (fun st z => absurd z (by omega))
        · intro i _ hi' hs
          have hand : v &&& msk (fun j => i.testBit ((aBk A).2.2 w j)) ((aBk A).2.1 w) < 256 := by
            have : v &&& msk (fun j => i.testBit ((aBk A).2.2 w j)) ((aBk A).2.1 w) ≤ v := Nat.and_le_left
            omega
          rw [e_SL_neverTaken_2, if_pos (show nI i < (256 : Int32) from (q_lt (b := 256) (by omega) (by omega)).mpr hi'), q_in (a := i) (by omega), if_pos (c := decide (i < 256) = true) (by simp <;> omega), q_cl (a := i) (by omega), (t1 i hi').1, fa_and, q_in (by omega), if_pos (by simp <;> omega), if_pos (c := decide (i < 256) = true) (by simp <;> omega), q_cl (by omega), (t1 _ hand).2.1, hlook, (t1 i hi').2.2, show nI i + 1 = nI (i + 1) from q_add i 1]
          by_cases e : looks ((aBk A).2.2 w) ((aBk A).2.1 w) v i = lk A b i
          · refine Or.inr ?_
            have hc : cnv A w b v = true := List.any_eq_true.mpr ⟨i, List.mem_range.mpr hi', decide_eq_true e⟩
            rw [if_pos ((hcode v i).mpr e), hc]; rfl
          · refine Or.inl ⟨(), ?_, fun st hst => ?_⟩
            · rw [if_neg (fun z => e ((hcode v i).mp z))]
            · by_cases e2 : st = i
              · rw [e2]; exact decide_eq_false e
              · exact hs st (by omega)
        · intro _ hs
          have hc : cnv A w b v = false := by
            cases hc : cnv A w b v with
            | false => rfl
            | true =>
              obtain ⟨z, h1, h2⟩ := List.any_eq_true.mp hc
              have := hs z (List.mem_range.mp h1)
              rw [show decide (looks ((aBk A).2.2 w) ((aBk A).2.1 w) v z = lk A b z) = true from h2] at this; cases this
          rw [e_SL_neverTaken_2, if_neg (by decide), hc]; rfl
      have lp2 : ev_at (d + 99) M_SL_parts 106 [.ref 0, .int (nI w), .float 0, .int (nI (n - 1)), .int (enc (bF P 0)), .int (nI 0), .float 0] [] (ev_mk h K L) = ev_at (d + 99) M_SL_parts 106 [.ref 0, .int (nI w), .float 0, .int (nI (n - 1)), .int (enc (bF P n)), .int (nI n), .float 0] [] (ev_mk h K L) := by
        refine lpE (F := fun i (_ : Unit) => ev_at (d + 99) M_SL_parts 106 [.ref 0, .int (nI w), .float 0, .int (nI (n - 1)), .int (enc (bF P i)), .int (nI i), .float 0] [] (ev_mk h K L)) (fun _ _ => True) (fun o => o = ev_at (d + 99) M_SL_parts 106 [.ref 0, .int (nI w), .float 0, .int (nI (n - 1)), .int (enc (bF P n)), .int (nI n), .float 0] [] (ev_mk h K L)) n ?_ (fun _ _ => rfl) 0 (Nat.zero_le _) () trivial
        intro i _ hi' _
        refine Or.inl ⟨(), ?_, trivial⟩
        have ho := bF_o (P := P) (show i ≤ 256 by omega)
        have hxr : uO (aS A) w ^^^ i < n := by rw [hn]; exact xor_lt2 hu (by omega)
        have e145 : fw (bF P i) i = true → ev_at (d + 99) M_SL_parts 145 [.ref 0, .int (nI w), .float 0, .int (nI (n - 1)), .int (enc (bF P i)), .int (nI i), .int (nI (uO (aS A) w ^^^ i))] [] (ev_mk h K L) = ev_at (d + 99) M_SL_parts 106 [.ref 0, .int (nI w), .float 0, .int (nI (n - 1)), .int (enc (bF P (i + 1))), .int (nI (i + 1)), .float 0] [] (ev_mk h K L) := by
          intro hf
          rw [e_SL_parts_145, bF, hf, Bool.true_and, hP, show nI i + 1 = nI (i + 1) from q_add i 1]
          unfold ptP
          rw [← hn]
          by_cases e : uO (aS A) w ^^^ i = n - 1
          · rw [if_pos (by rw [e]), decide_eq_false (by simpa using e), Bool.false_and, if_neg (by decide)]
          · rw [if_neg (fun z => e ((q_eq (by omega) (by omega)).mp z)), nt _ hxr, k_I, k_1, k_2, k_3, decide_eq_true e, Bool.true_and]
            cases !cnv A w b (uO (aS A) w ^^^ i) with
            | true => rw [if_neg (show ¬ fl true = 0 by decide), if_pos rfl]; rfl
            | false => rw [if_pos (show fl false = 0 from rfl), if_neg (by decide)]
        rw [e_SL_parts_106, if_neg (fun z => absurd ((q_lt (by omega) (by omega)).mp z) (by omega)), q_in (by omega), if_pos (by simp <;> omega), q_cl (by omega), hi.u hw f1 w hw', nx_xor]
        cases hb0 : bF P i with
        | none =>
          rw [hb0] at e145
          rw [if_pos (show enc none = -1 from rfl), e145 rfl]
        | some q =>
          have hq := ho q hb0
          have h1 := pcn_le i
          have h2 := pcn_le q
          rw [hb0] at e145
          rw [if_neg (fun z => by cases (enc_m1 (by rw [hb0] at ho; exact ho)).mp z), c_bitCount (d + 98) (by omega), k_I, k_1, k_2, k_3, show enc (some q) = nI q from rfl, c_bitCount (d + 98) hq, k_I, k_1, k_2, k_3]
          by_cases e : pcn i < pcn q
          · rw [if_pos ((q_lt (by omega) (by omega)).mpr e)]
            exact e145 (decide_eq_true e)
          · rw [if_neg (fun z => e ((q_lt (by omega) (by omega)).mp z)), bF, hb0, show fw (some q) i = false from decide_eq_false e, Bool.false_and, if_neg (by decide), show nI i + 1 = nI (i + 1) from q_add i 1]
            rfl
      refine ⟨K, ?_, f1, by rw [x1 3 (by simp)]⟩
      rw [e_SL_parts_0, c_Book_hasBoth (d + 97) hi.2.2.1.1.1, k_I, k_1, k_2, k_3, hxy, if_neg (show ¬ fl true = 0 by decide), q_in (by omega), if_pos (by simp <;> omega), q_cl (by omega), (hi.2.2.1.1.2.2 w (by omega)).1, z_pw l8, ← hn, show nI n - 1 = nI (n - 1) from q_sub (b := 1) (by omega)]
      exact e1.trans lp2
    have lM : ∀ (I : Nat → Nat → Int32) (L : Nat → Nat → Int64), invM I L A → ∃ K, ev_do (d + 100) M_Mo_parts (.ref 139 :: [.int (nI w), .int (nI b)]) (ev_mk h I L) = ev_cI (ev_do (d + 99) M_Mo_tellsSet [.ref 139, .int (enc (bF P n))] (ev_mk h K L)) (fun v6 s5 => ev_ri v6 (ev_mk s5.1.2 s5.2.1 s5.2.2.1)) ∧ frM I K ∧ K 139 1 = I 139 1 := by
      intro I L hi
      obtain ⟨I1, e1, x1, s1⟩ := c_Mo_copies (h := h) (L := L) (d + 98) hi.th.2.2.2.1
      have f1 : frM I I1 := frM.t0.x x1 (by simp [scM])
      have hb1 : I1 144 b = nI (uO (aS A) b) := (s1.at (by omega)).trans (hw.2.2.2.1.u (by omega)).1
      rw [e_Mo_parts_0, c_Mo_arePair (d + 96) hi.th.2.2.1.1 hW, k_I, k_1, k_2, k_3, hxy, if_neg (show ¬ fl true = 0 by decide), e1, k_V, k_1, k_2, k_3]
      refine lpX (F := fun i J => ev_at (d + 99) M_Mo_parts 25 [.ref 139, .int (nI w), .int (nI b), .int (enc (bF P i)), .int (nI i), .float 0] [] (ev_mk h J L)) (fun i J => frM I J ∧ J 139 1 = I 139 1 ∧ J 144 b = nI (uO (aS A) b)) n ?_ ?_ 0 (Nat.zero_le _) I1 ⟨f1, by rw [x1 139 (by simp), u_j (by omega)], hb1⟩
      · intro i J hi' ⟨p1, p2, p3⟩
        have ho := bF_o (P := P) (show i ≤ 256 by omega)
        have hl := (hi.bk p1).2.2 w (by omega)
        have hxr : uO (aS A) w ^^^ i < n := by rw [hn]; exact xor_lt2 hu (by omega)
        obtain ⟨J1, hJ1⟩ : ∃ K, K = ev_up J 144 w (nI (uO (aS A) w ^^^ i)) := ⟨_, rfl⟩
        have f2 : frM I J1 := by rw [hJ1]; exact p1.up (by unfold scM; omega) (by omega)
        have j1w : J1 144 w = nI (uO (aS A) w ^^^ i) := by rw [hJ1, u_at]
        have j1b : J1 144 b = nI (uO (aS A) b) := by rw [hJ1, u_j (fun z => hwb z.symm)]; exact p3
        have j11 : J1 139 1 = I 139 1 := by rw [hJ1, u_c (by omega)]; exact p2
        have hl2 := (hi.bk f2).2.2 w (by omega)
        have hpc := pcn_le (uO (aS A) w ^^^ i)
        have e76 : ∃ K, ev_at (d + 99) M_Mo_parts 76 [.ref 139, .int (nI w), .int (nI b), .int (enc (bF P i)), .int (nI i), .float 0] [.int (fl (decide ((uO (aS A) w ^^^ i) ≠ n - 1)))] (ev_mk h J1 L) = ev_at (d + 99) M_Mo_parts 25 [.ref 139, .int (nI w), .int (nI b), .int (enc (bF P (i + 1))), .int (nI (i + 1)), .float 0] [] (ev_mk h K L) ∧ frM I K ∧ K 139 1 = I 139 1 ∧ K 144 b = nI (uO (aS A) b) := by
          rw [e_Mo_parts_76, show nI i + 1 = nI (i + 1) from q_add i 1]
          have ePi : P i = (decide ((uO (aS A) w ^^^ i) ≠ n - 1) && !cnv A w b (uO (aS A) w ^^^ i)) := by rw [hP, hn]; rfl
          cases hne : decide ((uO (aS A) w ^^^ i) ≠ n - 1) with
          | false =>
            rw [hne, Bool.false_and] at ePi
            exact ⟨J1, by rw [if_pos (show fl false = 0 from rfl), bF, ePi, Bool.and_false, if_neg (by decide)], f2, j11, j1b⟩
          | true =>
            rw [hne, Bool.true_and] at ePi
            rw [if_neg (show ¬ fl true = 0 by decide), c_isFewer (d + 97) (by omega) ho, k_I, k_1, k_2, k_3]
            cases hf : fw (bF P i) i with
            | false => exact ⟨J1, by rw [if_pos (show fl false = 0 from rfl), bF, hf, Bool.false_and, if_neg (by decide)], f2, j11, j1b⟩
            | true =>
              obtain ⟨K, g1, g2⟩ := c_canBeOne (h := h) (L := L) (d + 95) (hi.bk f2) (Or.inr rfl : 144 = 143 ∨ 144 = 144) (show w < 8 by omega) (show b < 8 by omega) j1w j1b
              rw [show cn ((aBk A).2.2 w) ((aBk A).2.1 w) (uO (aS A) w ^^^ i) ((aBk A).2.2 b) ((aBk A).2.1 b) (uO (aS A) b) = cnv A w b (uO (aS A) w ^^^ i) from rfl] at g1
              refine ⟨K, ?_, f2.x g2 (by simp [scM]), by rw [g2 139 (by simp)]; exact j11, by rw [g2 144 (by simp)]; exact j1b⟩
              rw [if_neg (show ¬ fl true = 0 by decide), g1, k_I, k_1, k_2, k_3, bF, hf, Bool.true_and, ePi]
              cases cnv A w b (uO (aS A) w ^^^ i) with
              | true => rw [if_neg (show ¬ fl true = 0 by decide), if_neg (by decide)]
              | false => rw [if_pos (show fl false = 0 from rfl), if_pos (by decide)]; rfl
        obtain ⟨K, g1, g2, g3, g4⟩ := e76
        refine Or.inl ⟨K, ?_, g2, g3, g4⟩
        rw [e_Mo_parts_25, show ev_in (nI w) 8 = true from z_in (by omega) (by omega), show ev_in (nI w) 27 = true from z_in (by omega) (by omega)]
        simp only [↓reduceIte]
        rw [q_cl (by omega), hl.1, z_pw l8, ← hn, if_pos ((q_lt (by omega) (by omega)).mpr hi'), hi.u hw p1 w hw', nx_xor, ← hJ1, j1w, c_bitCount (d + 98) (by omega), k_I, k_1, k_2, k_3, hl2.1, ← g1]
        have hpa := pc_all ((aBk A).2.1 w) (by omega) (uO (aS A) w ^^^ i) (by omega)
        rw [← hn] at hpa
        by_cases e : (uO (aS A) w ^^^ i) ≠ n - 1
        · rw [if_pos ((q_lt (by omega) (by omega)).mpr (hpa.mpr e)), decide_eq_true e]; rfl
        · rw [if_neg (fun z => e (hpa.mp ((q_lt (by omega) (by omega)).mp z))), decide_eq_false e]; rfl
      · intro J ⟨p1, p2, p3⟩
        have hl := (hi.bk p1).2.2 w (by omega)
        refine ⟨J, ?_, p1, p2⟩
        rw [e_Mo_parts_25, q_in (by omega), if_pos (by simp <;> omega), q_cl (by omega), hl.1, z_pw l8, ← hn, if_neg (fun z => absurd ((q_lt (by omega) (by omega)).mp z) (by omega))]
    have ho := bF_o (P := P) (show n ≤ 256 by omega)
    cases hb0 : bF P n with
    | none =>
      rw [hb0] at lC lM
      refine ⟨-2, aRw A, hw.2.1, qC_no (fun I L hi => ?_), qM_no (fun I L hi => ?_)⟩
      · obtain ⟨K, e, f, k⟩ := lC I L hi
        refine ⟨K, ?_, f, k⟩
        rw [e, e_SL_parts_106, if_pos ((q_lt (by omega) (by omega)).mpr (by omega)), if_pos (show enc none = -1 from rfl)]
      · obtain ⟨K, e, f, k⟩ := lM I L hi
        refine ⟨K, ?_, f, k⟩
        rw [e, e_Mo_tellsSet_0, if_pos (by decide), k_I, k_1, k_2, k_3]
    | some q =>
      rw [hb0] at lC lM
      have hq := ho q hb0
      refine ⟨nI (pcn q), snoc nil0 (nI q).toInt64, show 1 ≤ 9 by decide, fun I L hi => ?_, fun I L hi => ?_⟩
      · obtain ⟨K, e, f, k⟩ := lC I L hi
        obtain ⟨p, e1, x1, l1, r1⟩ := c_tellSet (h := h) (J := K) (L := L) (d + 97) hq
        refine ⟨p, ?_, f.x x1 (by simp [scC]), r1, l1 140 (by omega)⟩
        rw [e, e_SL_parts_106, if_pos ((q_lt (by omega) (by omega)).mpr (by omega)), if_neg (fun z => by cases (enc_m1 (by rw [hb0] at ho; exact ho)).mp z), show enc (some q) = nI q from rfl, e1, k_I, k_1, k_2, k_3]
      · obtain ⟨K, e, f, k⟩ := lM I L hi
        obtain ⟨p, e1, x1, n1, l1, r1⟩ := c_tellsSet (h := h) (J := K) (L := L) (d + 97) hq
        refine ⟨p, ?_, f.e x1 n1, r1, l1 4 (by omega)⟩
        rw [e, show enc (some q) = nI q from rfl, e1, k_I, k_1, k_2, k_3]
end OM
