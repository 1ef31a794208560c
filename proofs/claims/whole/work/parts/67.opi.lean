/-! Sets that are sought; joins. -/
theorem lpS {σ : Type} {F : Nat → σ → Option ev_R} {G : Nat → Nat → σ → Option ev_R} (V : σ → Prop) (Pr : Nat → Nat → Bool) (R : Option ev_R → Prop) (W : Nat) (h0 : ∀ a s, a < W → V s → ∃ s', F a s = G a (a + 1) s' ∧ V s') (h1 : ∀ a b s, a < b → b < W → V s → Pr a b = false → ∃ s', G a b s = G a (b + 1) s' ∧ V s') (h2 : ∀ a s, a < W → V s → ∃ s', G a W s = F (a + 1) s' ∧ V s') (hit : ∀ a b s, a < b → b < W → V s → Pr a b = true → (∀ a' b', a' < b' → b' < W → (a' < a ∨ (a' = a ∧ b' < b)) → Pr a' b' = false) → R (G a b s)) (fin : ∀ s, V s → (∀ a b, a < b → b < W → Pr a b = false) → R (F W s)) : ∀ s, V s → R (F 0 s) := by
  intro s hs
  refine lpP (F := F) (G := G) (fun a s => V s ∧ ∀ a' b', a' < b' → b' < W → a' < a → Pr a' b' = false) (fun a b s => V s ∧ ∀ a' b', a' < b' → b' < W → (a' < a ∨ (a' = a ∧ b' < b)) → Pr a' b' = false) R W ?_ ?_ ?_ ?_ s ⟨hs, fun _ _ _ _ z => absurd z (by omega)⟩
  · intro a s ha ⟨q1, q2⟩
    obtain ⟨s', e, v⟩ := h0 a s ha q1
    refine ⟨s', e, v, fun a' b' h3 h4 h5 => q2 a' b' h3 h4 ?_⟩
    omega
  · intro a b s hab hb ⟨q1, q2⟩
    cases hp : Pr a b with
    | true => exact Or.inr (hit a b s hab hb q1 hp q2)
    | false =>
      obtain ⟨s', e, v⟩ := h1 a b s hab hb q1 hp
      refine Or.inl ⟨s', e, v, fun a' b' h3 h4 h5 => ?_⟩
      by_cases e2 : a' = a ∧ b' = b
      · rw [e2.1, e2.2]; exact hp
      · exact q2 a' b' h3 h4 (by omega)
  · intro a s ha ⟨q1, q2⟩
    obtain ⟨s', e, v⟩ := h2 a s ha q1
    exact ⟨s', e, v, fun a' b' h3 h4 h5 => q2 a' b' h3 h4 (by omega)⟩
  · intro s ⟨q1, q2⟩
    exact fin s q1 (fun a b h3 h4 => q2 a b h3 h4 (by omega))
def fw (o : Option Nat) (k : Nat) : Bool := match o with
  | none => true
  | some b => decide (pcn k < pcn b)
/-- the first of the fewest below k -/
def bF (P : Nat → Bool) : Nat → Option Nat
  | 0 => none
  | k + 1 => if fw (bF P k) k && P k then some k else bF P k
def enc (o : Option Nat) : Int32 := match o with
  | none => -1
  | some b => nI b
theorem bF_lt {P : Nat → Bool} : ∀ {k b : Nat}, bF P k = some b → b < k
  | 0, b, h => by cases h
  | k + 1, b, h => by
    rw [bF] at h
    split at h
    · cases h; omega
    · have := bF_lt h; omega
theorem enc_m1 {o : Option Nat} (h : ∀ b, o = some b → b < 256) : enc o = -1 ↔ o = none := by
  cases o with
  | none => exact ⟨fun _ => rfl, fun _ => rfl⟩
  | some b =>
    have hb := h b rfl
    refine ⟨fun z => ?_, fun z => by cases z⟩
    exfalso
    have z1 : nI b = -1 := z
    exact absurd (show nI b < 0 by rw [z1]; decide) (q_nn (by omega))
theorem enc_neg {o : Option Nat} (h : ∀ b, o = some b → b < 256) : enc o < 0 ↔ o = none := by
  cases o with
  | none => exact ⟨fun _ => rfl, fun _ => by decide⟩
  | some b => exact ⟨fun z => absurd z (q_nn (by have := h b rfl; omega)), fun z => by cases z⟩
section OI
variable {h : Bool × Nat × Nat} {d : Nat} {I J : Nat → Nat → Int32} {L : Nat → Nat → Int64} {A : aP}
theorem c_tellSet (d : Nat) {b : Nat} (hb : b < 256) : ∃ p : sIL, ev_do (d + 2) M_SL_tellSet [.ref 0, .int (nI b)] (ev_mk h J L) = ev_ri (nI (pcn b)) (ev_mk h p.1 p.2) ∧ exc [3] J p.1 ∧ (∀ a, a ≠ 4 → p.2 a = L a) ∧ rwC p.1 p.2 (snoc nil0 (nI b).toInt64) := by
  obtain ⟨K, L1, e1, x1, l1, r1⟩ := t_tell (h := h) (x := (nI b).toInt64) d (rwC.nil (I := J) (L := L)) (show 0 < 9 by decide)
  refine ⟨(K, L1), ?_, (exc.rf.up (by simp)).tr x1, l1, r1⟩
  rw [e_SL_tellSet_0, e1, k_V, k_1, k_2, k_3, c_bitCount d hb, k_I, k_1, k_2, k_3]
theorem c_tellsSet (d : Nat) {b : Nat} (hb : b < 256) : ∃ p : sIL, ev_do (d + 2) M_Mo_tellsSet [.ref 139, .int (nI b)] (ev_mk h J L) = ev_ri (nI (pcn b)) (ev_mk h p.1 p.2) ∧ exc [139] J p.1 ∧ (∀ j, j ≠ 1 → p.1 139 j = J 139 j) ∧ (∀ a, a ≠ 140 → p.2 a = L a) ∧ rwM p.1 p.2 (snoc nil0 (nI b).toInt64) := by
  obtain ⟨K, L1, e1, x1, n1, l1, r1⟩ := t_enters (h := h) (x := (nI b).toInt64) d (rwM.nil (I := J) (L := L)) (show 0 < 24 by decide)
  refine ⟨(K, L1), ?_, (exc.rf.up (by simp)).tr x1, fun j hj => (n1 j hj).trans (u_j hj), l1, r1⟩
  rw [e_Mo_tellsSet_0, if_neg (q_nn (by omega)), e1, k_V, k_1, k_2, k_3, c_bitCount d hb, k_I, k_1, k_2, k_3]
theorem c_isFewer (d : Nat) {k : Nat} {o : Option Nat} (hk : k < 256) (ho : ∀ b, o = some b → b < 256) : ev_do (d + 2) M_Mo_isFewer [.int (nI k), .int (enc o)] (ev_mk h J L) = ev_ri (fl (fw o k)) (ev_mk h J L) := by
  rw [e_Mo_isFewer_0]
  cases o with
  | none => rw [if_pos ((enc_neg ho).mpr rfl)]; rfl
  | some b =>
    have hb := ho b rfl
    have h1 := pcn_le k
    have h2 := pcn_le b
    rw [if_neg (fun z => by cases (enc_neg ho).mp z), c_bitCount d hk, k_I, k_1, k_2, k_3, show enc (some b) = nI b from rfl, c_bitCount d hb, k_I, k_1, k_2, k_3]
    unfold fw
    by_cases e : pcn k < pcn b
    · rw [if_pos ((q_lt (by omega) (by omega)).mpr e)]; simp only [e, decide_true]; rfl
    · rw [if_neg (fun z => e ((q_lt (by omega) (by omega)).mp z))]; simp only [e, decide_false]; rfl
/-- the end of such a search, told or not -/
theorem bF_o {P : Nat → Bool} {k : Nat} (hk : k ≤ 256) : ∀ b, bF P k = some b → b < 256 := fun b hb => by have := bF_lt hb; omega
theorem op_joins {x y : Int32} (hi : inv I L) : okI h d M_SL_joins M_Mo_joins [.int x, .int y] I L := by
  refine ok_q (fun A hw => ?_) hi
  have hW := hw.2.2.1.1
  cases hxy : blw x (aBk A).1 && blw y (aBk A).1 && decide (x ≠ y) with
  | false =>
    refine no_q (v := -1) hw (fun I L hi => ?_) (fun I L hi => ?_)
    · rw [e_SL_joins_0, c_Book_hasBoth (d + 97) hi.2.2.1.1.1, k_I, k_1, k_2, k_3, hxy, if_pos (show fl false = 0 from rfl)]
    · rw [e_Mo_joins_0, c_Mo_arePair (d + 96) hi.th.2.2.1.1 hW, k_I, k_1, k_2, k_3, hxy, if_pos (show fl false = 0 from rfl)]
  | true =>
    have hxy' := hxy
    rw [Bool.and_eq_true, Bool.and_eq_true] at hxy'
    obtain ⟨a, ha, rfl⟩ := (blw_iff (by omega)).mp hxy'.1.1
    obtain ⟨b, hb, rfl⟩ := (blw_iff (by omega)).mp hxy'.1.2
    have lC : ∀ (I : Nat → Nat → Int32) (L : Nat → Nat → Int64), invC I L A → ev_do (d + 100) M_SL_joins (.ref 0 :: [.int (nI a), .int (nI b)]) (ev_mk h I L) = ev_at (d + 99) M_SL_joins 19 [.ref 0, .int (nI a), .int (nI b), .int (enc (bF (on A a b) 256)), .int (nI 256)] [] (ev_mk h I L) := by
      intro I L hi
      rw [e_SL_joins_0, c_Book_hasBoth (d + 97) hi.2.2.1.1.1, k_I, k_1, k_2, k_3, hxy, if_neg (show ¬ fl true = 0 by decide)]
      refine lpE (F := fun i (_ : Unit) => ev_at (d + 99) M_SL_joins 19 [.ref 0, .int (nI a), .int (nI b), .int (enc (bF (on A a b) i)), .int (nI i)] [] (ev_mk h I L)) (fun _ _ => True) (fun o => o = ev_at (d + 99) M_SL_joins 19 [.ref 0, .int (nI a), .int (nI b), .int (enc (bF (on A a b) 256)), .int (nI 256)] [] (ev_mk h I L)) 256 ?_ (fun _ _ => rfl) 0 (by omega) () trivial
      intro i _ hi' _
      refine Or.inl ⟨(), ?_, trivial⟩
      have ho := bF_o (P := on A a b) (show i ≤ 256 by omega)
      have e44 : fw (bF (on A a b) i) i = true → ev_at (d + 99) M_SL_joins 44 [.ref 0, .int (nI a), .int (nI b), .int (enc (bF (on A a b) i)), .int (nI i)] [] (ev_mk h I L) = ev_at (d + 99) M_SL_joins 19 [.ref 0, .int (nI a), .int (nI b), .int (enc (bF (on A a b) (i + 1))), .int (nI (i + 1))] [] (ev_mk h I L) := by
        intro hf
        have c1 := c_Book_areOne (h := h) (L := L) (s := i) (d + 95) hi.2.2.1.1 (show a < 8 by omega) (show b < 8 by omega) (hi.u hw frC.rf a ha) (hi.u hw frC.rf b hb)
        rw [show fl (decide (looks ((aBk A).2.2 a) ((aBk A).2.1 a) (uO (aS A) a) i = looks ((aBk A).2.2 b) ((aBk A).2.1 b) (uO (aS A) b) i)) = fl (on A a b i) from rfl] at c1
        rw [e_SL_joins_44, c1, k_I, k_1, k_2, k_3, bF, hf, Bool.true_and, show nI i + 1 = nI (i + 1) from q_add i 1]
        cases on A a b i with
        | true => rw [if_neg (show ¬ fl true = 0 by decide), if_pos rfl]; rfl
        | false => rw [if_pos (show fl false = 0 from rfl), if_neg (by decide)]
      rw [e_SL_joins_19, if_pos (show nI i < (256 : Int32) from (q_lt (b := 256) (by omega) (by omega)).mpr hi')]
      cases hb0 : bF (on A a b) i with
      | none =>
        rw [hb0] at e44
        rw [if_pos (show enc none = -1 from rfl), e44 rfl]
      | some q =>
        have hq := ho q hb0
        have h1 := pcn_le i
        have h2 := pcn_le q
        rw [hb0] at e44
        rw [if_neg (fun z => by cases (enc_m1 (by rw [hb0] at ho; exact ho)).mp z), c_bitCount (d + 98) hi', k_I, k_1, k_2, k_3, show enc (some q) = nI q from rfl, c_bitCount (d + 98) hq, k_I, k_1, k_2, k_3]
        by_cases e : pcn i < pcn q
        · rw [if_pos ((q_lt (by omega) (by omega)).mpr e)]
          exact e44 (decide_eq_true e)
        · rw [if_neg (fun z => e ((q_lt (by omega) (by omega)).mp z)), bF, hb0, show fw (some q) i = false from decide_eq_false e, Bool.false_and, if_neg (by decide), show nI i + 1 = nI (i + 1) from q_add i 1]
          rfl
    have lM : ∀ (I : Nat → Nat → Int32) (L : Nat → Nat → Int64), invM I L A → ∃ K, ev_do (d + 100) M_Mo_joins (.ref 139 :: [.int (nI a), .int (nI b)]) (ev_mk h I L) = ev_cI (ev_do (d + 99) M_Mo_tellsSet [.ref 139, .int (enc (bF (on A a b) 256))] (ev_mk h K L)) (fun v6 s5 => ev_ri v6 (ev_mk s5.1.2 s5.2.1 s5.2.2.1)) ∧ frM I K ∧ K 139 1 = I 139 1 := by
      intro I L hi
      rw [e_Mo_joins_0, c_Mo_arePair (d + 96) hi.th.2.2.1.1 hW, k_I, k_1, k_2, k_3, hxy, if_neg (show ¬ fl true = 0 by decide)]
      refine lpX (F := fun i J => ev_at (d + 99) M_Mo_joins 21 [.ref 139, .int (nI a), .int (nI b), .int (enc (bF (on A a b) i)), .int (nI i)] [] (ev_mk h J L)) (fun i J => frM I J ∧ J 139 1 = I 139 1) 256 ?_ ?_ 0 (by omega) _ ⟨frM.t0, u_j (by omega)⟩
      · intro i J hi' ⟨p1, p2⟩
        have ho := bF_o (P := on A a b) (show i ≤ 256 by omega)
        rw [e_Mo_joins_21, if_pos (show nI i < (256 : Int32) from (q_lt (b := 256) (by omega) (by omega)).mpr hi'), c_isFewer (d + 97) hi' ho, k_I, k_1, k_2, k_3, show nI i + 1 = nI (i + 1) from q_add i 1]
        cases hf : fw (bF (on A a b) i) i with
        | false =>
          refine Or.inl ⟨J, ?_, p1, p2⟩
          rw [if_pos (show fl false = 0 from rfl), bF, hf, Bool.false_and, if_neg (by decide)]
        | true =>
          obtain ⟨K, g1, g2, g3⟩ := xOne (h := h) (L' := L) (d + 96) hw hi p1 ha hb i
          refine Or.inl ⟨K, ?_, g2, by rw [g3 139 (by simp)]; exact p2⟩
          rw [if_neg (show ¬ fl true = 0 by decide), g1, k_I, k_1, k_2, k_3, bF, hf, Bool.true_and]
          cases on A a b i with
          | true => rw [if_neg (show ¬ fl true = 0 by decide), if_pos rfl]; rfl
          | false => rw [if_pos (show fl false = 0 from rfl), if_neg (by decide)]
      · intro J ⟨p1, p2⟩
        refine ⟨J, ?_, p1, p2⟩
        rw [e_Mo_joins_21, if_neg (by decide)]
    have ho := bF_o (P := on A a b) (Nat.le_refl 256)
    cases hb0 : bF (on A a b) 256 with
    | none =>
      rw [hb0] at lC lM
      refine ⟨-2, aRw A, hw.2.1, qC_no (fun I L hi => ⟨I, ?_, frC.rf, rfl⟩), qM_no (fun I L hi => ?_)⟩
      · rw [lC I L hi, e_SL_joins_19, if_neg (by decide), if_pos (show enc none = -1 from rfl)]
      · obtain ⟨K, e, f, k⟩ := lM I L hi
        refine ⟨K, ?_, f, k⟩
        rw [e, e_Mo_tellsSet_0, if_pos (by decide), k_I, k_1, k_2, k_3]
    | some q =>
      rw [hb0] at lC lM
      have hq := ho q hb0
      refine ⟨nI (pcn q), snoc nil0 (nI q).toInt64, show 1 ≤ 9 by decide, fun I L hi => ?_, fun I L hi => ?_⟩
      · obtain ⟨p, e, x, l, r⟩ := c_tellSet (h := h) (J := I) (L := L) (d + 97) hq
        refine ⟨p, ?_, frC.rf.x x (by simp [scC]), r, l 140 (by omega)⟩
        rw [lC I L hi, e_SL_joins_19, if_neg (by decide), if_neg (fun z => by cases (enc_m1 (by rw [hb0] at ho; exact ho)).mp z), show enc (some q) = nI q from rfl, e, k_I, k_1, k_2, k_3]
      · obtain ⟨K, e, f, k⟩ := lM I L hi
        obtain ⟨p, e1, x1, n1, l1, r1⟩ := c_tellsSet (h := h) (J := K) (L := L) (d + 97) hq
        refine ⟨p, ?_, f.e x1 n1, r1, l1 4 (by omega)⟩
        rw [e, show enc (some q) = nI q from rfl, e1, k_I, k_1, k_2, k_3]
end OI
