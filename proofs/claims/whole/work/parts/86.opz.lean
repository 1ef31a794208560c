/-! chain, the reference. -/
section OZ
variable {h : Bool × Nat × Nat} {d : Nat} {I J : Nat → Nat → Int32} {L : Nat → Nat → Int64} {A : aP}
def sD (x : Nat) : Nat := if x = 100 then 1000000 else x + 1
theorem c_count (d : Nat) (hw : wfA A) (hi : invM I L A) (f : frM I J) {k g : Nat} (hk : k < 9) (hg : g < (aBk A).1) {x1 : Int32} {L' : Nat → Nat → Int64} : ∃ K, ev_at (d + 3) M_Mo_chain 38 [.ref 139, .int x1, .int (nI g), .int (nI k), .int 0, .float 0, .float 0, .float 0] [] (ev_mk h J L') = ev_at (d + 3) M_Mo_chain 76 [.ref 139, .int x1, .float 0, .int (nI k), .int (nI (aBk A).1), .float 0, .float 0, .float 0] [] (ev_mk h K L') ∧ frM I K ∧ K 139 1 = J 139 1 ∧ ∀ i, i < (aBk A).1 → K 160 i = nI (sD (dl (aBk A).1 (nrA A k) g 8 i)) := by
  have hW := hw.2.2.1.1
  have hN : ∀ K, frM I K → K 139 3 = nI (aBk A).1 := fun K p => (hi.bk p).1
  obtain ⟨K1, e1, q1, q2, q3⟩ := lpF (F := fun x K => ev_at (d + 3) M_Mo_chain 38 [.ref 139, .int x1, .int (nI g), .int (nI k), .int (nI x), .float 0, .float 0, .float 0] [] (ev_mk h K L')) (fun x K => frM I K ∧ K 139 = J 139 ∧ ∀ i, i < x → K 160 i = nI (if i = g then 1 else 1000000)) (aBk A).1 (fun x K hx ⟨p1, p2, p3⟩ => by
    refine ⟨ev_up K 160 x (nI (if x = g then 1 else 1000000)), ?_, p1.up (by unfold scM; omega) (by omega), by rw [u_cf (by omega)]; exact p2, fun i hi' => ?_⟩
    · show ev_at (d + 3) M_Mo_chain 38 [.ref 139, .int x1, .int (nI g), .int (nI k), .int (nI x), .float 0, .float 0, .float 0] [] (ev_mk h K L') = _
      rw [e_Mo_chain_38, hN K p1, if_pos ((q_lt (by omega) (by omega)).mpr hx), q_in (by omega), q_cl (by omega), show nI x + 1 = nI (x + 1) from q_add x 1]
      by_cases e : x = g
      · rw [if_pos (by rw [e]), if_pos (by simp <;> omega), if_pos e]; rfl
      · rw [if_neg (fun z => e ((q_eq (by omega) (by omega)).mp z)), if_pos (by simp <;> omega), if_neg e]; rfl
    · by_cases e : i = x
      · rw [e, u_at]
      · rw [u_j e]; exact p3 i (by omega)) J ⟨f, rfl, fun i z => absurd z (by omega)⟩
  have e2 : ev_at (d + 3) M_Mo_chain 38 [.ref 139, .int x1, .int (nI g), .int (nI k), .int (nI (aBk A).1), .float 0, .float 0, .float 0] [] (ev_mk h K1 L') = ev_at (d + 3) M_Mo_chain 76 [.ref 139, .int x1, .float 0, .int (nI k), .int (nI 0), .float 0, .float 0, .float 0] [] (ev_mk h K1 L') := by
    rw [e_Mo_chain_38, hN K1 q1, if_neg (fun z => absurd ((q_lt (by omega) (by omega)).mp z) (by omega))]; rfl
  obtain ⟨K4, e4, r1, r2, S, r3, r4⟩ := lpF (F := fun r K => ev_at (d + 3) M_Mo_chain 76 [.ref 139, .int x1, .float 0, .int (nI k), .int (nI r), .float 0, .float 0, .float 0] [] (ev_mk h K L')) (fun r K => frM I K ∧ K 139 1 = J 139 1 ∧ ∃ S : Nat → Nat, (∀ i, i < (aBk A).1 → K 160 i = nI (S i)) ∧ sps (aBk A).1 (nrA A k) (dl (aBk A).1 (nrA A k) g 8) S r 0 0) (aBk A).1 (fun r K hr ⟨p1, p2, S, p3, p4⟩ => by
    obtain ⟨K5, e5, s1, s2, S5, s3, s4⟩ := lpF (F := fun x K => ev_at (d + 3) M_Mo_chain 88 [.ref 139, .int x1, .float 0, .int (nI k), .int (nI r), .int (nI x), .float 0, .float 0] [] (ev_mk h K L')) (fun x K => frM I K ∧ K 139 1 = J 139 1 ∧ ∃ S : Nat → Nat, (∀ i, i < (aBk A).1 → K 160 i = nI (S i)) ∧ sps (aBk A).1 (nrA A k) (dl (aBk A).1 (nrA A k) g 8) S r x 0) (aBk A).1 (fun x K hx ⟨p1, p2, S, p3, p4⟩ => by
      obtain ⟨K6, e6, t1, t2, S6, t3, t4⟩ := lpF (F := fun y K => ev_at (d + 3) M_Mo_chain 100 [.ref 139, .int x1, .float 0, .int (nI k), .int (nI r), .int (nI x), .int (nI y), .float 0] [] (ev_mk h K L')) (fun y K => frM I K ∧ K 139 1 = J 139 1 ∧ ∃ S : Nat → Nat, (∀ i, i < (aBk A).1 → K 160 i = nI (S i)) ∧ sps (aBk A).1 (nrA A k) (dl (aBk A).1 (nrA A k) g 8) S r x y) (aBk A).1 (fun y K hy ⟨p1, p2, S, p3, p4⟩ => by
        have n0 : ∀ K2 : Nat → Nat → Int32, frM I K2 → K2 139 1 = J 139 1 → K2 160 = K 160 → nrA A k x y = false → ∃ s', ev_at (d + 3) M_Mo_chain 140 [.ref 139, .int x1, .float 0, .int (nI k), .int (nI r), .int (nI x), .int (nI y), .float 0] [.int 0] (ev_mk h K2 L') = ev_at (d + 3) M_Mo_chain 100 [.ref 139, .int x1, .float 0, .int (nI k), .int (nI r), .int (nI x), .int (nI (y + 1)), .float 0] [] (ev_mk h s' L') ∧ frM I s' ∧ s' 139 1 = J 139 1 ∧ ∃ S : Nat → Nat, (∀ i, i < (aBk A).1 → s' 160 i = nI (S i)) ∧ sps (aBk A).1 (nrA A k) (dl (aBk A).1 (nrA A k) g 8) S r x (y + 1) := by
          intro K2 c1 c2 c3 c4
          refine ⟨ev_up K2 160 x (K2 160 x), ?_, c1.up (by unfold scM; omega) (by omega), by rw [u_c (by omega)]; exact c2, S, fun i hi' => ?_, p4.no _ _ c4⟩
          · rw [e_Mo_chain_140, if_pos rfl, q_in (by omega), if_pos (by simp <;> omega), if_pos (by simp <;> omega), q_cl (by omega), show nI y + 1 = nI (y + 1) from q_add y 1]
          · by_cases e : i = x
            · rw [e, u_at, c3]; exact p3 x hx
            · rw [u_j e, c3]; exact p3 i hi'
        show ∃ s', ev_at (d + 3) M_Mo_chain 100 [.ref 139, .int x1, .float 0, .int (nI k), .int (nI r), .int (nI x), .int (nI y), .float 0] [] (ev_mk h K L') = ev_at (d + 3) M_Mo_chain 100 [.ref 139, .int x1, .float 0, .int (nI k), .int (nI r), .int (nI x), .int (nI (y + 1)), .float 0] [] (ev_mk h s' L') ∧ _
        rw [e_Mo_chain_100, hN K p1, if_pos ((q_lt (by omega) (by omega)).mpr hy)]
        by_cases e : x = y
        · rw [if_pos (by rw [e])]
          exact n0 K p1 p2 rfl (by unfold nrA; rw [e]; simp)
        · obtain ⟨K2, e7, f7, x7⟩ := xAb (h := h) (L' := L') d hw hi p1 hx hy (uO (aS A) 24)
          have hle := edA_le hw hx hy (uO (aS A) 24)
          have hb : nrA A k x y = decide (edA A x y (uO (aS A) 24) ≤ k) := by unfold nrA; rw [decide_eq_true e, Bool.true_and]
          rw [if_neg (fun z => e ((q_eq (by omega) (by omega)).mp z)), hi.st3 hw p1, e7, k_I, k_1, k_2, k_3]
          by_cases e8 : k < edA A x y (uO (aS A) 24)
          · rw [if_pos ((q_lt (by omega) (by omega)).mpr e8)]
            exact n0 K2 f7 (by rw [x7 139 (by simp)]; exact p2) (x7 160 (by simp)) (by rw [hb]; exact decide_eq_false (by omega))
          · have hY := p4.yes _ _ g hW hx hy (by rw [hb]; exact decide_eq_true (by omega))
            have l1 := (p4.1 x hx).1
            have l2 := (p4.1 y hy).1
            refine ⟨ev_up K2 160 x (nI (min (S x) (S y + 1))), ?_, f7.up (by unfold scM; omega) (by omega), by rw [u_c (by omega), x7 139 (by simp)]; exact p2, _, fun i hi' => ?_, hY⟩
            · rw [if_neg (fun z => e8 ((q_lt (by omega) (by omega)).mp z)), e_Mo_chain_140, if_neg (by decide), q_in (by omega), q_in (by omega), if_pos (by simp <;> omega), if_pos (by simp <;> omega), if_pos (by simp <;> omega), q_cl (by omega), q_cl (by omega), x7 160 (by simp), p3 x hx, p3 y hy, show nI (S y) + 1 = nI (S y + 1) from q_add _ 1, z_min (by omega) (by omega), Nat.min_comm, show nI y + 1 = nI (y + 1) from q_add y 1]
            · show _ = nI (if i = x then _ else _)
              by_cases e9 : i = x
              · rw [if_pos e9, e9, u_at]
              · rw [if_neg e9, u_j e9, x7 160 (by simp)]; exact p3 i hi') K ⟨p1, p2, S, p3, p4⟩
      refine ⟨K6, ?_, t1, t2, S6, t3, t4.row _ _ g (by omega)⟩
      show ev_at (d + 3) M_Mo_chain 88 [.ref 139, .int x1, .float 0, .int (nI k), .int (nI r), .int (nI x), .float 0, .float 0] [] (ev_mk h K L') = _
      rw [e_Mo_chain_88, hN K p1, if_pos ((q_lt (by omega) (by omega)).mpr hx)]
      refine e6.trans ?_
      show ev_at (d + 3) M_Mo_chain 100 [.ref 139, .int x1, .float 0, .int (nI k), .int (nI r), .int (nI x), .int (nI (aBk A).1), .float 0] [] (ev_mk h K6 L') = _
      rw [e_Mo_chain_100, hN K6 t1, if_neg (fun z => absurd ((q_lt (by omega) (by omega)).mp z) (by omega)), show nI x + 1 = nI (x + 1) from q_add x 1]) K ⟨p1, p2, S, p3, p4⟩
    refine ⟨K5, ?_, s1, s2, S5, s3, s4.rd⟩
    show ev_at (d + 3) M_Mo_chain 76 [.ref 139, .int x1, .float 0, .int (nI k), .int (nI r), .float 0, .float 0, .float 0] [] (ev_mk h K L') = _
    rw [e_Mo_chain_76, hN K p1, if_pos ((q_lt (by omega) (by omega)).mpr hr)]
    refine e5.trans ?_
    show ev_at (d + 3) M_Mo_chain 88 [.ref 139, .int x1, .float 0, .int (nI k), .int (nI r), .int (nI (aBk A).1), .float 0, .float 0] [] (ev_mk h K5 L') = _
    rw [e_Mo_chain_88, hN K5 s1, if_neg (fun z => absurd ((q_lt (by omega) (by omega)).mp z) (by omega)), show nI r + 1 = nI (r + 1) from q_add r 1]) K1 ⟨q1, by rw [q2], _, q3, sps.st _ _ g⟩
  refine ⟨K4, e1.trans (e2.trans e4), r1, r2, fun i hi' => ?_⟩
  rw [r3 i hi', r4.fin _ _ g hW hi']; rfl
theorem c_walkM (d : Nat) (hw : wfA A) (hi : invM I L A) {k g a : Nat} (hk : k < 9) (ha : a < (aBk A).1) : ∀ (t w : Nat) (r : Nat × (Nat → Int64)) (J : Nat → Nat → Int32) (L' : Nat → Nat → Int64), frM I J → (∀ i, i < (aBk A).1 → J 160 i = nI (sD (dl (aBk A).1 (nrA A k) g 8 i))) → w < (aBk A).1 → dl (aBk A).1 (nrA A k) g 8 w = t → r.1 + t ≤ 9 → t < 9 → rwM J L' r → ∃ p : sIL, ev_at (d + 3) M_Mo_chain 241 [.ref 139, .int (nI a), .float 0, .int (nI k), .int (nI w), .int (nI t), .float 0, .float 0] [] (ev_mk h J L') = ev_ri (nI (sD (dl (aBk A).1 (nrA A k) g 8 a))) (ev_mk h p.1 p.2) ∧ frM I p.1 ∧ rwM p.1 p.2 (wlk (aBk A).1 (nrA A k) (dl (aBk A).1 (nrA A k) g 8) t w r) ∧ ∀ a, a ≠ 140 → p.2 a = L' a := by
  have hW := hw.2.2.1.1
  intro t
  induction t with
  | zero =>
    intro w r J L' f h8 hwn hd hr ht rw'
    refine ⟨(J, L'), ?_, f, rw', fun _ _ => rfl⟩
    rw [e_Mo_chain_241, if_neg (by decide), q_in (by omega), if_pos (by simp <;> omega), q_cl (by omega), h8 a ha]
  | succ t ih =>
    intro w r J L' f h8 hwn hd hr ht rw'
    obtain ⟨j0, hj, h1, h2, h3⟩ := fs_is hd ht
    have hz : (nI 0 : Int32) < nI (t + 1) := (q_lt (by omega) (by omega)).mpr (by omega)
    rw [wlk, hj, e_Mo_chain_241, if_pos (show (0 : Int32) < nI (t + 1) from hz), show (.int 0 : Value) = .int (nI 0) from rfl]
    refine lpX (F := fun j K => ev_at (d + 3) M_Mo_chain 249 [.ref 139, .int (nI a), .float 0, .int (nI k), .int (nI w), .int (nI (t + 1)), .int (nI j), .float 0] [] (ev_mk h K L')) (fun j K => frM I K ∧ (∀ i, i < (aBk A).1 → K 160 i = nI (sD (dl (aBk A).1 (nrA A k) g 8 i))) ∧ rwM K L' r ∧ fs (fun j => decide (dl (aBk A).1 (nrA A k) g 8 j = t) && nrA A k w j) j = none) (res := fun p : sIL => ev_ri (nI (sD (dl (aBk A).1 (nrA A k) g 8 a))) (ev_mk h p.1 p.2)) (aBk A).1 ?_ ?_ 0 (Nat.zero_le _) J ⟨f, h8, rw', rfl⟩
    · intro j K hj' ⟨p1, p2, p3, p4⟩
      have hD := dl_le (aBk A).1 (nrA A k) g 8 j
      show (∃ s', ev_at (d + 3) M_Mo_chain 249 [.ref 139, .int (nI a), .float 0, .int (nI k), .int (nI w), .int (nI (t + 1)), .int (nI j), .float 0] [] (ev_mk h K L') = ev_at (d + 3) M_Mo_chain 249 [.ref 139, .int (nI a), .float 0, .int (nI k), .int (nI w), .int (nI (t + 1)), .int (nI (j + 1)), .float 0] [] (ev_mk h s' L') ∧ _) ∨ ∃ p : sIL, ev_at (d + 3) M_Mo_chain 249 [.ref 139, .int (nI a), .float 0, .int (nI k), .int (nI w), .int (nI (t + 1)), .int (nI j), .float 0] [] (ev_mk h K L') = _ ∧ _
      rw [e_Mo_chain_249, show nI j + 1 = nI (j + 1) from q_add j 1]
      by_cases e : j = w
      · rw [if_pos (by rw [e])]
        exact Or.inl ⟨K, rfl, p1, p2, p3, fs_next p4 (by unfold nrA; rw [e]; simp)⟩
      · rw [if_neg (fun z => e ((q_eq (by omega) (by omega)).mp z)), q_in (by omega), if_pos (by simp <;> omega), q_cl (by omega), p2 j hj']
        have hs : nI (sD (dl (aBk A).1 (nrA A k) g 8 j)) = nI (t + 1) ↔ dl (aBk A).1 (nrA A k) g 8 j = t := by
          unfold sD
          by_cases z : dl (aBk A).1 (nrA A k) g 8 j = 100
          · rw [if_pos z, q_eq (by omega) (by omega)]; omega
          · rw [if_neg z, q_eq (by omega) (by omega)]; omega
        by_cases e2 : dl (aBk A).1 (nrA A k) g 8 j = t
        · rw [if_pos (hs.mpr e2)]
          obtain ⟨K2, e7, f7, x7⟩ := xAb (h := h) (L' := L') d hw hi p1 hwn hj' (uO (aS A) 24)
          have hle := edA_le hw hwn hj' (uO (aS A) 24)
          have hb : nrA A k w j = decide (edA A w j (uO (aS A) 24) ≤ k) := by unfold nrA; rw [decide_eq_true (p := w ≠ j) (fun z => e z.symm), Bool.true_and]
          rw [hi.st3 hw p1, e7, k_I, k_1, k_2, k_3]
          have p2' : ∀ i, i < (aBk A).1 → K2 160 i = nI (sD (dl (aBk A).1 (nrA A k) g 8 i)) := fun i hi' => by rw [x7 160 (by simp)]; exact p2 i hi'
          have p3' : rwM K2 L' r := p3.of (by rw [x7 139 (by simp)]) rfl
          by_cases e8 : k < edA A w j (uO (aS A) 24)
          · rw [if_pos ((q_lt (by omega) (by omega)).mpr e8)]
            exact Or.inl ⟨K2, rfl, f7, p2', p3', fs_next p4 (by rw [hb, decide_eq_false (p := edA A w j (uO (aS A) 24) ≤ k) (by omega), Bool.and_false])⟩
          · have hjj := fs_hit p4 (by rw [hb, decide_eq_true (p := edA A w j (uO (aS A) 24) ≤ k) (by omega), e2]; simp) (aBk A).1 hj'
            rw [hjj] at hj
            have hjn : j = j0 := Option.some.inj hj
            subst hjn
            obtain ⟨K3, L1, e1, x1, n1, l1, r1⟩ := t_enters (h := h) (I := K2) (L := L') (x := (nI j).toInt64) (d + 2) p3' (by omega)
            obtain ⟨p, e9, f9, r9, l9⟩ := ih j (snoc r (nI j).toInt64) K3 L1 (f7.e x1 n1) (fun i hi' => by rw [x1 160 (by simp)]; exact p2' i hi') h1 h2 (by show r.1 + 1 + t ≤ 9; omega) (by omega) r1
            refine Or.inr ⟨p, ?_, f9, r9, fun a ha => (l9 a ha).trans (l1 a ha)⟩
            rw [if_neg (fun z => e8 ((q_lt (by omega) (by omega)).mp z)), e1, k_V, k_1, k_2, k_3, show nI (t + 1) + -1 = nI t by rw [show (-1 : Int32) = - 1 from rfl, ← Int32.sub_eq_add_neg]; exact q_sub (a := t + 1) (b := 1) (by omega), e9]
        · rw [if_neg (fun z => e2 (hs.mp z))]
          exact Or.inl ⟨K, rfl, p1, p2, p3, fs_next p4 (by rw [decide_eq_false e2, Bool.false_and])⟩
    · intro K ⟨p1, p2, p3, p4⟩
      rw [p4] at hj; cases hj
theorem op_chain {x y z : Int32} (hi : inv I L) : okI h d M_SL_chain M_Mo_chain [.int x, .int y, .int z] I L := by
  refine ok_q (fun A hw => ?_) hi
  have hW := hw.2.2.1.1
  cases hxy : blw x (aBk A).1 && blw y (aBk A).1 && blw z 9 with
  | false =>
    refine no_q (v := -1) hw (fun I L hi => ?_) (fun I L hi => ?_)
    · rw [e_SL_chain_0, c_Book_has (d + 98) hi.2.2.1.1.1, k_I, k_1, k_2, k_3]
      cases hx : blw x (aBk A).1 with
      | false => rw [if_pos (show fl false = 0 from rfl)]
      | true =>
        rw [if_neg (show ¬ fl true = 0 by decide), c_Book_has (d + 98) hi.2.2.1.1.1, k_I, k_1, k_2, k_3]
        cases hy : blw y (aBk A).1 with
        | false => rw [if_pos (show fl false = 0 from rfl)]
        | true =>
          rw [hx, hy] at hxy
          rw [if_neg (show ¬ fl true = 0 by decide), show (8 : Int32) = nI 8 from rfl, r_two (by omega), show blw z (8 + 1) = false from hxy, if_neg (by decide)]
    · rw [e_Mo_chain_0, c_Mo_isWord (d + 97) hi.th.2.2.1.1 hW, k_I, k_1, k_2, k_3]
      cases hx : blw x (aBk A).1 with
      | false => rw [if_pos (show fl false = 0 from rfl)]
      | true =>
        rw [if_neg (show ¬ fl true = 0 by decide), c_Mo_isWord (d + 97) hi.th.2.2.1.1 hW, k_I, k_1, k_2, k_3]
        cases hy : blw y (aBk A).1 with
        | false => rw [if_pos (show fl false = 0 from rfl)]
        | true =>
          rw [hx, hy] at hxy
          rw [if_neg (show ¬ fl true = 0 by decide), c_in8 (d + 98), k_I, k_1, k_2, k_3, show blw z 9 = false from hxy, if_pos (show fl false = 0 from rfl)]
  | true =>
    rw [Bool.and_eq_true, Bool.and_eq_true] at hxy
    obtain ⟨⟨hx, hy⟩, hz⟩ := hxy
    obtain ⟨a, ha, rfl⟩ := (blw_iff (by omega)).mp hx
    obtain ⟨g, hg, rfl⟩ := (blw_iff (by omega)).mp hy
    obtain ⟨k, hk, rfl⟩ := (blw_iff (by omega)).mp hz
    have hD := dl_le (aBk A).1 (nrA A k) g 8 a
    have hC : ∀ {R : Option ev_R → Prop}, ∀ I L, invC I L A → (∀ K, frC I K → K 3 = I 3 → (∀ i j, i < (aBk A).1 → j < (aBk A).1 → K 127 (8 * i + j) = fl (nrA A k i j)) → (∀ i, i < (aBk A).1 → K 128 i = nD (dl (aBk A).1 (nrA A k) g 8 i)) → R (if nD (dl (aBk A).1 (nrA A k) g 8 a) = -1 then ev_ri (-2) (ev_mk h K L) else ev_cV (ev_do (d + 99) M_Row_tell [.ref 3, .long (nI a).toInt64] (ev_mk h (ev_up K 3 1 0) L)) (fun s6 => ev_at (d + 99) M_SL_chain 93 [.ref 0, .float 0, .float 0, .float 0, .float 0, .int (nI a), .int (nD (dl (aBk A).1 (nrA A k) g 8 a) - 1)] [] (ev_mk s6.1.2 s6.2.1 s6.2.2.1)))) → R (ev_do (d + 100) M_SL_chain [.ref 0, .int (nI a), .int (nI g), .int (nI k)] (ev_mk h I L)) := by
      intro R I L hi HR
      obtain ⟨K, e1, f1, x1, n1, n2⟩ := c_stepsTo (h := h) (L' := L) (d + 91) hw hi frC.rf hk hg
      have := HR K f1 x1 n1 n2
      rw [e_SL_chain_0, c_Book_has (d + 98) hi.2.2.1.1.1, k_I, k_1, k_2, k_3, hx, if_neg (show ¬ fl true = 0 by decide), c_Book_has (d + 98) hi.2.2.1.1.1, k_I, k_1, k_2, k_3, hy, if_neg (show ¬ fl true = 0 by decide), show (8 : Int32) = nI 8 from rfl, r_two (by omega), show blw (nI k) (8 + 1) = true from hz, if_pos rfl, e1, k_V, k_1, k_2, k_3, q_in (by omega), if_pos (by simp <;> omega), q_cl (by omega), n2 a ha]
      exact this
    have hM : ∀ {R : Option ev_R → Prop}, ∀ I L, invM I L A → (∀ K, frM I K → K 139 1 = I 139 1 → (∀ i, i < (aBk A).1 → K 160 i = nI (sD (dl (aBk A).1 (nrA A k) g 8 i))) → R (ev_at (d + 99) M_Mo_chain 76 [.ref 139, .int (nI a), .float 0, .int (nI k), .int (nI (aBk A).1), .float 0, .float 0, .float 0] [] (ev_mk h K L))) → R (ev_do (d + 100) M_Mo_chain [.ref 139, .int (nI a), .int (nI g), .int (nI k)] (ev_mk h I L)) := by
      intro R I L hi HR
      obtain ⟨K, e1, f1, x1, n1⟩ := c_count (h := h) (L' := L) (x1 := nI a) (d + 96) hw hi frM.t0 hk hg
      have := HR K f1 (x1.trans (u_j (by omega))) n1
      rw [e_Mo_chain_0, c_Mo_isWord (d + 97) hi.th.2.2.1.1 hW, k_I, k_1, k_2, k_3, hx, if_neg (show ¬ fl true = 0 by decide), c_Mo_isWord (d + 97) hi.th.2.2.1.1 hW, k_I, k_1, k_2, k_3, hy, if_neg (show ¬ fl true = 0 by decide), c_in8 (d + 98), k_I, k_1, k_2, k_3, hz, if_neg (show ¬ fl true = 0 by decide), e1]
      exact this
    by_cases hv : dl (aBk A).1 (nrA A k) g 8 a = 100
    · refine ⟨-2, aRw A, hw.2.1, qC_no (fun I L hi => ?_), qM_no (fun I L hi => ?_)⟩
      · refine hC (R := fun o => ∃ K, o = ev_ri (-2) (ev_mk h K L) ∧ frC I K ∧ K 3 1 = I 3 1) I L hi (fun K f1 x1 _ _ => ⟨K, ?_, f1, by rw [x1]⟩)
        rw [hv, if_pos (show nD 100 = -1 from rfl)]
      · refine hM (R := fun o => ∃ K, o = ev_ri (-2) (ev_mk h K L) ∧ frM I K ∧ K 139 1 = I 139 1) I L hi (fun K f1 x1 n1 => ⟨K, ?_, f1, x1⟩)
        rw [e_Mo_chain_76, (hi.bk f1).1, if_neg (fun z => absurd ((q_lt (by omega) (by omega)).mp z) (by omega)), q_in (by omega), if_pos (by simp <;> omega), q_cl (by omega), n1 a ha, hv, if_neg (by decide)]
    · obtain ⟨t, ht⟩ : ∃ t, dl (aBk A).1 (nrA A k) g 8 a = t := ⟨_, rfl⟩
      have hl := wlk_len (n := (aBk A).1) (nr := nrA A k) (g := g) (r := snoc nil0 (nI a).toInt64) ht (by omega)
      have hf := dl_few (aBk A).1 (nrA A k) g (t := 8) (by omega) ha ht (by omega)
      have h0 : (snoc nil0 (nI a).toInt64).1 = 1 := rfl
      have hsd : sD (dl (aBk A).1 (nrA A k) g 8 a) = t + 1 := by rw [sD, if_neg hv, ht]
      refine ⟨nI (1 + t), wlk (aBk A).1 (nrA A k) (dl (aBk A).1 (nrA A k) g 8) t a (snoc nil0 (nI a).toInt64), by rw [hl, h0]; omega, fun I L hi => ?_, fun I L hi => ?_⟩
      · refine hC (R := fun o => ∃ p : sIL, o = ev_ri (nI (1 + t)) (ev_mk h p.1 p.2) ∧ frC I p.1 ∧ rwC p.1 p.2 _ ∧ p.2 140 = L 140) I L hi (fun K f1 x1 n1 n2 => ?_)
        obtain ⟨K2, L2, e2, x2, l2, r2⟩ := t_tell (h := h) (I := ev_up K 3 1 0) (L := L) (x := (nI a).toInt64) (d + 98) rwC.nil (show 0 < 9 by decide)
        obtain ⟨p, e3, f3, r3, l3⟩ := c_walk (h := h) (d + 97) hw hi hg t a (snoc nil0 (nI a).toInt64) K2 L2 ((f1.t1 0).x x2 (by simp [scC])) (fun i j h1 h2 => by rw [x2 127 (by simp), u_c (by omega)]; exact n1 i j h1 h2) (fun i h1 => by rw [x2 128 (by simp), u_c (by omega)]; exact n2 i h1) ha ht (by omega) (by omega) r2
        refine ⟨p, ?_, f3, r3, (l3 140 (by omega)).trans (l2 140 (by omega))⟩
        rw [if_neg (fun z => hv ((nD_m1 (by omega)).mp z)), e2, k_V, k_1, k_2, k_3, ht, nD, if_neg (by omega), e3]; rfl
      · refine hM (R := fun o => ∃ p : sIL, o = ev_ri (nI (1 + t)) (ev_mk h p.1 p.2) ∧ frM I p.1 ∧ rwM p.1 p.2 _ ∧ p.2 4 = L 4) I L hi (fun K f1 x1 n1 => ?_)
        obtain ⟨K2, L2, e2, x2, n2, l2, r2⟩ := t_enters (h := h) (I := ev_up K 139 1 0) (L := L) (x := (nI a).toInt64) (d + 98) rwM.nil (show 0 < 24 by decide)
        obtain ⟨p, e3, f3, r3, l3⟩ := c_walkM (h := h) (k := k) (g := g) (d + 96) hw hi hk ha t a (snoc nil0 (nI a).toInt64) K2 L2 ((f1.t1 0).e x2 n2) (fun i h1 => by rw [x2 160 (by simp), u_c (by omega)]; exact n1 i h1) ha ht (by omega) (by omega) r2
        refine ⟨p, ?_, f3, r3, (l3 4 (by omega)).trans (l2 4 (by omega))⟩
        rw [e_Mo_chain_76, (hi.bk f1).1, if_neg (fun z => absurd ((q_lt (by omega) (by omega)).mp z) (by omega)), q_in (by omega), if_pos (by simp <;> omega), q_cl (by omega), n1 a ha, hsd, if_pos (show nI (t + 1) < 1000000 from (q_lt (b := 1000000) (by omega) (by omega)).mpr (by omega)), e2, k_V, k_1, k_2, k_3, if_pos (by simp <;> omega), x2 160 (by simp), u_c (by omega), n1 a ha, hsd, show nI (t + 1) - 1 = nI t from q_sub (a := t + 1) (b := 1) (by omega), e3, hsd, Nat.add_comm]
end OZ
