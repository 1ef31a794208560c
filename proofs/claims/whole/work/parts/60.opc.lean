/-! Calls: noticed, forget, days, ahead, sheet, count. -/
section OC
variable {h : Bool × Nat × Nat} {d : Nat} {I I' : Nat → Nat → Int32} {L L' : Nat → Nat → Int64} {A : aP}
theorem invC.nt (hi : invC I L A) {t : Nat × (Nat → Nat) × (Nat → Nat) × (Nat → Bool)} (hf : ∀ a, (a < 129 ∨ 132 < a) → I' a = I a) (ht : ntC I' t) : invC I' L (sNt A t) := by
  obtain ⟨h1, h2, h3, h4, h5, h6, h7, h8, h9⟩ := hi
  refine ⟨?_, h2.of (by rw [hf 3 (by omega)]) rfl, h3.fr (fun a ha => hf a (by omega)), h4.fr (fun a h6 h7 => hf a (by omega)), ?_, h6.fr (fun a ha => hf a (by omega)), h7.fr (fun a ha => hf a (by omega)), ht, fun w hw => by rw [hf 127 (by omega)]; exact h9 w hw⟩
  · show txC I' (aTx A)
    unfold txC; rw [hf 1 (by omega), hf 2 (by omega)]; exact h1
  · show rlC 101 I' _ _
    unfold rlC; rw [hf 101 (by omega), hf 102 (by omega)]; exact h5
theorem invM.nt (hi : invM I L A) {t : Nat × (Nat → Nat) × (Nat → Nat) × (Nat → Bool)} (fr : ∀ a, ¬ (scM a ∨ (162 ≤ a ∧ a ≤ 164)) → I' a = I a) (f9 : ∀ j, (j = 1 ∨ j = 3 ∨ j = 4 ∨ j = 10 ∨ j = 20 ∨ j = 26) → I' 139 j = I 139 j) (ht : ntM I' t) : invM I' L (sNt A t) := by
  obtain ⟨h1, h2, h3, h4, h5, h6, ⟨ch, h7, h8⟩, h9⟩ := hi
  refine ⟨?_, h2.of (f9 1 (by omega)) rfl, ?_, h4.fr (fr 143 (by unfold scM; omega)), ?_, ⟨(f9 26 (by omega)).trans h6.1, h6.2.1, fun i hi => (h6.2.2 i hi).fr (fr 155 (by unfold scM; omega))⟩, ⟨ch, h7, (f9 4 (by omega)).trans h8.1, fun i hi => ?_⟩, ht⟩
  · show txM I' (aTx A)
    unfold txM; rw [f9 10 (by omega), fr 145 (by unfold scM; omega)]; exact h1
  · show bkM I' _ _ _
    unfold bkM
    rw [f9 3 (by omega), fr 142 (by unfold scM; omega), fr 141 (by unfold scM; omega)]
    exact h3
  · show rlM2 I' _ _
    unfold rlM2 rlM
    rw [f9 20 (by omega), fr 149 (by unfold scM; omega)]
    exact h5
  · obtain ⟨q, kc, k1, k2, k3, k4, k5⟩ := h8.2 i hi
    exact ⟨q, kc, by rw [fr 171 (by unfold scM; omega)]; exact k1, by rw [fr 172 (by unfold scM; omega)]; exact k2, k3, k4, fun z => (k5 z).fr (fr 173 (by unfold scM; omega))⟩
theorem op_forget (hi : inv I L) : okI h d M_SL_forget M_Mo_forget [] I L := by
  refine ok_of (fun A hw => ⟨nI (aNt A).1, sNt A (0, (aNt A).2), ?_, fun I L hi => ?_, fun I L hi => ?_⟩) hi
  · obtain ⟨w1, w2, w3, w4, w5, w6, w7, w8⟩ := hw
    exact ⟨w1, w2, w3, w4, w5, w6, w7, Nat.zero_le _, fun i hi => absurd hi (Nat.not_lt_zero i)⟩
  · refine ⟨ev_up I 129 3 0, L, ?_, hi.nt (fun a ha => u_cf (by omega)) ⟨u_at _ _ _ _, fun j hj => absurd hj (Nat.not_lt_zero j)⟩, fun a ha => u_cf (by omega), rfl⟩
    rw [e_SL_forget_0, hi.2.2.2.2.2.2.2.1.1]
  · refine ⟨ev_up (ev_up I 139 0 0) 139 35 0, L, ?_, hi.nt (fun a ha => by unfold scM at ha; rw [u_cf (by omega), u_cf (by omega)]) (fun j hj => by rw [u_j (by omega), u_j (by omega)]) ⟨u_at _ _ _ _, fun j hj => absurd hj (Nat.not_lt_zero j)⟩, fun a ha => by rw [u_cf (by omega), u_cf (by omega)], rfl⟩
    rw [e_Mo_forget_0, hi.2.2.2.2.2.2.2.1]
theorem op_noticed {x y z : Int32} (hi : inv I L) : okI h d M_SL_noticed M_Mo_noticed [.int x, .int y, .int z] I L := by
  refine ok_of (fun A hw => ?_) hi
  have hW := hw.2.2.1.1
  have hn12 := hw.2.2.2.2.2.2.2.1
  have rC : ∀ (I : Nat → Nat → Int32) (L : Nat → Nat → Int64), invC I L A → ev_do (d + 100) M_SL_noticed (.ref 0 :: [.int x, .int y, .int z]) (ev_mk h I L) = if (blw x (aBk A).1 && blw y (aBk A).1 && decide (x ≠ y)) && blw z 2 then ev_cI (ev_do (d + 99) M_Notices_hasRoom [.ref 129] (ev_mk h I L)) (fun v4 s3 => if v4 = 0 then ev_ri (-1) (ev_mk s3.1.2 s3.2.1 s3.2.2.1) else ev_cV (ev_do (d + 99) M_Notices_take [.ref 129, .int x, .int y, .int z] (ev_mk s3.1.2 s3.2.1 s3.2.2.1)) (fun s5 => ev_ri (s5.2.1 129 3) (ev_mk s5.1.2 s5.2.1 s5.2.2.1))) else ev_ri (-1) (ev_mk h I L) := by
    intro I L hi
    rw [e_SL_noticed_0, c_Book_hasBoth (d + 97) hi.2.2.1.1.1, k_I, k_1, k_2, k_3, show (1 : Int32) = nI 1 from rfl, r_two (by omega)]
    cases blw x (aBk A).1 && blw y (aBk A).1 && decide (x ≠ y) with
    | false => rw [if_pos (show fl false = 0 from rfl)]; rfl
    | true => rw [if_neg (show ¬ fl true = 0 by decide), Bool.true_and]
  have rM : ∀ (I : Nat → Nat → Int32) (L : Nat → Nat → Int64), invM I L A → ev_do (d + 100) M_Mo_noticed (.ref 139 :: [.int x, .int y, .int z]) (ev_mk h I L) = if (blw x (aBk A).1 && blw y (aBk A).1 && decide (x ≠ y)) && blw z 2 then (if nI (aNt A).1 = nI 12 then ev_ri (-1) (ev_mk h (ev_up I 139 0 0) L) else if (aNt A).1 < 12 then ev_ri (nI ((aNt A).1 + 1)) (ev_mk h (ev_up (ev_up (ev_up (ev_up (ev_up I 139 0 0) 162 (aNt A).1 x) 163 (aNt A).1 y) 164 (aNt A).1 z) 139 35 (nI ((aNt A).1 + 1))) L) else none) else ev_ri (-1) (ev_mk h (ev_up I 139 0 0) L) := by
    intro I L hi
    rw [e_Mo_noticed_0, c_Mo_arePair (d + 96) hi.th.2.2.1.1 hW, k_I, k_1, k_2, k_3]
    cases blw x (aBk A).1 && blw y (aBk A).1 && decide (x ≠ y) with
    | false => rw [if_pos (show fl false = 0 from rfl)]; rfl
    | true =>
      rw [if_neg (show ¬ fl true = 0 by decide), c_in1, k_I, k_1, k_2, k_3, Bool.true_and]
      cases blw z 2 with
      | false => rw [if_pos (show fl false = 0 from rfl)]; rfl
      | true =>
        have e35 : ev_up I 139 0 0 139 35 = nI (aNt A).1 := (u_j (by omega)).trans hi.2.2.2.2.2.2.2.1
        rw [if_neg (show ¬ fl true = 0 by decide), if_pos rfl, e35, q_in (by omega), q_cl (by omega), show nI (aNt A).1 + 1 = nI ((aNt A).1 + 1) from q_add _ 1]
        by_cases e : (aNt A).1 < 12
        · simp [e]; rfl
        · simp [e]; rfl
  cases hc : (blw x (aBk A).1 && blw y (aBk A).1 && decide (x ≠ y)) && blw z 2 with
  | false =>
    rw [hc] at rC rM
    refine ⟨-1, A, hw, fun I L hi => ⟨I, L, (rC I L hi).trans (if_neg (by decide)), hi, fun _ _ => rfl, rfl⟩, fun I L hi => ⟨_, L, (rM I L hi).trans (if_neg (by decide)), hi.th, th_lo, rfl⟩⟩
  | true =>
    rw [hc] at rC rM
    rw [Bool.and_eq_true, Bool.and_eq_true, Bool.and_eq_true] at hc
    obtain ⟨⟨⟨c1, c2⟩, c3⟩, c4⟩ := hc
    obtain ⟨a, ha, rfl⟩ := (blw_iff (by omega)).mp c1
    obtain ⟨b, hb, rfl⟩ := (blw_iff (by omega)).mp c2
    obtain ⟨q, hq, rfl⟩ := (blw_iff (by omega)).mp c4
    have hab : a ≠ b := fun e => (of_decide_eq_true c3) (by rw [e])
    by_cases hr : (aNt A).1 < 12
    · refine ⟨nI ((aNt A).1 + 1), sNt A ((aNt A).1 + 1, fun j => if j = (aNt A).1 then a else (aNt A).2.1 j, fun j => if j = (aNt A).1 then b else (aNt A).2.2.1 j, fun j => if j = (aNt A).1 then decide (q = 1) else (aNt A).2.2.2 j), ?_, fun I L hi => ?_, fun I L hi => ?_⟩
      · obtain ⟨w1, w2, w3, w4, w5, w6, w7, w8⟩ := hw
        refine ⟨w1, w2, w3, w4, w5, w6, w7, show (aNt A).1 + 1 ≤ 12 by omega, fun i hi => ?_⟩
        have hi' : i < (aNt A).1 + 1 := hi
        show (if i = (aNt A).1 then a else (aNt A).2.1 i) < (aBk A).1 ∧ (if i = (aNt A).1 then b else (aNt A).2.2.1 i) < (aBk A).1 ∧ (if i = (aNt A).1 then a else (aNt A).2.1 i) ≠ (if i = (aNt A).1 then b else (aNt A).2.2.1 i)
        by_cases e : i = (aNt A).1
        · rw [if_pos e, if_pos e]; exact ⟨ha, hb, hab⟩
        · rw [if_neg e, if_neg e]; exact w8.2 i (by omega)
      · have hN := hi.2.2.2.2.2.2.2.1
        have e1 : ev_do (d + 99) M_Notices_hasRoom [.ref 129] (ev_mk h I L) = ev_ri 1 (ev_mk h I L) := by
          rw [e_Notices_hasRoom_0, hN.1, if_pos (show nI (aNt A).1 < (12 : Int32) from (q_lt (b := 12) (by omega) (by omega)).mpr hr)]
        have e2 : ev_do (d + 99) M_Notices_take [.ref 129, .int (nI a), .int (nI b), .int (nI q)] (ev_mk h I L) = ev_rn (ev_mk h (ev_up (ev_up (ev_up (ev_up I 130 (aNt A).1 (nI a)) 131 (aNt A).1 (nI b)) 132 (aNt A).1 (fl (decide (q = 1)))) 129 3 (nI ((aNt A).1 + 1))) L) := by
          rw [e_Notices_take_0, hN.1, if_pos (show nI (aNt A).1 < (12 : Int32) from (q_lt (b := 12) (by omega) (by omega)).mpr hr), q_in (by omega), if_pos (by simpa using hr), if_pos (by simpa using hr), q_cl (by omega)]
          have g3 : ∀ (J : Nat → Nat → Int32) (k : Nat) (x : Int32), ev_up J 130 (aNt A).1 x 129 3 = J 129 3 ∧ ev_up J 131 (aNt A).1 x 129 3 = J 129 3 := fun J k x => ⟨u_c (by omega), u_c (by omega)⟩
          by_cases e : q = 1
          · subst e
            rw [if_pos (show nI 1 = 1 from rfl), e_Notices_take_47, q_in (by omega), if_pos (by simpa using hr), q_cl (by omega), u_c (by omega), u_c (by omega), hN.1, show nI (aNt A).1 + 1 = nI ((aNt A).1 + 1) from q_add _ 1]
            rfl
          · have e0 : q = 0 := by omega
            subst e0
            rw [if_neg (by decide), e_Notices_take_47, q_in (by omega), if_pos (by simpa using hr), q_cl (by omega), u_c (by omega), u_c (by omega), hN.1, show nI (aNt A).1 + 1 = nI ((aNt A).1 + 1) from q_add _ 1]
            rfl
        refine ⟨_, L, ?_, hi.nt (I' := ev_up (ev_up (ev_up (ev_up I 130 (aNt A).1 (nI a)) 131 (aNt A).1 (nI b)) 132 (aNt A).1 (fl (decide (q = 1)))) 129 3 (nI ((aNt A).1 + 1))) (fun k hk => by rw [u_cf (by omega), u_cf (by omega), u_cf (by omega), u_cf (by omega)]) ⟨u_at _ _ _ _, fun j hj => ?_⟩, fun k hk => by rw [u_cf (by omega), u_cf (by omega), u_cf (by omega), u_cf (by omega)], rfl⟩
        · rw [rC I L hi, if_pos rfl, e1, k_I, k_1, k_2, k_3, if_neg (by decide), e2, k_V, k_1, k_2, k_3, u_at]
        · have hj' : j < (aNt A).1 + 1 := hj
          show _ = nI (if j = (aNt A).1 then a else (aNt A).2.1 j) ∧ _ = nI (if j = (aNt A).1 then b else (aNt A).2.2.1 j) ∧ _ = fl (if j = (aNt A).1 then decide (q = 1) else (aNt A).2.2.2 j)
          by_cases e : j = (aNt A).1
          · rw [if_pos e, if_pos e, if_pos e, e]
            exact ⟨by rw [u_c (by omega), u_c (by omega), u_c (by omega), u_at], by rw [u_c (by omega), u_c (by omega), u_at], by rw [u_c (by omega), u_at]⟩
          · rw [if_neg e, if_neg e, if_neg e]
            have := hN.2 j (by omega)
            exact ⟨by rw [u_c (by omega), u_c (by omega), u_c (by omega), u_j e]; exact this.1, by rw [u_c (by omega), u_c (by omega), u_j e, u_c (by omega)]; exact this.2.1, by rw [u_c (by omega), u_j e, u_c (by omega), u_c (by omega)]; exact this.2.2⟩
      · have hN := hi.2.2.2.2.2.2.2
        refine ⟨_, L, (rM I L hi).trans ((if_pos rfl).trans ((if_neg (fun z => absurd ((q_eq (by omega) (by omega)).mp z) (by omega))).trans (if_pos hr))), hi.nt (fun k hk => by unfold scM at hk; rw [u_cf (by omega), u_cf (by omega), u_cf (by omega), u_cf (by omega), u_cf (by omega)]) (fun j hj => by rw [u_j (by omega), u_c (by omega), u_c (by omega), u_c (by omega), u_j (by omega)]) ⟨u_at _ _ _ _, fun j hj => ?_⟩, fun k hk => by rw [u_cf (by omega), u_cf (by omega), u_cf (by omega), u_cf (by omega), u_cf (by omega)], rfl⟩
        have hj' : j < (aNt A).1 + 1 := hj
        show _ = nI (if j = (aNt A).1 then a else (aNt A).2.1 j) ∧ _ = nI (if j = (aNt A).1 then b else (aNt A).2.2.1 j) ∧ _ = fl (if j = (aNt A).1 then decide (q = 1) else (aNt A).2.2.2 j)
        by_cases e : j = (aNt A).1
        · rw [if_pos e, if_pos e, if_pos e, e]
          refine ⟨by rw [u_c (by omega), u_c (by omega), u_c (by omega), u_at], by rw [u_c (by omega), u_c (by omega), u_at], ?_⟩
          rw [u_c (by omega), u_at]
          have : q = 0 ∨ q = 1 := by omega
          rcases this with rfl | rfl <;> rfl
        · rw [if_neg e, if_neg e, if_neg e]
          have := hN.2 j (by omega)
          exact ⟨by rw [u_c (by omega), u_c (by omega), u_c (by omega), u_j e, u_c (by omega)]; exact this.1, by rw [u_c (by omega), u_c (by omega), u_j e, u_c (by omega), u_c (by omega)]; exact this.2.1, by rw [u_c (by omega), u_j e, u_c (by omega), u_c (by omega), u_c (by omega)]; exact this.2.2⟩
    · have e12 : (aNt A).1 = 12 := by omega
      refine ⟨-1, A, hw, fun I L hi => ?_, fun I L hi => ⟨_, L, (rM I L hi).trans ((if_pos rfl).trans (if_pos (by rw [e12]))), hi.th, th_lo, rfl⟩⟩
      refine ⟨I, L, ?_, hi, fun _ _ => rfl, rfl⟩
      rw [rC I L hi, if_pos rfl, e_Notices_hasRoom_0, hi.2.2.2.2.2.2.2.1.1, if_neg (show ¬ nI (aNt A).1 < (12 : Int32) from fun z => hr ((q_lt (b := 12) (by omega) (by omega)).mp z)), k_I, k_1, k_2, k_3, if_pos rfl]
end OC
