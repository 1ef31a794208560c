section EVX
variable {p : Program} {l : Launch} {e : Env} {R : Room} {s : State} {m : MethodId} {args : Array Value} {below : List Frame} {meth : Method} {c : Code} {g : ev_G} {sd : Bool} {d : Nat} {M : ev_Me} {σ0 : ev_S} {r : ev_R}
theorem ev_go_ok {pc : Nat} {off : Int} (h : 0 ≤ (pc : Int) + off) : (pc : Int) + off = ((ev_go pc off : Nat) : Int) := by
  unfold ev_go
  omega
/-- an end: the method returns v -/
theorem ev_ret_P {pc : Nat} {ls st : List Value} {σ : ev_S} {v : Option Value}
    (hw : ∀ (H : Heap) (lc : Array Slot) (locs : List Loc) (cells slots : Nat), ev_Rep g σ H → (∀ q ∈ locs, ev_A g q.base) → W p l e (ev_rm d σ0 σ) s m args below meth c H locs cells slots (MQ below (ev_Qc g (some v, σ)) args s cells slots (ev_A g)) (F0 m pc lc (st.map (ev_uv g)))) : ev_P p l e s m args below meth c g sd d M σ0 (some v, σ) pc ls st σ := by
  intro h0
  exact ⟨ev_le.rf, fun H lc locs hR hl hS => vx_ret (hw H lc locs _ _ hR hS.2.2)⟩
theorem ev_tsw_spec {dflt lo hi : Int} {offs : Array Int} {pc : Nat} {x : Int32} {K : Nat → Option ev_R} : ∀ {n : Nat}, ev_tsw dflt lo hi offs pc x K n = some r → (K (ev_go pc dflt) = some r ∧ ∀ j : Nat, j < n → x ≠ Int32.ofInt (hi - j)) ∨ ∃ j : Nat, j < n ∧ x = Int32.ofInt (hi - j) ∧ K (ev_go pc (offs.getD ((hi - j) - lo).toNat 0)) = some r
  | 0, h => Or.inl ⟨h, fun j hj => absurd hj (Nat.not_lt_zero j)⟩
  | n + 1, h => by
    unfold ev_tsw at h
    by_cases hx : x = Int32.ofInt (hi - n)
    · rw [if_pos hx] at h
      exact Or.inr ⟨n, Nat.lt_succ_self n, hx, h⟩
    · rw [if_neg hx] at h
      rcases ev_tsw_spec h with ⟨h1, h2⟩ | ⟨j, h1, h2⟩
      · refine Or.inl ⟨h1, fun j hj => ?_⟩
        rcases Nat.lt_succ_iff_lt_or_eq.mp hj with q | q
        · exact h2 j q
        · rw [q]; exact hx
      · exact Or.inr ⟨j, by omega, h2⟩
theorem ev_lsw_spec {dflt : Int} {pc : Nat} {x : Int32} {K : Nat → Option ev_R} : ∀ {ps : List (Int × Int)}, (∀ a ∈ ps, -1000 < a.1 ∧ a.1 < 1000) → ev_lsw dflt pc x K ps = some r → K (ev_go pc (Op.lookupswitch.offset ps dflt x.toInt)) = some r ∧ (Op.lookupswitch.offset ps dflt x.toInt = dflt ∨ ∃ q ∈ ps, Op.lookupswitch.offset ps dflt x.toInt = q.2)
  | [], _, h => ⟨h, Or.inl rfl⟩
  | (a, o) :: t, hb, h => by
    unfold ev_lsw at h
    have ha := hb (a, o) List.mem_cons_self
    have he : (Int32.ofInt a).toInt = a := fb_ofI (by have := ha.1; simp at this; omega) (by have := ha.2; simp at this; omega)
    by_cases hx : x = Int32.ofInt a
    · rw [if_pos hx] at h
      have e1 : Op.lookupswitch.offset ((a, o) :: t) dflt x.toInt = o := by
        rw [Op.lookupswitch.offset_cons, if_pos]
        rw [hx, he]
      rw [e1]
      exact ⟨h, Or.inr ⟨(a, o), List.mem_cons_self, rfl⟩⟩
    · rw [if_neg hx] at h
      obtain ⟨h1, h2⟩ := ev_lsw_spec (fun b hb' => hb b (List.mem_cons_of_mem _ hb')) h
      rw [lv_osw hx he]
      exact ⟨h1, h2.elim Or.inl (fun ⟨q, hq, e⟩ => Or.inr ⟨q, List.mem_cons_of_mem _ hq, e⟩)⟩
set_option maxHeartbeats 4000000 in
theorem ev_pl_ok (hA : ev_At p g M s m args meth c) {i : Instr} {pc : Nat} {ls st : List Value} {σ : ev_S} (hdg : decode M.2.1 pc = .ok (i, ev_len pc i)) (hj : ev_jok pc i = true) {K : ev_K} (hK : ∀ pc' ls' st' σ', K pc' ls' st' σ' = some r → ev_P p l e s m args below meth c g sd d M σ0 r pc' ls' st' σ')
    (h : ev_pl M K i pc ls st σ = some r) : ev_P p l e s m args below meth c g sd d M σ0 r pc ls st σ := by
  obtain ⟨hx, hb, hml, hr, hlocks, -, -, -, -, hCx, -⟩ := hA
  have hf := hCx.2.2.2.2.2.2.2.2.2.2
  unfold ev_pl at h
  split at h
  · -- dup
    split at h
    rotate_left
    · cases h
    rename_i v rest
    cases hc : Nat.beq v.category 1 with
    | false => rw [hc] at h; cases h
    | true =>
      rw [hc] at h
      refine ev_P.step (fun H lc locs cells slots Q hR hl hS hW => ?_) (hK _ _ _ _ h)
      exact lv_dup hx hb hdg (by rw [ev_uv_cat hf]; exact Nat.eq_of_beq_eq_true hc) hW
  · split at h
    rotate_left
    · cases h
    rename_i v w rest
    cases hc : Nat.beq v.category 1 && Nat.beq w.category 1 with
    | false => rw [hc] at h; cases h
    | true =>
      rw [hc] at h
      simp only [Bool.and_eq_true] at hc
      refine ev_P.step (fun H lc locs cells slots Q hR hl hS hW => ?_) (hK _ _ _ _ h)
      exact lv_dup2_11 hx hb hdg (by rw [ev_uv_cat hf]; exact Nat.eq_of_beq_eq_true hc.1) (by rw [ev_uv_cat hf]; exact Nat.eq_of_beq_eq_true hc.2) hW
  · split at h
    rotate_left
    · cases h
    rename_i v rest
    cases hc : Nat.beq v.category 1 with
    | false => rw [hc] at h; cases h
    | true =>
      rw [hc] at h
      refine ev_P.step (fun H lc locs cells slots Q hR hl hS hW => ?_) (hK _ _ _ _ h)
      exact lv_pop hx hb hdg (by rw [ev_uv_cat hf]; exact Nat.eq_of_beq_eq_true hc) hW
  · -- iinc
    rename_i k n
    split at h
    rotate_left
    · cases h
    rename_i x hn
    obtain ⟨ls', h1, h2, h3, h4⟩ := ev_sk1_spec _ _ _ _ _ h
    refine ev_P.stl (fun H lc locs cells slots Q hR hl hS hW => ?_) (hK _ _ _ _ h1)
    obtain ⟨q, hq⟩ := List.getElem?_of_mem (ev_al_in (g := g) hn (fun z => by cases z))
    exact lv_iinc hx hb hdg hl.has hq rfl (by rw [← hl.2.1]; exact h2) rfl (fun lc' h' => hW lc' (hl.of1 hf h3 h4 h'))
  · split at h
    rotate_left
    · cases h
    rename_i y x rest
    by_cases h0 : y = 0
    · rw [if_pos h0] at h; cases h
    · rw [if_neg h0] at h
      refine ev_P.step (fun H lc locs cells slots Q hR hl hS hW => ?_) (hK _ _ _ _ h)
      exact lv_idiv hx hb hdg h0 hW
  · split at h
    rotate_left
    · cases h
    rename_i y x rest
    by_cases h0 : y = 0
    · rw [if_pos h0] at h; cases h
    · rw [if_neg h0] at h
      refine ev_P.step (fun H lc locs cells slots Q hR hl hS hW => ?_) (hK _ _ _ _ h)
      exact lv_irem hx hb hdg h0 hW
  · split at h
    rotate_left
    · cases h
    rename_i y x rest
    by_cases h0 : y = 0
    · rw [if_pos h0] at h; cases h
    · rw [if_neg h0] at h
      refine ev_P.step (fun H lc locs cells slots Q hR hl hS hW => ?_) (hK _ _ _ _ h)
      exact lv_ldiv hx hb hdg h0 hW
  · split at h
    rotate_left
    · cases h
    rename_i y x rest
    by_cases h0 : y = 0
    · rw [if_pos h0] at h; cases h
    · rw [if_neg h0] at h
      refine ev_P.step (fun H lc locs cells slots Q hR hl hS hW => ?_) (hK _ _ _ _ h)
      exact lv_lrem hx hb hdg h0 hW
  · split at h
    rotate_left
    · cases h
    refine ev_P.step (fun H lc locs cells slots Q hR hl hS hW => ?_) (hK _ _ _ _ h)
    exact lv_i2l hx hb hdg rfl hW
  · split at h
    rotate_left
    · cases h
    refine ev_P.step (fun H lc locs cells slots Q hR hl hS hW => ?_) (hK _ _ _ _ h)
    exact W.lcmp hx hb hdg hW
  · -- goto
    refine ev_P.step (fun H lc locs cells slots Q hR hl hS hW => ?_) (hK _ _ _ _ h)
    exact lv_goto hx hb hdg (ev_go_ok (of_decide_eq_true hj)) hW
  · -- eq
    split at h
    rotate_left
    · cases h
    rename_i x rest
    by_cases h0 : x = 0
    · rw [if_pos h0] at h
      refine ev_P.step (fun H lc locs cells slots Q hR hl hS hW => ?_) (hK _ _ _ _ h)
      exact lv_if_eq hx hb hdg (ev_go_ok (of_decide_eq_true hj)) (fun _ => hW) (fun z => absurd h0 z)
    · rw [if_neg h0] at h
      refine ev_P.step (fun H lc locs cells slots Q hR hl hS hW => ?_) (hK _ _ _ _ h)
      exact lv_if_eq hx hb hdg (ev_go_ok (of_decide_eq_true hj)) (fun z => absurd z h0) (fun _ => hW)
  · split at h
    rotate_left
    · cases h
    rename_i x rest
    by_cases h0 : x = 0
    · rw [if_pos h0] at h
      refine ev_P.step (fun H lc locs cells slots Q hR hl hS hW => ?_) (hK _ _ _ _ h)
      exact lv_if_ne hx hb hdg (ev_go_ok (of_decide_eq_true hj)) (fun z => absurd h0 z) (fun _ => hW)
    · rw [if_neg h0] at h
      refine ev_P.step (fun H lc locs cells slots Q hR hl hS hW => ?_) (hK _ _ _ _ h)
      exact lv_if_ne hx hb hdg (ev_go_ok (of_decide_eq_true hj)) (fun _ => hW) (fun z => absurd z (by first | exact h0 | exact fun z => z h0))
  · split at h
    rotate_left
    · cases h
    rename_i x rest
    by_cases h0 : x < 0
    · rw [if_pos h0] at h
      refine ev_P.step (fun H lc locs cells slots Q hR hl hS hW => ?_) (hK _ _ _ _ h)
      exact lv_if_lt hx hb hdg (ev_go_ok (of_decide_eq_true hj)) (fun _ => hW) (fun z => absurd h0 z)
    · rw [if_neg h0] at h
      refine ev_P.step (fun H lc locs cells slots Q hR hl hS hW => ?_) (hK _ _ _ _ h)
      exact lv_if_lt hx hb hdg (ev_go_ok (of_decide_eq_true hj)) (fun z => absurd z h0) (fun _ => hW)
  · split at h
    rotate_left
    · cases h
    rename_i x rest
    by_cases h0 : x < 0
    · rw [if_pos h0] at h
      refine ev_P.step (fun H lc locs cells slots Q hR hl hS hW => ?_) (hK _ _ _ _ h)
      exact lv_if_ge hx hb hdg (ev_go_ok (of_decide_eq_true hj)) (fun z => absurd h0 (Int32.not_lt.mpr z)) (fun _ => hW)
    · rw [if_neg h0] at h
      refine ev_P.step (fun H lc locs cells slots Q hR hl hS hW => ?_) (hK _ _ _ _ h)
      exact lv_if_ge hx hb hdg (ev_go_ok (of_decide_eq_true hj)) (fun _ => hW) (fun z => absurd (Int32.not_lt.mp h0) z)
  · split at h
    rotate_left
    · cases h
    rename_i x rest
    by_cases h0 : 0 < x
    · rw [if_pos h0] at h
      refine ev_P.step (fun H lc locs cells slots Q hR hl hS hW => ?_) (hK _ _ _ _ h)
      exact lv_if_gt hx hb hdg (ev_go_ok (of_decide_eq_true hj)) (fun _ => hW) (fun z => absurd h0 z)
    · rw [if_neg h0] at h
      refine ev_P.step (fun H lc locs cells slots Q hR hl hS hW => ?_) (hK _ _ _ _ h)
      exact lv_if_gt hx hb hdg (ev_go_ok (of_decide_eq_true hj)) (fun z => absurd z h0) (fun _ => hW)
  · split at h
    rotate_left
    · cases h
    rename_i x rest
    by_cases h0 : 0 < x
    · rw [if_pos h0] at h
      refine ev_P.step (fun H lc locs cells slots Q hR hl hS hW => ?_) (hK _ _ _ _ h)
      exact lv_if_le hx hb hdg (ev_go_ok (of_decide_eq_true hj)) (fun z => absurd h0 (Int32.not_lt.mpr z)) (fun _ => hW)
    · rw [if_neg h0] at h
      refine ev_P.step (fun H lc locs cells slots Q hR hl hS hW => ?_) (hK _ _ _ _ h)
      exact lv_if_le hx hb hdg (ev_go_ok (of_decide_eq_true hj)) (fun _ => hW) (fun z => absurd (Int32.not_lt.mp h0) z)
  · split at h
    rotate_left
    · cases h
    rename_i y x rest
    by_cases h0 : x = y
    · rw [if_pos h0] at h
      refine ev_P.step (fun H lc locs cells slots Q hR hl hS hW => ?_) (hK _ _ _ _ h)
      exact lv_icmp_eq hx hb hdg (ev_go_ok (of_decide_eq_true hj)) (fun _ => hW) (fun z => absurd h0 z)
    · rw [if_neg h0] at h
      refine ev_P.step (fun H lc locs cells slots Q hR hl hS hW => ?_) (hK _ _ _ _ h)
      exact lv_icmp_eq hx hb hdg (ev_go_ok (of_decide_eq_true hj)) (fun z => absurd z h0) (fun _ => hW)
  · split at h
    rotate_left
    · cases h
    rename_i y x rest
    by_cases h0 : x = y
    · rw [if_pos h0] at h
      refine ev_P.step (fun H lc locs cells slots Q hR hl hS hW => ?_) (hK _ _ _ _ h)
      exact lv_icmp_ne hx hb hdg (ev_go_ok (of_decide_eq_true hj)) (fun z => absurd h0 z) (fun _ => hW)
    · rw [if_neg h0] at h
      refine ev_P.step (fun H lc locs cells slots Q hR hl hS hW => ?_) (hK _ _ _ _ h)
      exact lv_icmp_ne hx hb hdg (ev_go_ok (of_decide_eq_true hj)) (fun _ => hW) (fun z => absurd z (by first | exact h0 | exact fun z => z h0))
  · split at h
    rotate_left
    · cases h
    rename_i y x rest
    by_cases h0 : x < y
    · rw [if_pos h0] at h
      refine ev_P.step (fun H lc locs cells slots Q hR hl hS hW => ?_) (hK _ _ _ _ h)
      exact lv_icmp_lt hx hb hdg (ev_go_ok (of_decide_eq_true hj)) (fun _ => hW) (fun z => absurd h0 z)
    · rw [if_neg h0] at h
      refine ev_P.step (fun H lc locs cells slots Q hR hl hS hW => ?_) (hK _ _ _ _ h)
      exact lv_icmp_lt hx hb hdg (ev_go_ok (of_decide_eq_true hj)) (fun z => absurd z h0) (fun _ => hW)
  · split at h
    rotate_left
    · cases h
    rename_i y x rest
    by_cases h0 : x < y
    · rw [if_pos h0] at h
      refine ev_P.step (fun H lc locs cells slots Q hR hl hS hW => ?_) (hK _ _ _ _ h)
      exact lv_icmp_ge hx hb hdg (ev_go_ok (of_decide_eq_true hj)) (fun z => absurd h0 (Int32.not_lt.mpr z)) (fun _ => hW)
    · rw [if_neg h0] at h
      refine ev_P.step (fun H lc locs cells slots Q hR hl hS hW => ?_) (hK _ _ _ _ h)
      exact lv_icmp_ge hx hb hdg (ev_go_ok (of_decide_eq_true hj)) (fun _ => hW) (fun z => absurd (Int32.not_lt.mp h0) z)
  · split at h
    rotate_left
    · cases h
    rename_i y x rest
    by_cases h0 : y < x
    · rw [if_pos h0] at h
      refine ev_P.step (fun H lc locs cells slots Q hR hl hS hW => ?_) (hK _ _ _ _ h)
      exact lv_icmp_gt hx hb hdg (ev_go_ok (of_decide_eq_true hj)) (fun _ => hW) (fun z => absurd h0 z)
    · rw [if_neg h0] at h
      refine ev_P.step (fun H lc locs cells slots Q hR hl hS hW => ?_) (hK _ _ _ _ h)
      exact lv_icmp_gt hx hb hdg (ev_go_ok (of_decide_eq_true hj)) (fun z => absurd z h0) (fun _ => hW)
  · split at h
    rotate_left
    · cases h
    rename_i y x rest
    by_cases h0 : y < x
    · rw [if_pos h0] at h
      refine ev_P.step (fun H lc locs cells slots Q hR hl hS hW => ?_) (hK _ _ _ _ h)
      exact lv_icmp_le hx hb hdg (ev_go_ok (of_decide_eq_true hj)) (fun z => absurd h0 (Int32.not_lt.mpr z)) (fun _ => hW)
    · rw [if_neg h0] at h
      refine ev_P.step (fun H lc locs cells slots Q hR hl hS hW => ?_) (hK _ _ _ _ h)
      exact lv_icmp_le hx hb hdg (ev_go_ok (of_decide_eq_true hj)) (fun _ => hW) (fun z => absurd (Int32.not_lt.mp h0) z)
  · -- tableswitch
    rename_i dflt lo hi offs
    split at h
    rotate_left
    · cases h
    rename_i x rest
    cases hc : decide (0 ≤ hi - lo) && decide (offs.size = (hi - lo).toNat + 1) && decide (-1000 < lo) && decide (hi < 1000) with
    | false => rw [hc] at h; cases h
    | true =>
      rw [hc] at h
      simp only [Bool.and_eq_true, decide_eq_true_eq] at hc
      obtain ⟨⟨⟨c1, c2⟩, c3⟩, c4⟩ := hc
      simp only [ev_jok, Bool.and_eq_true, decide_eq_true_eq, List.all_eq_true] at hj
      rcases ev_tsw_spec h with ⟨h1, h2⟩ | ⟨j, h1, h2, h3⟩
      · refine ev_P.step (fun H lc locs cells slots Q hR hl hS hW => ?_) (hK _ _ _ _ h1)
        refine lv_tableOut hx hb hdg ?_ (ev_go_ok hj.1) hW
        rcases (show x.toInt < lo ∨ lo ≤ x.toInt by omega) with q | q
        · exact Or.inl q
        · rcases (show hi < x.toInt ∨ x.toInt ≤ hi by omega) with q2 | q2
          · exact Or.inr q2
          · refine absurd ?_ (h2 (hi - x.toInt).toNat (by omega))
            rw [show hi - ((hi - x.toInt).toNat : Int) = x.toInt by omega]
            exact (Int32.ofInt_toInt x).symm
      · refine ev_P.step (fun H lc locs cells slots Q hR hl hS hW => ?_) (hK _ _ _ _ h3)
        have e1 : x.toInt = hi - j := by rw [h2]; exact fb_ofI (by omega) (by omega)
        have hlt : (hi - (j : Int) - lo).toNat < offs.size := by omega
        have e2 : offs.getD ((hi - (j : Int)) - lo).toNat 0 = offs[(hi - (j : Int) - lo).toNat] := by simp [Array.getD, hlt]
        refine lv_tableIn (off := offs[(hi - (j : Int) - lo).toNat]) hx hb hdg (by omega) (by omega) (by rw [e1]; simp [hlt]) ?_ hW
        rw [e2]
        exact ev_go_ok (hj.2 _ (by simp))
  · -- lookupswitch
    rename_i dflt ps
    split at h
    rotate_left
    · cases h
    rename_i x rest
    cases hc : (ps.toList.zip (ps.toList.drop 1)).all (fun (a, next) => a.1 < next.1) && ps.toList.all (fun a => decide (-1000 < a.1) && decide (a.1 < 1000)) with
    | false => rw [hc] at h; cases h
    | true =>
      rw [hc] at h
      rw [Bool.and_eq_true] at hc
      simp only [ev_jok, Bool.and_eq_true, decide_eq_true_eq, List.all_eq_true] at hj
      obtain ⟨h1, h2⟩ := ev_lsw_spec (fun a ha => by have := List.all_eq_true.mp hc.2 a ha; simpa using this) h
      refine ev_P.step (fun H lc locs cells slots Q hR hl hS hW => ?_) (hK _ _ _ _ h1)
      refine lv_lookup hx hb hdg hc.1 rfl (ev_go_ok ?_) hW
      rcases h2 with h2 | ⟨q, hq, h2⟩
      · rw [h2]; exact hj.1
      · rw [h2]; exact hj.2 q hq
  · -- ireturn
    split at h
    rotate_left
    · cases h
    rename_i x
    split at h
    · rename_i hrt
      cases h
      refine ev_ret_P (fun H lc locs cells slots hR hf2 => ?_)
      exact W.iret hx hb (hr.trans hrt) (fun t ht hw => ⟨⟨_, rfl, rfl⟩, by rw [ht]; exact hR⟩) hf2 hdg hlocks
    · rename_i hrt
      by_cases hfit : ev_fit .boolean x = true
      · rw [if_pos hfit] at h
        cases h
        refine ev_ret_P (fun H lc locs cells slots hR hf2 => ?_)
        exact W.zret hx hb (hr.trans hrt) (of_decide_eq_true hfit) (fun t ht hw => ⟨⟨_, rfl, rfl⟩, by rw [ht]; exact hR⟩) hf2 hdg hlocks
      · rw [if_neg hfit] at h; cases h
    · rename_i hrt
      by_cases hfit : ev_fit .char x = true
      · rw [if_pos hfit] at h
        cases h
        refine ev_ret_P (fun H lc locs cells slots hR hf2 => ?_)
        exact W.zret hx hb (hr.trans hrt) (of_decide_eq_true hfit) (fun t ht hw => ⟨⟨_, rfl, rfl⟩, by rw [ht]; exact hR⟩) hf2 hdg hlocks
      · rw [if_neg hfit] at h; cases h
    · rename_i hrt
      by_cases hfit : ev_fit .byte x = true
      · rw [if_pos hfit] at h
        cases h
        refine ev_ret_P (fun H lc locs cells slots hR hf2 => ?_)
        exact W.zret hx hb (hr.trans hrt) (of_decide_eq_true hfit) (fun t ht hw => ⟨⟨_, rfl, rfl⟩, by rw [ht]; exact hR⟩) hf2 hdg hlocks
      · rw [if_neg hfit] at h; cases h
    · cases h
  · split at h
    rotate_left
    · cases h
    rename_i x
    split at h
    · rename_i hrt
      cases h
      refine ev_ret_P (fun H lc locs cells slots hR hf2 => ?_)
      exact W.lret hx hb (hr.trans hrt) (fun t ht hw => ⟨⟨_, rfl, rfl⟩, by rw [ht]; exact hR⟩) hf2 hdg hlocks
    · cases h
  · split at h
    rotate_left
    · cases h
    split at h
    · rename_i hrt
      cases h
      refine ev_ret_P (fun H lc locs cells slots hR hf2 => ?_)
      exact W.vret hx hb (hr.trans hrt) (fun t ht hw => ⟨⟨_, rfl, rfl⟩, by rw [ht]; exact hR⟩) hf2 hdg hlocks
    · cases h
  · cases h
end EVX
