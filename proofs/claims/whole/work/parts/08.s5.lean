section EVU
variable {p : Program} {l : Launch} {e : Env} {R : Room} {s : State} {m : MethodId} {args : Array Value} {below : List Frame} {meth : Method} {c : Code} {g : ev_G} {sd : Bool} {d : Nat} {M : ev_Me} {σ0 : ev_S} {r : ev_R}
theorem ev_fldv_put {σ : ev_S} {k ci j q : Nat} {x : Int32} (hj : ev_isr ci j = false) : ev_fldv g (ev_putI σ k j x) k ci q = if q = j then .int x else ev_fldv g σ k ci q := by
  unfold ev_fldv
  by_cases h : q = j
  · subst h
    rw [hj, if_pos rfl]
    show Value.int (ev_up σ.2.1 k q x k q) = _
    simp [ev_up]
  · rw [if_neg h]
    have e1 : (ev_putI σ k j x).2.1 k q = σ.2.1 k q := by show ev_up σ.2.1 k j x k q = _; simp [ev_up, h]
    have e2 : (ev_putI σ k j x).2.2.2 k q = σ.2.2.2 k q := rfl
    rw [e1, e2]
theorem ev_fldv_putR {σ : ev_S} {k ci j q a : Nat} (hj : ev_isr ci j = true) : ev_fldv g (ev_putR σ k j (some a)) k ci q = if q = j then .ref (ev_ad g a) else ev_fldv g σ k ci q := by
  unfold ev_fldv
  by_cases h : q = j
  · subst h
    rw [hj, if_pos rfl]
    show va_rf ((ev_up σ.2.2.2 k q (some a) k q).map (ev_ad g)) = _
    simp [ev_up, va_rf]
  · rw [if_neg h]
    have e1 : (ev_putR σ k j (some a)).2.1 k q = σ.2.1 k q := rfl
    have e2 : (ev_putR σ k j (some a)).2.2.2 k q = σ.2.2.2 k q := by show ev_up σ.2.2.2 k j (some a) k q = _; simp [ev_up, h]
    rw [e1, e2]
theorem ev_notString {k : Nat} : ev_lay k ≠ (0, 20) := by
  intro z
  have : ∀ q ∈ ev_layL, q ≠ (0, 20) := by decide +kernel
  unfold ev_lay at z
  cases h : ev_nth ev_layL k with
  | none => rw [h] at z; cases z
  | some q => rw [h] at z; exact this q (ev_nth_mem h) z
set_option maxHeartbeats 4000000 in
theorem ev_put_ok (hTF : ev_TF) (hTC : ev_TC) (hA : ev_At p g M s m args meth c) {idx pc : Nat} {ls st : List Value} {σ : ev_S} (hdg : decode M.2.1 pc = .ok (.putfield idx, 3)) {K : ev_K} (hK : ∀ pc' ls' st' σ', K pc' ls' st' σ' = some r → ev_P p l e s m args below meth c g sd d M σ0 r pc' ls' st' σ')
    (h : ev_wr sd M K (.putfield idx) pc ls st σ = some r) : ev_P p l e s m args below meth c g sd d M σ0 r pc ls st σ := by
  unfold ev_wr at h
  simp only [] at h
  split at h
  rotate_left
  · cases h
  rename_i ci j kd fin hlk
  cases hini : (Nat.beq fin 1 && !(M.1.name == "<init>" && ci + 1 == M.2.2.2.2.1)) with
  | true => rw [hini] at h; cases h
  | false =>
    rw [hini] at h
    simp only [cond_false] at h
    split at h
    · rename_i x k rest
      cases hkd : ev_kd σ.1.1 k == (0, ci) with
      | false => rw [hkd] at h; cases h
      | true =>
        rw [hkd] at h
        obtain ⟨hk, hlay⟩ := ev_kd_cell (eq_of_beq hkd) (by omega)
        rcases hTF _ _ _ _ _ _ hlk with ⟨h1, h2, h3, h4, h5, h6, h7, h8⟩ | ⟨h1, -⟩
        rotate_left
        · rw [h1] at hlay; exact absurd hlay ev_notString
        cases hk0 : Nat.beq kd 0 with
        | true =>
          rw [hk0] at h
          simp only [cond_true] at h
          have e0 := Nat.eq_of_beq_eq_true hk0
          have hft := h6 e0
          have hisr : ev_isr ci j = false := by rw [← h5, e0]; rfl
          refine ev_P.wr (τ := ev_putI σ k j x) rfl (fun _ => rfl) (fun H lc locs cells slots Q hR hS hW => ?_) (hK _ _ _ _ h)
          exact ev_putF hTC hA (v := .int x) (σ := σ) (τ := ev_putI σ k j x) h1 h2 h3 h4 h8 hini hk hlay (by rw [hft]; rfl) (by rw [hft]; rfl) rfl (fun q hq => ev_E_congr (ev_up_ne hq) rfl rfl) (fun q _ => ev_fldv_put hisr) hdg hR hS hW
        | false =>
          rw [hk0] at h
          cases hk1 : Nat.beq kd 1 with
          | false => rw [hk1] at h; cases h
          | true =>
            rw [hk1] at h
            have e1 := Nat.eq_of_beq_eq_true hk1
            have hft := h7 e1
            have hisr : ev_isr ci j = false := by rw [← h5, e1]; rfl
            by_cases hfit : ev_fit .boolean x = true
            rotate_left
            · simp only [cond_true, cond_false] at h; rw [if_neg hfit] at h; cases h
            simp only [cond_true, cond_false] at h
            rw [if_pos hfit] at h
            have hn : narrow .boolean (.int x) = .int x := of_decide_eq_true hfit
            refine ev_P.wr (τ := ev_putI σ k j x) rfl (fun _ => rfl) (fun H lc locs cells slots Q hR hS hW => ?_) (hK _ _ _ _ h)
            exact ev_putF hTC hA (v := .int x) (σ := σ) (τ := ev_putI σ k j x) h1 h2 h3 h4 h8 hini hk hlay (by rw [hft]; exact hn) (by rw [hft]; exact ev_fit_bool hn) rfl (fun q hq => ev_E_congr (ev_up_ne hq) rfl rfl) (fun q _ => ev_fldv_put hisr) hdg hR hS hW
    · rename_i a k rest
      cases hkd : (!sd && ev_kd σ.1.1 k == (0, ci) && Nat.beq kd 2) with
      | false => rw [hkd] at h; cases h
      | true =>
        rw [hkd] at h
        simp only [cond_true] at h
        simp only [Bool.and_eq_true, Bool.not_eq_true'] at hkd
        obtain ⟨⟨hsd, hk9⟩, hk2⟩ := hkd
        obtain ⟨hk, hlay⟩ := ev_kd_cell (eq_of_beq hk9) (by omega)
        rcases hTF _ _ _ _ _ _ hlk with ⟨h1, h2, h3, h4, h5, h6, h7, h8⟩ | ⟨h1, -⟩
        rotate_left
        · rw [h1] at hlay; exact absurd hlay ev_notString
        have hisr : ev_isr ci j = true := by rw [← h5]; exact hk2
        obtain ⟨c1, c2, c3, c4, c5, c6, c7⟩ := hTC ci h1
        refine ev_P.wr (τ := ev_putR σ k j (some a)) rfl (fun z => by rw [hsd] at z; cases z) (fun H lc locs cells slots Q hR hS hW => ?_) (hK _ _ _ _ h)
        exact ev_putF hTC hA (v := .ref a) (σ := σ) (τ := ev_putR σ k j (some a)) h1 h2 h3 h4 h8 hini hk hlay (ev_nar_ref (c7 j h2 hisr) _).1 (ev_nar_ref (c7 j h2 hisr) _).2 rfl (fun q hq => ev_E_congr rfl rfl (ev_up_ne hq)) (fun q _ => ev_fldv_putR hisr) hdg hR hS hW
    · cases h
set_option maxHeartbeats 4000000 in
theorem ev_ast_ok (hTC : ev_TC) (hA : ev_At p g M s m args meth c) {i : Instr} {pc : Nat} {ls st : List Value} {σ : ev_S} (hi : i = .iastore ∨ i = .castore ∨ i = .bastore ∨ i = .lastore ∨ i = .aastore) (hdg : decode M.2.1 pc = .ok (i, ev_len pc i)) {K : ev_K} (hK : ∀ pc' ls' st' σ', K pc' ls' st' σ' = some r → ev_P p l e s m args below meth c g sd d M σ0 r pc' ls' st' σ')
    (h : ev_wr sd M K i pc ls st σ = some r) : ev_P p l e s m args below meth c g sd d M σ0 r pc ls st σ := by
  obtain ⟨hx, hb, hml, hr, hlocks, hown, hnm, -, hts, hCx, hold, hb0⟩ := hA
  rcases hi with rfl | rfl | rfl | rfl | rfl <;> unfold ev_wr at h <;> simp only [] at h
  · split at h
    rotate_left
    · cases h
    rename_i y x v rest
    unfold ev_sI at h
    split at h
    rotate_left
    · cases h
    rename_i k
    split at h
    rotate_left
    · cases h
    rename_i n hkd
    obtain ⟨hk, hlay⟩ := ev_kd_cell hkd (by omega)
    by_cases hin : ev_in x n = true
    rotate_left
    · rw [if_neg hin] at h; cases h
    rw [if_pos hin] at h
    refine ev_P.wr (τ := ev_putI σ k x.toNatClampNeg y) rfl (fun _ => rfl) (fun H lc locs cells slots Q hR hS hW => ?_) (hK _ _ _ _ h)
    obtain ⟨q1, q2⟩ := ev_rowI hCx hR hk hlay (Or.inl ⟨rfl, rfl⟩)
    show W p l e _ s m args below meth c H locs cells slots Q (F0 m pc lc (.int y :: .int x :: .ref (ev_ad g k) :: rest.map (ev_uv g)))
    rw [ev_ad_cell (Nat.lt_of_lt_of_le hk hR.2.2.2.1)]
    refine W.iast hx hb q1 (q2 n _) (fun q => by cases q) (by rw [arrV_size]; exact ev_in_vp hin) rfl rfl hdg fun H1 e1 e2 e3 => ?_
    exact hW H1 _ (ev_stI hCx hR hk hlay (Or.inl ⟨rfl, rfl⟩) e1 e2 e3) (hS.put e2 e3 (show g.2.1 ≤ g.2.1 + k by omega))
  · split at h
    rotate_left
    · cases h
    rename_i y x k rest
    split at h
    rotate_left
    · cases h
    rename_i n hkd
    obtain ⟨hk, hlay⟩ := ev_kd_cell hkd (by omega)
    by_cases hin : ev_in x n = true
    rotate_left
    · rw [if_neg hin] at h; cases h
    rw [if_pos hin] at h
    refine ev_P.wr (τ := ev_putI σ k x.toNatClampNeg (vp_nar .char y)) rfl (fun _ => rfl) (fun H lc locs cells slots Q hR hS hW => ?_) (hK _ _ _ _ h)
    obtain ⟨q1, q2⟩ := ev_rowI hCx hR hk hlay (Or.inr (Or.inl ⟨rfl, rfl⟩))
    show W p l e _ s m args below meth c H locs cells slots Q (F0 m pc lc (.int y :: .int x :: .ref (ev_ad g k) :: rest.map (ev_uv g)))
    rw [ev_ad_cell (Nat.lt_of_lt_of_le hk hR.2.2.2.1)]
    refine W.cast hx hb q1 (q2 n _) (fun q => by cases q) (by rw [arrV_size]; exact ev_in_vp hin) rfl rfl hdg fun H1 e1 e2 e3 => ?_
    exact hW H1 _ (ev_stI hCx hR hk hlay (Or.inr (Or.inl ⟨rfl, rfl⟩)) (by rw [e1]; rfl) e2 e3) (hS.put e2 e3 (show g.2.1 ≤ g.2.1 + k by omega))
  · split at h
    rotate_left
    · cases h
    rename_i y x k rest
    split at h
    rotate_left
    · cases h
    rename_i n hkd
    obtain ⟨hk, hlay⟩ := ev_kd_cell hkd (by omega)
    by_cases hin : ev_in x n = true
    rotate_left
    · rw [if_neg hin] at h; cases h
    rw [if_pos hin] at h
    refine ev_P.wr (τ := ev_putI σ k x.toNatClampNeg (vp_nar .boolean y)) rfl (fun _ => rfl) (fun H lc locs cells slots Q hR hS hW => ?_) (hK _ _ _ _ h)
    obtain ⟨q1, q2⟩ := ev_rowI hCx hR hk hlay (Or.inr (Or.inr ⟨rfl, rfl⟩))
    show W p l e _ s m args below meth c H locs cells slots Q (F0 m pc lc (.int y :: .int x :: .ref (ev_ad g k) :: rest.map (ev_uv g)))
    rw [ev_ad_cell (Nat.lt_of_lt_of_le hk hR.2.2.2.1)]
    refine W.zast hx hb q1 (q2 n _) (fun q => by cases q) (by rw [arrV_size]; exact ev_in_vp hin) rfl rfl hdg fun H1 e1 e2 e3 => ?_
    exact hW H1 _ (ev_stI hCx hR hk hlay (Or.inr (Or.inr ⟨rfl, rfl⟩)) (by rw [e1]; rfl) e2 e3) (hS.put e2 e3 (show g.2.1 ≤ g.2.1 + k by omega))
  · split at h
    rotate_left
    · cases h
    rename_i y x k rest
    split at h
    rotate_left
    · cases h
    rename_i n hkd
    obtain ⟨hk, hlay⟩ := ev_kd_cell hkd (by omega)
    by_cases hin : ev_in x n = true
    rotate_left
    · rw [if_neg hin] at h; cases h
    rw [if_pos hin] at h
    refine ev_P.wr (τ := ev_putL σ k x.toNatClampNeg y) rfl (fun _ => rfl) (fun H lc locs cells slots Q hR hS hW => ?_) (hK _ _ _ _ h)
    have q1 := ev_atA (t := 2) (n := n) (x := (n, .inr (.inl (σ.2.2.1 k)))) hR hk (by unfold ev_E; rw [hlay]; rfl)
    have q2 := (hCx.1.2 1 _ rfl).1
    show W p l e _ s m args below meth c H locs cells slots Q (F0 m pc lc (.long y :: .int x :: .ref (ev_ad g k) :: rest.map (ev_uv g)))
    rw [ev_ad_cell (Nat.lt_of_lt_of_le hk hR.2.2.2.1)]
    refine W.last hx hb q1 (q2 n (fun j => .long (σ.2.2.1 k j))) (fun q => by cases q) (by rw [vp_cell_l, arrV_size]; exact ev_in_vp hin) rfl rfl hdg fun H1 e1 e2 e3 => ?_
    refine hW H1 _ (ev_Rep_upd (σ := σ) hR rfl e2 e3 ?_ (fun a ha => ev_E_congr rfl (ev_up_ne ha) rfl)) (hS.put e2 e3 (show g.2.1 ≤ g.2.1 + k by omega))
    have hE : ev_E g (ev_putL σ k x.toNatClampNeg y) k = .inl (g.2.2.2.2.2.2 2, n, .inr (.inl (ev_up σ.2.2.1 k x.toNatClampNeg y k))) := by
      unfold ev_E
      rw [hlay]; rfl
    rw [hE]
    show H1[g.2.1 + k]? = some (vp_cell _ _)
    rw [e1, vp_cell_l, vp_cell_l, arrV_store]
    congr 2
    funext q
    by_cases hq : q = x.toNatClampNeg
    · subst hq; simp [updV, ev_up]
    · simp [updV, ev_up, hq]
  · split at h
    rotate_left
    · cases h
    rename_i a x k rest
    split at h
    rotate_left
    · cases h
    rename_i n hkd
    obtain ⟨hk, hlay⟩ := ev_kd_cell hkd (by omega)
    cases hka : (!sd && ev_kd σ.1.1 a == (0, 6)) with
    | false => rw [hka] at h; cases h
    | true =>
      rw [hka] at h
      simp only [Bool.and_eq_true, Bool.not_eq_true'] at hka
      obtain ⟨hsd, hka⟩ := hka
      obtain ⟨ha, hlaya⟩ := ev_kd_cell (eq_of_beq hka) (by omega)
      by_cases hin : ev_in x n = true
      rotate_left
      · simp only [cond_true] at h; rw [if_neg hin] at h; cases h
      simp only [cond_true] at h
      rw [if_pos hin] at h
      refine ev_P.wr (τ := ev_putR σ k x.toNatClampNeg (some a)) rfl (fun z => by rw [hsd] at z; cases z) (fun H lc locs cells slots Q hR hS hW => ?_) (hK _ _ _ _ h)
      have q1 := ev_atA (t := 5) (n := n) (x := (n, .inr (.inr (.inr (.inr (fun j => (σ.2.2.2 k j).map (ev_ad g))))))) hR hk (by unfold ev_E; rw [hlay]; rfl)
      obtain ⟨c1, -⟩ := hTC 6 (by omega)
      obtain ⟨cellV, g1, g2, g3, -⟩ := ev_atO hTC (by omega) hR ha hlaya
      have hcls := (hCx.1.1 6 _ c1).2
      obtain ⟨kA, comp, k1, k2, k3, -⟩ := (hCx.1.2 4 _ rfl).2
      have hcomp : comp = g.1.1 6 := Option.some.inj (k3.symm.trans hcls.1)
      subst hcomp
      obtain ⟨kC, hkC, -⟩ := hcls.2
      have hvp := ev_in_vp hin
      have hlt : x.toNatClampNeg < n := Nat.not_le.mp fun q => hvp (Or.inr q)
      show W p l e _ s m args below meth c H locs cells slots Q (F0 m pc lc (.ref (ev_ad g a) :: .int x :: .ref (ev_ad g k) :: rest.map (ev_uv g)))
      rw [ev_ad_cell (Nat.lt_of_lt_of_le hk hR.2.2.2.1), ev_ad_cell (Nat.lt_of_lt_of_le ha hR.2.2.2.1)]
      refine W.aast hx hb q1 (fun q h => by cases h) (fun h => by cases h) k1 k2 rfl hkC ⟨fun z => hvp (Or.inl z), by show _ < (arrV _ _ _).slots.size; rw [arrV_size]; exact hlt⟩ g1 (fun q h => by rw [g3] at h; cases h) (by rw [g2]; exact hkC) (by rw [g2]; exact va_assign hcls) rfl rfl hdg fun H1 e1 e2 e3 => ?_
      refine hW H1 _ (ev_Rep_upd (σ := σ) hR rfl e2 e3 ?_ (fun b hb => ev_E_congr rfl rfl (ev_up_ne hb))) (hS.put e2 e3 (show g.2.1 ≤ g.2.1 + k by omega))
      have hE : ev_E g (ev_putR σ k x.toNatClampNeg (some a)) k = .inl (g.2.2.2.2.2.2 5, n, .inr (.inr (.inr (.inr (fun j => (ev_up σ.2.2.2 k x.toNatClampNeg (some a) k j).map (ev_ad g)))))) := by
        unfold ev_E
        rw [hlay]; rfl
      rw [hE]
      show H1[g.2.1 + k]? = some (vp_cell _ _)
      rw [e1, vp_cell_q, vp_cell_q, arrV_store]
      congr 2
      funext q
      by_cases hq : q = x.toNatClampNeg
      · subst hq; simp [updV, ev_up, va_rf, ev_ad_cell (Nat.lt_of_lt_of_le ha hR.2.2.2.1)]
      · simp [updV, ev_up, hq]
end EVU
