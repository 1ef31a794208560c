/-! What holds once both are made. -/
def A0 : aP := ((0, fun _ => 0), (0, fun _ => 0), (0, fun _ => 0, fun _ _ => 0), fun j => ev_I0 143 j, (7, plT), (0, fun _ _ => 0), (fun _ => false, fun _ _ => 0), (0, fun _ => 0, fun _ => 0, fun _ => false))
theorem okT_pl : okT plT 7 := by
  refine ⟨by omega, by decide, ?_⟩
  decide
theorem wf0 : wfA A0 := by
  refine ⟨⟨Nat.zero_le _, fun j hj => absurd hj (Nat.not_lt_zero _)⟩, Nat.zero_le _, ⟨Nat.zero_le _, fun w _ => ⟨Nat.zero_le _, fun z => absurd z (Nat.not_lt_zero _), fun _ => rfl, fun i hi => absurd hi (Nat.not_lt_zero _)⟩⟩, ?_, okT_pl, ⟨Nat.zero_le _, fun i hi => absurd hi (Nat.not_lt_zero _)⟩, fun i _ z => (by cases z), Nat.zero_le _, fun i hi => absurd hi (Nat.not_lt_zero _)⟩
  have : ∀ j, j < 27 → j ≠ 25 → ev_I0 143 j = nI (ev_I0 143 j).toNatClampNeg ∧ (ev_I0 143 j).toNatClampNeg < bnd (fun _ => 0) j := by decide +kernel
  exact this
theorem inv0C (L : Nat → Nat → Int64) : invC ev_I0 L A0 := by
  refine ⟨⟨by decide, fun j hj => absurd hj (Nat.not_lt_zero _)⟩, ⟨by decide, fun j hj => absurd hj (Nat.not_lt_zero _)⟩, ⟨⟨by decide, Nat.zero_le _, fun w hw => ⟨?_, Nat.zero_le _, fun i hi => absurd hi (Nat.not_lt_zero _)⟩⟩, fun w hw => absurd hw (Nat.not_lt_zero _)⟩, ⟨?_, by decide +kernel, by decide +kernel, by decide +kernel⟩, ⟨by decide +kernel, ?_⟩, ⟨0, by omega, by decide +kernel, by decide +kernel, Nat.zero_le _, fun i hi => absurd hi (Nat.not_lt_zero _)⟩, ?_, ⟨by decide +kernel, fun j hj => absurd hj (Nat.not_lt_zero _)⟩, ?_⟩
  · have : ∀ w, w < 8 → ev_I0 15 w = nI 0 := by decide +kernel
    exact this w hw
  · have : ∀ w, w < 8 → ev_I0 18 w = ev_I0 143 w ∧ ev_I0 19 w = ev_I0 143 (8 + w) ∧ ev_I0 20 w = ev_I0 143 (16 + w) := by decide +kernel
    exact this
  · have : ∀ j, j < 7 → ev_I0 102 j = cT (plT j) := by decide +kernel
    exact this
  · have : ∀ i, i < 3 → ev_I0 28 i = fl false := by decide +kernel
    exact fun i hi => ⟨this i hi, fun z => by cases z⟩
  · have : ∀ w, w < 8 → ev_I0 127 (9 * w) = 0 := by decide +kernel
    exact this
theorem inv0M (L : Nat → Nat → Int64) : invM ev_I0 L A0 := by
  refine ⟨⟨by decide +kernel, fun j hj => absurd hj (Nat.not_lt_zero _)⟩, ⟨by decide +kernel, fun j hj => absurd hj (Nat.not_lt_zero _)⟩, ⟨by decide +kernel, Nat.zero_le _, fun w hw => ⟨?_, Nat.zero_le _, fun i hi => absurd hi (Nat.not_lt_zero _)⟩⟩, fun j hj => by rw [Nat.zero_add]; rfl, Or.inr ⟨by decide +kernel, rfl, fun _ _ => rfl⟩, ⟨by decide +kernel, Nat.zero_le _, fun i hi => absurd hi (Nat.not_lt_zero _)⟩, ⟨0, Nat.zero_le _, by decide +kernel, fun i hi => ⟨false, 0, ?_, ?_, Nat.le_refl _, rfl, fun z => by cases z⟩⟩, ⟨by decide +kernel, fun j hj => absurd hj (Nat.not_lt_zero _)⟩⟩
  · have : ∀ w, w < 8 → ev_I0 142 w = nI 0 := by decide +kernel
    exact this w hw
  · have : ∀ i, i < 3 → ev_I0 171 i = fl false := by decide +kernel
    exact this i hi
  · have : ∀ i, i < 3 → ev_I0 172 i = nI 0 := by decide +kernel
    exact this i hi
theorem inv0 (L : Nat → Nat → Int64) : inv ev_I0 L := ⟨A0, wf0, inv0C L, inv0M L⟩
