/-! From the store as it was made to one of the form ev_mk. -/
theorem ev_arrV_congr {c : ClassId} {n : Nat} {f f' : Nat → Value} (h : ∀ j, j < n → f j = f' j) : arrV c n f = arrV c n f' := by
  unfold arrV
  congr 1
  apply Array.ext_getElem?
  intro i
  simp only [Array.getElem?_ofFn]
  by_cases hi : i < n
  · simp [hi, h i hi]
  · simp [hi]
theorem ev_vpI {c : ClassId} {n : Nat} {f f' : Nat → Int32} (h : ∀ j, j < n → f j = f' j) : vp_cell c (n, .inl f) = vp_cell c (n, .inl f') := by
  show arrV c n (fun j => .int (f j)) = arrV c n (fun j => .int (f' j))
  exact ev_arrV_congr fun j hj => by rw [h j hj]
theorem ev_vpL {c : ClassId} {n : Nat} {f f' : Nat → Int64} (h : ∀ j, j < n → f j = f' j) : vp_cell c (n, .inr (.inl f)) = vp_cell c (n, .inr (.inl f')) := by
  show arrV c n (fun j => .long (f j)) = arrV c n (fun j => .long (f' j))
  exact ev_arrV_congr fun j hj => by rw [h j hj]
theorem ev_vpR {c : ClassId} {n : Nat} {f f' : Nat → Option Nat} (h : ∀ j, j < n → f j = f' j) : vp_cell c (n, .inr (.inr (.inr (.inr f)))) = vp_cell c (n, .inr (.inr (.inr (.inr f')))) := by
  show arrV c n (fun j => va_rf (f j)) = arrV c n (fun j => va_rf (f' j))
  exact ev_arrV_congr fun j hj => by rw [h j hj]
theorem ev_as_at {σ : ev_S} {I : Nat → Nat → Int32} {L : Nat → Nat → Int64} {Rf : Nat → Nat → Option Nat} (h : ev_asB σ I L Rf = true) {k j : Nat} (hk : k < σ.1.1) (hj : j < ev_sz k) : (ev_isI k j = true → σ.2.1 k j = I k j) ∧ (ev_isI k j = false → ev_isL k = true → σ.2.2.1 k j = L k j) ∧ (ev_isI k j = false → ev_isL k = false → σ.2.2.2 k j = Rf k j) := by
  have h1 := List.all_eq_true.mp (List.all_eq_true.mp h k (List.mem_range.mpr hk)) j (List.mem_range.mpr hj)
  cases e1 : ev_isI k j with
  | true =>
    rw [e1] at h1
    exact ⟨fun _ => of_decide_eq_true h1, fun z => (by cases z), fun z => (by cases z)⟩
  | false =>
    rw [e1] at h1
    cases e2 : ev_isL k with
    | true =>
      rw [e2] at h1
      exact ⟨fun z => (by cases z), fun _ _ => of_decide_eq_true h1, fun _ z => (by cases z)⟩
    | false =>
      rw [e2] at h1
      exact ⟨fun z => (by cases z), fun _ z => (by cases z), fun _ _ => of_decide_eq_true h1⟩
theorem ev_Rep_as {g : ev_G} {σ : ev_S} {H : Heap} {I : Nat → Nat → Int32} {L : Nat → Nat → Int64} {Rf : Nat → Nat → Option Nat} (h : ev_asB σ I L Rf = true) (hN : σ.1.1 ≤ ev_N0) (hR : ev_Rep g σ H) : ev_Rep g (σ.1, I, L, Rf) H := by
  obtain ⟨r1, r2, r3, r4, r5⟩ := hR
  refine ⟨r1, r2, r3, r4, fun k hk => ?_⟩
  have hk' : k < σ.1.1 := hk
  have h5 := r5 k hk'
  have hA := fun j (hj : j < ev_sz k) => ev_as_at h hk' hj
  unfold ev_sz ev_isI ev_isL at hA
  unfold ev_E at h5 ⊢
  have hlt : (ev_lay k).1 < 7 := by
    rcases ev_lay_lt (k := k) with z | z
    · exact z
    · exfalso
      have : ∀ q, q < ev_N0 → (ev_lay q).1 < 7 := by decide +kernel
      have := this k (by omega)
      rw [z] at this
      omega
  rcases hl : ev_lay k with ⟨t, n⟩
  rw [hl] at h5 hA hlt
  have ht : t < 7 := hlt
  have cs : t = 0 ∨ t = 1 ∨ t = 2 ∨ t = 3 ∨ t = 4 ∨ t = 5 ∨ t = 6 := by omega
  rcases cs with rfl | rfl | rfl | rfl | rfl | rfl | rfl
  · have e : (List.range (ev_cl n).2.2).map (ev_fldv g σ k n) = (List.range (ev_cl n).2.2).map (ev_fldv g ((σ.1, I, L, Rf) : ev_S) k n) := by
      apply List.map_congr_left
      intro j hj
      have hA1 := hA j (List.mem_range.mp hj)
      unfold ev_fldv
      cases e1 : ev_isr n j with
      | true =>
        have hA2 := hA1.2.2 (by show (!ev_isr n j) = false; rw [e1]; rfl) rfl
        rw [cond_true, cond_true, hA2]
      | false =>
        have hA2 := hA1.1 (by show (!ev_isr n j) = true; rw [e1]; rfl)
        rw [cond_false, cond_false, hA2]
    simp only at h5 ⊢
    rw [e] at h5
    exact h5
  · exact (show H[g.2.1 + k]? = some (vp_cell _ (n, .inl (σ.2.1 k))) from h5).trans (congrArg some (ev_vpI fun j hj => (hA j hj).1 rfl))
  · exact (show H[g.2.1 + k]? = some (vp_cell _ (n, .inr (.inl (σ.2.2.1 k)))) from h5).trans (congrArg some (ev_vpL fun j hj => (hA j hj).2.1 rfl rfl))
  · exact (show H[g.2.1 + k]? = some (vp_cell _ (n, .inl (σ.2.1 k))) from h5).trans (congrArg some (ev_vpI fun j hj => (hA j hj).1 rfl))
  · exact (show H[g.2.1 + k]? = some (vp_cell _ (n, .inl (σ.2.1 k))) from h5).trans (congrArg some (ev_vpI fun j hj => (hA j hj).1 rfl))
  · exact (show H[g.2.1 + k]? = some (vp_cell _ (n, .inr (.inr (.inr (.inr (fun j => (σ.2.2.2 k j).map (ev_ad g))))))) from h5).trans (congrArg some (ev_vpR fun j hj => by rw [(hA j hj).2.2 rfl rfl]))
  · exact (show H[g.2.1 + k]? = some (vp_cell _ (n, .inr (.inr (.inr (.inr (fun j => (σ.2.2.2 k j).map (ev_ad g))))))) from h5).trans (congrArg some (ev_vpR fun j hj => by rw [(hA j hj).2.2 rfl rfl]))
