section EVT
variable {p : Program} {l : Launch} {e : Env} {R : Room} {s : State} {m : MethodId} {args : Array Value} {below : List Frame} {meth : Method} {c : Code} {g : ev_G} {sd : Bool} {d : Nat} {M : ev_Me} {σ0 : ev_S} {r : ev_R}
theorem ev_ofNat_nn {n : Nat} (h : n < 1000) : ¬ Int32.ofNat n < 0 ∧ (Int32.ofNat n).toNatClampNeg = n := ⟨nI_pos (by omega), nI_clamp (by omega)⟩
theorem ev_moreN_facts (b : Nat) : ∀ (a : Nat) (σ : ev_S), (ev_moreN b a σ).1 = (σ.1.1 + a, σ.1.2.1, σ.1.2.2.1 + a, σ.1.2.2.2 + a * b) ∧ (∀ k, k < σ.1.1 → (ev_moreN b a σ).2.1 k = σ.2.1 k ∧ (ev_moreN b a σ).2.2.1 k = σ.2.2.1 k ∧ (ev_moreN b a σ).2.2.2 k = σ.2.2.2 k) ∧ (∀ j, j < a → (ev_moreN b a σ).2.1 (σ.1.1 + j) = fun _ => 0)
  | 0, σ => ⟨by simp [ev_moreN], fun k hk => ⟨rfl, rfl, rfl⟩, fun j hj => absurd hj (Nat.not_lt_zero j)⟩
  | a + 1, σ => by
    obtain ⟨h1, h2, h3⟩ := ev_moreN_facts b a σ
    have hn : (ev_moreN b a σ).1.1 = σ.1.1 + a := by rw [h1]
    have hb : ∀ k, k ≠ σ.1.1 + a → Nat.beq k (ev_moreN b a σ).1.1 = false := fun k hk => by
      cases hz : Nat.beq k (ev_moreN b a σ).1.1 with
      | false => rfl
      | true => exact absurd ((Nat.eq_of_beq_eq_true hz).trans hn) hk
    refine ⟨?_, fun k hk => ?_, fun j hj => ?_⟩
    · show ((ev_moreN b a σ).1.1 + 1, (ev_moreN b a σ).1.2.1, (ev_moreN b a σ).1.2.2.1 + 1, (ev_moreN b a σ).1.2.2.2 + b) = _
      rw [h1]
      simp only [Prod.mk.injEq, true_and]
      refine ⟨by omega, by omega, ?_⟩
      rw [Nat.succ_mul]; omega
    · obtain ⟨e1, e2, e3⟩ := h2 k hk
      have hz := hb k (by omega)
      refine ⟨?_, ?_, ?_⟩
      · rw [← e1]; funext q; show (bif Nat.beq k (ev_moreN b a σ).1.1 then _ else _) = _; rw [hz]; rfl
      · rw [← e2]; funext q; show (bif Nat.beq k (ev_moreN b a σ).1.1 then _ else _) = _; rw [hz]; rfl
      · rw [← e3]; funext q; show (bif Nat.beq k (ev_moreN b a σ).1.1 then _ else _) = _; rw [hz]; rfl
    · by_cases hja : j = a
      · subst hja
        funext q
        show (bif Nat.beq (σ.1.1 + j) (ev_moreN b j σ).1.1 then _ else _) = _
        rw [hn, Nat.beq_refl]; rfl
      · rw [← h3 j (by omega)]
        funext q
        show (bif Nat.beq (σ.1.1 + j) (ev_moreN b a σ).1.1 then _ else _) = _
        rw [hb _ (by omega)]; rfl
theorem ev_rowsOk_spec {b : Nat} : ∀ {a k : Nat}, ev_rowsOk b a k = true → ∀ j, j < a → ev_lay (k + j) = (1, b)
  | 0, _, _, j, hj => absurd hj (Nat.not_lt_zero j)
  | a + 1, k, h, j, hj => by
    unfold ev_rowsOk at h
    rw [Bool.and_eq_true] at h
    cases j with
    | zero => exact eq_of_beq h.1
    | succ j =>
      have := ev_rowsOk_spec h.2 j (by omega)
      rw [show k + (j + 1) = k + 1 + j by omega]
      exact this
/-- new int[a][b] -/
theorem ev_mna {cc : ByteArray} (hexec : p.tables.exec = Jvm.exec) (hb : c.code = cc) {H : Heap} {locs : List Loc} {cells slots : Nat} {Q : State → Prop} {pc : Nat} {ls : Array Slot} {rest : List Value} {own : String} {index : Nat} {cA cI : ClassId} (hown : s.vm.findClass own = some m.cls) (hclink : (Cond.classLink own index ("[" ++ (FieldType.array .int).toString)).before args s = true) (hover : (Cond.arrayOver (.array .int)).before args s = true) (harr : (Cond.arrayClass .int).before args s = true) (hcA : s.vm.findClass ("[" ++ (FieldType.array .int).toString) = some cA) (hcI : s.vm.findClass (FieldType.array .int).toString = some cI)
    {a b : Nat} (ha : a < 1000) (hb' : b < 1000) (hcells : cells + (1 + a) ≤ R.cells) (hslots : slots + (a + a * b) ≤ R.slots) (hdg : decode cc pc = .ok (.multianewarray index 2, 4))
    (kk : ∀ H1 : Heap, H1.size = H.size + 1 + a → H1[H.size]? = some (vp_cell cA (a, .inr (.inr (.inr (.inr (fun i => if i < a then some (H.size + 1 + i) else none)))))) → (∀ j, j < a → H1[H.size + 1 + j]? = some (vp_cell cI (b, .inl (fun _ => 0)))) → (∀ q : Nat, q < H.size → H1[q]? = H[q]?) →
      W p l e R s m args below meth c H1 locs (cells + 1 + a) (slots + a + a * b) Q (F0 m (pc + 4) ls (.ref H.size :: rest))) : W p l e R s m args below meth c H locs cells slots Q (F0 m pc ls (.int (Int32.ofNat b) :: .int (Int32.ofNat a) :: rest)) := by
  obtain ⟨a1, a2⟩ := ev_ofNat_nn ha
  obtain ⟨b1, b2⟩ := ev_ofNat_nn hb'
  intro T hT Xs
  obtain ⟨vm₁, cA', comp, -, fA, fC, hO, -, X', step⟩ := Xs.multianewarray2F hexec hown hclink hover harr (g := F0 m pc ls (.int (Int32.ofNat b) :: .int (Int32.ofNat a) :: rest)) rfl (by rw [hb]; exact hdg) rfl a1 b1 (by rw [a2]; omega) (by rw [b2]; simp [componentBytes]; omega) (by rw [b2]; omega) rfl rfl (by rw [a2]; exact hcells) (by rw [a2, b2]; exact hslots)
  have ec : some cI = some comp := hcI.symm.trans fC
  cases ec
  have ec2 : some cA = some cA' := hcA.symm.trans fA
  cases ec2
  rw [a2, b2] at X' step
  generalize hF : Jvm.Free.Multi.fill (T.setVm vm₁) cA cI a b (defaultValue .int) a = F at X' step
  have hTh : (T.setVm vm₁).heap = H := hT
  obtain ⟨f1, f2, -, -⟩ := Jvm.Free.Multi.fill_facts (T.setVm vm₁) cA cI a b (defaultValue .int) a
  rw [hF, hTh] at f1 f2
  obtain ⟨t, q1, q2⟩ := kk F.heap f1 (by rw [f2, vr_outer, vp_cell_q]) (fun j hj => by
    have := Jvm.Free.Multi.fill_inner (T.setVm vm₁) cA cI a b (defaultValue .int) a j hj
    rw [hF, hTh] at this
    rw [this, vp_cell_i, ← arrV_new]
    rfl) (fun x hx => by
    have := Jvm.Free.Multi.fill_old (T.setVm vm₁) cA cI a b (defaultValue .int) (a := x) (by rw [hTh]; exact hx) a
    rw [hF, hTh] at this
    exact this) F rfl X'
  refine ⟨t, step t ?_, q2⟩
  rw [hT]
  exact q1
end EVT
