/-! A call by a count of rounds; it goes over to ev_call. -/
theorem ev_inv_cf {sd : Bool} {cf cf' : ev_Me → List Value → ev_S → Option ev_R} (hcf : ∀ M args σ r, cf M args σ = some r → cf' M args σ = some r) {M : ev_Me} {K : ev_K} {v s t : Bool} {idx pc : Nat} {ls st : List Value} {σ : ev_S} {r : ev_R} (h : ev_inv sd cf M K v s t idx pc ls st σ = some r) : ev_inv sd cf' M K v s t idx pc ls st σ = some r := by
  have hI : ∀ (Mc : ev_Me) (a : List Value) (k : Int32 → ev_S → Option ev_R), ev_cI (cf Mc a σ) k = some r → ev_cI (cf' Mc a σ) k = some r := by
    intro Mc a k h
    cases hc : cf Mc a σ with
    | none => rw [hc] at h; cases h
    | some z => rw [hcf _ _ _ _ hc]; rw [hc] at h; exact h
  have hL : ∀ (Mc : ev_Me) (a : List Value) (k : Int64 → ev_S → Option ev_R), ev_cL (cf Mc a σ) k = some r → ev_cL (cf' Mc a σ) k = some r := by
    intro Mc a k h
    cases hc : cf Mc a σ with
    | none => rw [hc] at h; cases h
    | some z => rw [hcf _ _ _ _ hc]; rw [hc] at h; exact h
  have hV : ∀ (Mc : ev_Me) (a : List Value) (k : ev_S → Option ev_R), ev_cV (cf Mc a σ) k = some r → ev_cV (cf' Mc a σ) k = some r := by
    intro Mc a k h
    cases hc : cf Mc a σ with
    | none => rw [hc] at h; cases h
    | some z => rw [hcf _ _ _ _ hc]; rw [hc] at h; exact h
  have hb : ∀ {b : Bool} {x y x' y' : Option ev_R}, (x = some r → x' = some r) → (y = some r → y' = some r) → (bif b then x else y) = some r → (bif b then x' else y') = some r := by
    intro b x y x' y' h1 h2 h
    cases b
    · exact h2 h
    · exact h1 h
  have hrc : ∀ {b : Bool} {n ci : Nat} {a : List Value} {x x' : Option ev_R}, (x = some r → x' = some r) → ev_rc b n ci a x = some r → ev_rc b n ci a x' = some r := by
    intro b n ci a x x' h1 h
    unfold ev_rc at h ⊢
    cases b
    · exact h1 h
    · simp only [cond_true] at h ⊢
      split at h
      · exact hb h1 id h
      · cases h
  unfold ev_inv at h ⊢
  split at h
  · cases h
  · rename_i kind n ci Mc hlk
    refine hb id (hb id (hb id (hb id (hb (hrc fun h => ?_) id)))) h
    split at h
    · exact hV _ _ _ h
    · exact hL _ _ _ h
    · exact hI _ _ _ h
    · exact hI _ _ _ h
    · exact hI _ _ _ h
    · exact hI _ _ _ h
    · cases h
set_option maxHeartbeats 4000000 in
theorem ev_exe_cf {sd : Bool} {cf cf' : ev_Me → List Value → ev_S → Option ev_R} (hcf : ∀ M args σ r, cf M args σ = some r → cf' M args σ = some r) {M : ev_Me} {K : ev_K} {i : Instr} {pc : Nat} {ls st : List Value} {σ : ev_S} {r : ev_R} (h : ev_exe sd cf M K i pc ls st σ = some r) : ev_exe sd cf' M K i pc ls st σ = some r := by
  unfold ev_exe at h ⊢
  split at h
  · exact h
  split at h
  · exact h
  split at h
  · exact h
  split at h
  · exact h
  split at h
  · exact h
  split at h
  · exact h
  split at h
  · exact h
  split at h
  · exact ev_inv_cf hcf h
  · exact ev_inv_cf hcf h
  · exact ev_inv_cf hcf h
  all_goals exact h
theorem ev_seg_cf {sd : Bool} {cf cf' : ev_Me → List Value → ev_S → Option ev_R} (hcf : ∀ M args σ r, cf M args σ = some r → cf' M args σ = some r) {M : ev_Me} {B B' : ev_K} {r : ev_R} (hB : ∀ pc ls st σ, B pc ls st σ = some r → B' pc ls st σ = some r) : ∀ (k pc : Nat) (ls st : List Value) (σ : ev_S), ev_seg sd cf M B k pc ls st σ = some r → ev_seg sd cf' M B' k pc ls st σ = some r
  | 0, _, _, _, _, h => by simp [ev_seg] at h
  | k + 1, pc, ls, st, σ, h => by
    simp only [ev_seg] at h ⊢
    cases hl : ev_lk M.2.2.2.2.2.1 pc with
    | none => simp [hl] at h
    | some x =>
      obtain ⟨i, n⟩ := x
      simp only [hl] at h ⊢
      have h' := ev_exe_cf hcf h
      rcases ev_exe_tail sd cf' M i pc ls st σ _ r h' with h1 | ⟨p2, l2, s2, g2, h1, h2⟩
      · exact h1 _
      · refine (h2 _).trans ?_
        cases hc : ev_lk M.2.2.2.2.2.2 p2 with
        | some dead =>
          rw [hc] at h1
          simp only [hc]
          exact hB _ _ _ _ h1
        | none =>
          rw [hc] at h1
          simp only [hc]
          exact ev_seg_cf hcf hB k p2 l2 s2 g2 h1
theorem ev_run_cf {sd : Bool} {cf cf' : ev_Me → List Value → ev_S → Option ev_R} (hcf : ∀ M args σ r, cf M args σ = some r → cf' M args σ = some r) {M : ev_Me} {r : ev_R} : ∀ (f pc : Nat) (ls st : List Value) (σ : ev_S), ev_run sd cf M f pc ls st σ = some r → ev_run sd cf' M f pc ls st σ = some r
  | 0, _, _, _, _, h => by simp [ev_run] at h
  | f + 1, pc, ls, st, σ, h => by
    rw [ev_run] at h ⊢
    exact ev_seg_cf hcf (ev_run_cf hcf f) 1000 pc ls st σ h
def ev_cr (sd : Bool) (f : Nat) : Nat → ev_Me → List Value → ev_S → Option ev_R
  | 0, _, _, _ => none
  | d + 1, M, args, σ => bif Nat.ble (ev_words args) M.2.2.1 then ev_run sd (ev_cr sd f d) M f 0 (ev_ent args M.2.2.1) [] σ else none
theorem ev_cr_ok {sd : Bool} {f : Nat} : ∀ (d : Nat) (M : ev_Me) (args : List Value) (σ : ev_S) (r : ev_R), ev_cr sd f d M args σ = some r → ev_call sd d M args σ = some r
  | 0, _, _, _, _, h => by simp [ev_cr] at h
  | d + 1, M, args, σ, r, h => by
    simp only [ev_cr] at h
    simp only [ev_call]
    cases hw : Nat.ble (ev_words args) M.2.2.1 with
    | false => rw [hw] at h; cases h
    | true =>
      rw [hw] at h
      exact ev_lim_iff.mpr ⟨f, ev_run_cf (ev_cr_ok d) f _ _ _ _ h⟩
/-- the ints once all is made -/
def ev_I0L : List (List (Nat × Int32)) := [[], [], [], [], [], [], [], [], [], [], [], [], [], [], [], [], [], [], [], [(0, 5), (1, 5), (2, 5), (3, 5), (4, 5), (5, 5), (6, 5), (7, 5)], [], [], [], [(0, 5), (1, 5), (2, 5), (3, 5), (4, 5), (5, 5), (6, 5), (7, 5)], [], [], [], [], [], [], [], [(0, 5), (1, 5), (2, 5), (3, 5), (4, 5), (5, 5), (6, 5), (7, 5)], [], [], [], [(0, 5), (1, 5), (2, 5), (3, 5), (4, 5), (5, 5), (6, 5), (7, 5)], [], [], [], [(0, 5), (1, 5), (2, 5), (3, 5), (4, 5), (5, 5), (6, 5), (7, 5)], [], [], [], [(0, 5), (1, 5), (2, 5), (3, 5), (4, 5), (5, 5), (6, 5), (7, 5)], [], [], [], [(0, 5), (1, 5), (2, 5), (3, 5), (4, 5), (5, 5), (6, 5), (7, 5)], [], [], [], [(0, 5), (1, 5), (2, 5), (3, 5), (4, 5), (5, 5), (6, 5), (7, 5)], [], [], [], [(0, 5), (1, 5), (2, 5), (3, 5), (4, 5), (5, 5), (6, 5), (7, 5)], [], [], [], [(0, 5), (1, 5), (2, 5), (3, 5), (4, 5), (5, 5), (6, 5), (7, 5)], [], [], [], [(0, 5), (1, 5), (2, 5), (3, 5), (4, 5), (5, 5), (6, 5), (7, 5)], [], [], [], [(0, 5), (1, 5), (2, 5), (3, 5), (4, 5), (5, 5), (6, 5), (7, 5)], [], [], [], [(0, 5), (1, 5), (2, 5), (3, 5), (4, 5), (5, 5), (6, 5), (7, 5)], [], [], [], [(0, 5), (1, 5), (2, 5), (3, 5), (4, 5), (5, 5), (6, 5), (7, 5)], [], [], [], [(0, 5), (1, 5), (2, 5), (3, 5), (4, 5), (5, 5), (6, 5), (7, 5)], [], [], [], [(0, 5), (1, 5), (2, 5), (3, 5), (4, 5), (5, 5), (6, 5), (7, 5)], [], [], [], [(0, 5), (1, 5), (2, 5), (3, 5), (4, 5), (5, 5), (6, 5), (7, 5)], [], [], [], [(0, 5), (1, 5), (2, 5), (3, 5), (4, 5), (5, 5), (6, 5), (7, 5)], [], [], [], [(0, 5), (1, 5), (2, 5), (3, 5), (4, 5), (5, 5), (6, 5), (7, 5)], [], [], [], [(0, 5), (1, 5), (2, 5), (3, 5), (4, 5), (5, 5), (6, 5), (7, 5)], [], [(1, 7), (6, 1)], [(0, (-1)), (1, (-2)), (2, 2), (3, (-42)), (4, (-45)), (5, 3), (6, (-45))], [(0, 45), (1, 42)], [], [], [], [], [], [], [], [], [], [], [], [], [], [], [], [], [], [], [], [], [], [], [], [], [], [], [], [], [], [], [], [], [], [], [], [], [], [], [], [(8, 5), (9, 5), (10, 5), (11, 5), (12, 5), (13, 5), (14, 5), (15, 5)], [], [], [], [], [], [], [], [], [], [], [], [], [], [], [], [], [], [], [], [], [], [], [], [], [], [], [], [], [], [], []]
def ev_I0 : Nat → Nat → Int32 := fun k j => (ev_lk ((ev_nth ev_I0L k).getD []) j).getD 0
def ev_L0 : Nat → Nat → Int64 := fun _ _ => 0
def ev_sz (k : Nat) : Nat := match ev_lay k with
  | (0, ci) => (ev_cl ci).2.2
  | (_, n) => n
def ev_s00 : ev_S := ((1, true, 1, 18), (fun _ _ => 0), (fun _ _ => 0), (fun _ _ => none))
def ev_st1 : Option ev_R := ev_cr false 100 12 M_SL_init [.ref 0] ev_s00
def ev_st2 : Option ev_R := match ev_st1 with
  | some (some none, σ) => ev_cr false 100 12 M_Mo_init [.ref 139] (ev_more σ 49)
  | _ => none
def ev_st3 : Option ev_S := match ev_st2 with
  | some (some none, σ) => some (ev_more σ 1)
  | _ => none
def ev_isI (k j : Nat) : Bool := match ev_lay k with
  | (0, ci) => !ev_isr ci j
  | (1, _) => true
  | (3, _) => true
  | (4, _) => true
  | _ => false
def ev_isL (k : Nat) : Bool := match ev_lay k with
  | (2, _) => true
  | _ => false
/-- two stores say the same of the cells that there are, place by place -/
def ev_asB (σ : ev_S) (I : Nat → Nat → Int32) (L : Nat → Nat → Int64) (Rf : Nat → Nat → Option Nat) : Bool := (List.range σ.1.1).all fun k => (List.range (ev_sz k)).all fun j => bif ev_isI k j then decide (σ.2.1 k j = I k j) else bif ev_isL k then decide (σ.2.2.1 k j = L k j) else decide (σ.2.2.2 k j = Rf k j)
theorem ev_st3_ok : (match ev_st3 with
  | some σ => Nat.beq σ.1.1 175 && σ.1.2.1 && ev_asB σ ev_I0 ev_L0 ev_R0
  | none => false) = true := by decide +kernel
