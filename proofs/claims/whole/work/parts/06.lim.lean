/-- one instruction goes on in one place at most -/
def ev_tail (F : ev_K → Option ev_R) : Prop := ∀ (K : ev_K) (r : ev_R), F K = some r → (∀ K', F K' = some r) ∨ ∃ pc ls st σ, K pc ls st σ = some r ∧ ∀ K', F K' = K' pc ls st σ
theorem ev_tail_none : ev_tail (fun _ => none) := fun _ _ h => by cases h
theorem ev_tail_some (x : Option ev_R) : ev_tail (fun _ => x) := fun _ _ h => Or.inl fun _ => h
theorem ev_tail_K (pc : Nat) (ls st : List Value) (σ : ev_S) : ev_tail (fun K => K pc ls st σ) := fun _ _ h => Or.inr ⟨_, _, _, _, h, fun _ => rfl⟩
theorem ev_tail_ite {c : Prop} [Decidable c] {F G : ev_K → Option ev_R} (hF : ev_tail F) (hG : ev_tail G) : ev_tail (fun K => if c then F K else G K) := by
  by_cases h : c
  · simp only [h, if_true]; exact hF
  · simp only [h, if_false]; exact hG
theorem ev_tail_bif {b : Bool} {F G : ev_K → Option ev_R} (hF : ev_tail F) (hG : ev_tail G) : ev_tail (fun K => bif b then F K else G K) := by
  cases b
  · exact hG
  · exact hF
theorem ev_tail_cI {o : Option ev_R} {F : Int32 → ev_S → ev_K → Option ev_R} (h : ∀ x σ, ev_tail (F x σ)) : ev_tail (fun K => ev_cI o (fun x σ => F x σ K)) := by
  unfold ev_cI
  split
  · exact h _ _
  · exact ev_tail_none
theorem ev_tail_cL {o : Option ev_R} {F : Int64 → ev_S → ev_K → Option ev_R} (h : ∀ x σ, ev_tail (F x σ)) : ev_tail (fun K => ev_cL o (fun x σ => F x σ K)) := by
  unfold ev_cL
  split
  · exact h _ _
  · exact ev_tail_none
theorem ev_tail_cV {o : Option ev_R} {F : ev_S → ev_K → Option ev_R} (h : ∀ σ, ev_tail (F σ)) : ev_tail (fun K => ev_cV o (fun σ => F σ K)) := by
  unfold ev_cV
  split
  · exact h _
  · exact ev_tail_none
theorem ev_tail_rc {b : Bool} {n ci : Nat} {args : List Value} {F : ev_K → Option ev_R} (h : ev_tail F) : ev_tail (fun K => ev_rc b n ci args (F K)) := by
  unfold ev_rc
  repeat' (first | exact ev_tail_none | exact h | apply ev_tail_bif | split)
theorem ev_tail_aI {σ : ev_S} {v : Value} {x : Int32} {F : Int32 → ev_K → Option ev_R} (h : ∀ x, ev_tail (F x)) : ev_tail (fun K => ev_aI σ v x (fun y => F y K)) := by
  unfold ev_aI
  repeat' (first | exact ev_tail_none | exact h _ | apply ev_tail_ite | split)
theorem ev_tail_sI {σ : ev_S} {v : Value} {x y : Int32} {F : (Nat → Nat → Int32) → ev_K → Option ev_R} (h : ∀ x, ev_tail (F x)) : ev_tail (fun K => ev_sI σ v x y (fun y => F y K)) := by
  unfold ev_sI
  repeat' (first | exact ev_tail_none | exact h _ | apply ev_tail_ite | split)
theorem ev_tail_sk1 : ∀ (ls : List Value) (n : Nat) (v : Value) (F : List Value → ev_K → Option ev_R) (_ : ∀ l, ev_tail (F l)), ev_tail (fun K => ev_sk1 ls n v (fun l => F l K))
  | [], _, _, _, _ => ev_tail_none
  | _ :: _, 0, _, _, h => h _
  | a :: t, 1, v, F, h => by
    exact ev_tail_sk1 t 0 v (fun t' K => bif Nat.beq a.category 2 then F (ev_U :: t') K else F (a :: t') K) (fun l => ev_tail_bif (h _) (h _))
  | a :: t, n + 2, v, F, h => ev_tail_sk1 t (n + 1) v (fun t' => F (a :: t')) (fun l => h _)
theorem ev_tail_sk2 : ∀ (ls : List Value) (n : Nat) (v : Value) (F : List Value → ev_K → Option ev_R) (_ : ∀ l, ev_tail (F l)), ev_tail (fun K => ev_sk2 ls n v (fun l => F l K))
  | [], _, _, _, _ => by simp only [ev_sk2]; exact ev_tail_none
  | [_], 0, _, _, _ => ev_tail_none
  | _ :: _ :: _, 0, _, _, h => h _
  | a :: t, 1, v, F, h => by
    simp only [ev_sk2]
    exact ev_tail_sk2 t 0 v (fun t' K => bif Nat.beq a.category 2 then F (ev_U :: t') K else F (a :: t') K) (fun l => ev_tail_bif (h _) (h _))
  | a :: t, n + 2, v, F, h => by
    simp only [ev_sk2]
    exact ev_tail_sk2 t (n + 1) v (fun t' => F (a :: t')) (fun l => h _)
theorem ev_tail_tsw (dflt lo hi : Int) (offs : Array Int) (pc : Nat) (x : Int32) (ls st : List Value) (σ : ev_S) : ∀ n, ev_tail (fun K => ev_tsw dflt lo hi offs pc x (fun p => K p ls st σ) n)
  | 0 => ev_tail_K _ _ _ _
  | n + 1 => ev_tail_ite (ev_tail_K _ _ _ _) (ev_tail_tsw dflt lo hi offs pc x ls st σ n)
theorem ev_tail_lsw (dflt : Int) (pc : Nat) (x : Int32) (ls st : List Value) (σ : ev_S) : ∀ l, ev_tail (fun K => ev_lsw dflt pc x (fun p => K p ls st σ) l)
  | [] => ev_tail_K _ _ _ _
  | (_, _) :: t => ev_tail_ite (ev_tail_K _ _ _ _) (ev_tail_lsw dflt pc x ls st σ t)
set_option maxHeartbeats 4000000 in
theorem ev_inv_tail (sd : Bool) (cf : ev_Me → List Value → ev_S → Option ev_R) (M : ev_Me) (v s t : Bool) (idx pc : Nat) (ls st : List Value) (σ : ev_S) : ev_tail (fun K => ev_inv sd cf M K v s t idx pc ls st σ) := by
  unfold ev_inv
  repeat' (first | exact ev_tail_none | exact ev_tail_K _ _ _ _ | apply ev_tail_bif | apply ev_tail_ite | apply ev_tail_cI | apply ev_tail_cL | apply ev_tail_cV | apply ev_tail_rc | (split <;> try exact ev_tail_none) | intro _)
set_option maxHeartbeats 4000000 in
theorem ev_rd_tail (M : ev_Me) (i : Instr) (pc : Nat) (ls st : List Value) (σ : ev_S) : ev_tail (fun K => ev_rd M K i pc ls st σ) := by
  unfold ev_rd
  repeat' (first | exact ev_tail_none | exact ev_tail_K _ _ _ _ | exact ev_tail_aI (fun _ => ev_tail_K _ _ _ _) | apply ev_tail_bif | apply ev_tail_ite | (split <;> try exact ev_tail_none))
set_option maxHeartbeats 4000000 in
theorem ev_wr_tail (sd : Bool) (M : ev_Me) (i : Instr) (pc : Nat) (ls st : List Value) (σ : ev_S) : ev_tail (fun K => ev_wr sd M K i pc ls st σ) := by
  unfold ev_wr
  repeat' (first | exact ev_tail_none | exact ev_tail_K _ _ _ _ | exact ev_tail_sI (fun _ => ev_tail_K _ _ _ _) | exact ev_tail_some _ | apply ev_tail_bif | apply ev_tail_ite | (split <;> try exact ev_tail_none))
set_option maxHeartbeats 4000000 in
theorem ev_pl_tail (M : ev_Me) (i : Instr) (pc : Nat) (ls st : List Value) (σ : ev_S) : ev_tail (fun K => ev_pl M K i pc ls st σ) := by
  unfold ev_pl
  repeat' (first | exact ev_tail_none | exact ev_tail_K _ _ _ _ | exact ev_tail_some _ | exact ev_tail_tsw _ _ _ _ _ _ _ _ _ _ | exact ev_tail_lsw _ _ _ _ _ _ _ | exact ev_tail_sk1 _ _ _ (fun ls' K => K _ ls' _ _) (fun _ => ev_tail_K _ _ _ _) | apply ev_tail_bif | apply ev_tail_ite | (split <;> try exact ev_tail_none))
set_option maxHeartbeats 4000000 in
theorem ev_exe_tail (sd : Bool) (cf : ev_Me → List Value → ev_S → Option ev_R) (M : ev_Me) (i : Instr) (pc : Nat) (ls st : List Value) (σ : ev_S) : ev_tail (fun K => ev_exe sd cf M K i pc ls st σ) := by
  unfold ev_exe
  repeat' (first | exact ev_tail_none | exact ev_tail_K _ _ _ _ | exact ev_inv_tail _ _ _ _ _ _ _ _ _ _ _ | exact ev_tail_sk1 _ _ _ (fun ls' K => K _ ls' _ _) (fun _ => ev_tail_K _ _ _ _) | exact ev_tail_sk2 _ _ _ (fun ls' K => K _ ls' _ _) (fun _ => ev_tail_K _ _ _ _) | exact ev_rd_tail _ _ _ _ _ _ | exact ev_wr_tail _ _ _ _ _ _ _ | exact ev_pl_tail _ _ _ _ _ _ | apply ev_tail_bif | (split <;> try exact ev_tail_none))
theorem ev_seg_tail (sd : Bool) (cf : ev_Me → List Value → ev_S → Option ev_R) (M : ev_Me) : ∀ (k pc : Nat) (ls st : List Value) (σ : ev_S), ev_tail (fun K => ev_seg sd cf M K k pc ls st σ)
  | 0, _, _, _, _ => ev_tail_none
  | k + 1, pc, ls, st, σ => by
    intro K r h
    simp only [ev_seg] at h ⊢
    cases hl : ev_lk M.2.2.2.2.2.1 pc with
    | none => simp [hl] at h
    | some x =>
      obtain ⟨i, n⟩ := x
      simp only [hl] at h ⊢
      rcases ev_exe_tail sd cf M i pc ls st σ _ r h with h1 | ⟨p2, l2, s2, g2, h1, h2⟩
      · exact Or.inl fun K' => h1 _
      · cases hc : ev_lk M.2.2.2.2.2.2 p2 with
        | some dead =>
          rw [hc] at h1
          exact Or.inr ⟨p2, _, s2, g2, h1, fun K' => (h2 _).trans (by rw [hc])⟩
        | none =>
          rw [hc] at h1
          rcases ev_seg_tail sd cf M k p2 l2 s2 g2 K r h1 with h3 | ⟨p3, l3, s3, g3, h3, h4⟩
          · exact Or.inl fun K' => (h2 _).trans (by rw [hc]; exact h3 K')
          · exact Or.inr ⟨p3, l3, s3, g3, h3, fun K' => (h2 _).trans (by rw [hc]; exact h4 K')⟩
theorem ev_run_mono (sd : Bool) (cf : ev_Me → List Value → ev_S → Option ev_R) (M : ev_Me) : ∀ (f pc : Nat) (ls st : List Value) (σ : ev_S) (r : ev_R), ev_run sd cf M f pc ls st σ = some r → ev_run sd cf M (f + 1) pc ls st σ = some r
  | 0, _, _, _, _, _, h => by simp [ev_run] at h
  | f + 1, pc, ls, st, σ, r, h => by
    rw [ev_run] at h ⊢
    rcases ev_seg_tail sd cf M 1000 pc ls st σ _ r h with h1 | ⟨p2, l2, s2, g2, h1, h2⟩
    · exact h1 _
    · exact (h2 (ev_run sd cf M (f + 1))).trans (ev_run_mono sd cf M f p2 l2 s2 g2 r h1)
theorem ev_run_le (sd : Bool) (cf : ev_Me → List Value → ev_S → Option ev_R) (M : ev_Me) {f g pc : Nat} {ls st : List Value} {σ : ev_S} {r : ev_R} (hfg : f ≤ g) (h : ev_run sd cf M f pc ls st σ = some r) : ev_run sd cf M g pc ls st σ = some r := by
  obtain ⟨k, rfl⟩ := Nat.exists_eq_add_of_le hfg
  clear hfg
  induction k with
  | zero => exact h
  | succ k ih => exact ev_run_mono sd cf M _ pc ls st σ r ih
theorem ev_lim_ex (sd : Bool) (cf : ev_Me → List Value → ev_S → Option ev_R) (M : ev_Me) (pc : Nat) (ls st : List Value) (σ : ev_S) : ∃ o : Option ev_R, ∀ r, o = some r ↔ ∃ f, ev_run sd cf M f pc ls st σ = some r := by
  by_cases h : ∃ r f, ev_run sd cf M f pc ls st σ = some r
  · obtain ⟨r, f, h⟩ := h
    refine ⟨some r, fun r2 => ⟨fun e => ⟨f, by rw [← e]; exact h⟩, fun ⟨g, hg⟩ => ?_⟩⟩
    have h1 := ev_run_le sd cf M (Nat.le_max_left f g) h
    have h2 := ev_run_le sd cf M (Nat.le_max_right f g) hg
    exact h1.symm.trans h2
  · exact ⟨none, fun r => ⟨fun e => (by cases e), fun ⟨f, hf⟩ => absurd ⟨r, f, hf⟩ h⟩⟩
/-- the evaluator without a count of loops -/
noncomputable def ev_lim (sd : Bool) (cf : ev_Me → List Value → ev_S → Option ev_R) (M : ev_Me) : ev_K := fun pc ls st σ => Classical.choose (ev_lim_ex sd cf M pc ls st σ)
theorem ev_lim_iff {sd : Bool} {cf : ev_Me → List Value → ev_S → Option ev_R} {M : ev_Me} {pc : Nat} {ls st : List Value} {σ : ev_S} {r : ev_R} : ev_lim sd cf M pc ls st σ = some r ↔ ∃ f, ev_run sd cf M f pc ls st σ = some r := Classical.choose_spec (ev_lim_ex sd cf M pc ls st σ) r
theorem ev_opt {α : Type} {a b : Option α} (h : ∀ r, a = some r ↔ b = some r) : a = b := by
  cases a with
  | none => cases b with
    | none => rfl
    | some y => exact absurd ((h y).mpr rfl) (by simp)
  | some x => exact ((h x).mp rfl).symm
/-- an equation for each place -/
theorem ev_eq (sd : Bool) (cf : ev_Me → List Value → ev_S → Option ev_R) (M : ev_Me) (pc : Nat) (ls st : List Value) (σ : ev_S) : ev_lim sd cf M pc ls st σ = ev_seg sd cf M (ev_lim sd cf M) 1000 pc ls st σ := by
  refine ev_opt fun r => ⟨fun h => ?_, fun h => ?_⟩
  · obtain ⟨f, hf⟩ := ev_lim_iff.mp h
    cases f with
    | zero => simp [ev_run] at hf
    | succ f =>
      rw [ev_run] at hf
      rcases ev_seg_tail sd cf M 1000 pc ls st σ _ r hf with h1 | ⟨p2, l2, s2, g2, h1, h2⟩
      · exact h1 _
      · exact (h2 (ev_lim sd cf M)).trans (ev_lim_iff.mpr ⟨f, h1⟩)
  · rcases ev_seg_tail sd cf M 1000 pc ls st σ _ r h with h1 | ⟨p2, l2, s2, g2, h1, h2⟩
    · exact ev_lim_iff.mpr ⟨1, by rw [ev_run]; exact h1 _⟩
    · obtain ⟨f, hf⟩ := ev_lim_iff.mp h1
      refine ev_lim_iff.mpr ⟨f + 1, ?_⟩
      rw [ev_run]
      exact (h2 (ev_run sd cf M f)).trans hf
/-- a call, at most d deep -/
noncomputable def ev_call (sd : Bool) : Nat → ev_Me → List Value → ev_S → Option ev_R
  | 0, _, _, _ => none
  | d + 1, M, args, σ => bif Nat.ble (ev_words args) M.2.2.1 then ev_lim sd (ev_call sd d) M 0 (ev_ent args M.2.2.1) [] σ else none
