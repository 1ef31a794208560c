/-! The store only grows. -/
def ev_mn (sd : Bool) (σ : ev_S) (F : ev_K → Option ev_R) : Prop := ∀ (K : ev_K) (r : ev_R), F K = some r → ev_le sd σ r.2 ∨ ∃ pc ls st σ', K pc ls st σ' = some r ∧ ev_le sd σ σ'
section EVMN
variable {sd : Bool} {σ : ev_S}
theorem ev_mn_none : ev_mn sd σ (fun _ => none) := fun _ _ h => by cases h
theorem ev_mn_some {x : Option (Option Value)} {σ' : ev_S} (hl : ev_le sd σ σ') : ev_mn sd σ (fun _ => some (x, σ')) := fun _ _ h => Or.inl (by cases h; exact hl)
theorem ev_mn_K {pc : Nat} {ls st : List Value} {σ' : ev_S} (hl : ev_le sd σ σ') : ev_mn sd σ (fun K => K pc ls st σ') := fun _ _ h => Or.inr ⟨_, _, _, _, h, hl⟩
theorem ev_mn_ite {c : Prop} [Decidable c] {F G : ev_K → Option ev_R} (hF : ev_mn sd σ F) (hG : ev_mn sd σ G) : ev_mn sd σ (fun K => if c then F K else G K) := by
  by_cases h : c
  · simp only [h, if_true]; exact hF
  · simp only [h, if_false]; exact hG
theorem ev_mn_bif {b : Bool} {F G : ev_K → Option ev_R} (hF : ev_mn sd σ F) (hG : ev_mn sd σ G) : ev_mn sd σ (fun K => bif b then F K else G K) := by
  cases b
  · exact hG
  · exact hF
theorem ev_mn_cI {o : Option ev_R} {F : Int32 → ev_S → ev_K → Option ev_R} (ho : ∀ r, o = some r → ev_le sd σ r.2) (h : ∀ x σ', ev_le sd σ σ' → ev_mn sd σ (F x σ')) : ev_mn sd σ (fun K => ev_cI o (fun x σ => F x σ K)) := by
  unfold ev_cI
  split
  · exact h _ _ (ho _ rfl)
  · exact ev_mn_none
theorem ev_mn_cL {o : Option ev_R} {F : Int64 → ev_S → ev_K → Option ev_R} (ho : ∀ r, o = some r → ev_le sd σ r.2) (h : ∀ x σ', ev_le sd σ σ' → ev_mn sd σ (F x σ')) : ev_mn sd σ (fun K => ev_cL o (fun x σ => F x σ K)) := by
  unfold ev_cL
  split
  · exact h _ _ (ho _ rfl)
  · exact ev_mn_none
theorem ev_mn_cV {o : Option ev_R} {F : ev_S → ev_K → Option ev_R} (ho : ∀ r, o = some r → ev_le sd σ r.2) (h : ∀ σ', ev_le sd σ σ' → ev_mn sd σ (F σ')) : ev_mn sd σ (fun K => ev_cV o (fun σ => F σ K)) := by
  unfold ev_cV
  split
  · exact h _ (ho _ rfl)
  · exact ev_mn_none
theorem ev_mn_rc {b : Bool} {n ci : Nat} {args : List Value} {F : ev_K → Option ev_R} (h : ev_mn sd σ F) : ev_mn sd σ (fun K => ev_rc b n ci args (F K)) := by
  unfold ev_rc
  repeat' (first | exact ev_mn_none | exact h | apply ev_mn_bif | split)
theorem ev_mn_aI {v : Value} {x : Int32} {F : Int32 → ev_K → Option ev_R} {τ : ev_S} (h : ∀ x, ev_mn sd σ (F x)) : ev_mn sd σ (fun K => ev_aI τ v x (fun y => F y K)) := by
  unfold ev_aI
  repeat' (first | exact ev_mn_none | exact h _ | apply ev_mn_ite | split)
theorem ev_mn_sI {v : Value} {x y : Int32} {F : (Nat → Nat → Int32) → ev_K → Option ev_R} {τ : ev_S} (h : ∀ x, ev_mn sd σ (F x)) : ev_mn sd σ (fun K => ev_sI τ v x y (fun y => F y K)) := by
  unfold ev_sI
  repeat' (first | exact ev_mn_none | exact h _ | apply ev_mn_ite | split)
theorem ev_mn_sk1 : ∀ (ls : List Value) (n : Nat) (v : Value) (F : List Value → ev_K → Option ev_R) (_ : ∀ l, ev_mn sd σ (F l)), ev_mn sd σ (fun K => ev_sk1 ls n v (fun l => F l K))
  | [], _, _, _, _ => ev_mn_none
  | _ :: _, 0, _, _, h => h _
  | a :: t, 1, v, F, h => by
    exact ev_mn_sk1 t 0 v (fun t' K => bif Nat.beq a.category 2 then F (ev_U :: t') K else F (a :: t') K) (fun l => ev_mn_bif (h _) (h _))
  | a :: t, n + 2, v, F, h => ev_mn_sk1 t (n + 1) v (fun t' => F (a :: t')) (fun l => h _)
theorem ev_mn_sk2 : ∀ (ls : List Value) (n : Nat) (v : Value) (F : List Value → ev_K → Option ev_R) (_ : ∀ l, ev_mn sd σ (F l)), ev_mn sd σ (fun K => ev_sk2 ls n v (fun l => F l K))
  | [], _, _, _, _ => by simp only [ev_sk2]; exact ev_mn_none
  | [_], 0, _, _, _ => ev_mn_none
  | _ :: _ :: _, 0, _, _, h => h _
  | a :: t, 1, v, F, h => by
    simp only [ev_sk2]
    exact ev_mn_sk2 t 0 v (fun t' K => bif Nat.beq a.category 2 then F (ev_U :: t') K else F (a :: t') K) (fun l => ev_mn_bif (h _) (h _))
  | a :: t, n + 2, v, F, h => by
    simp only [ev_sk2]
    exact ev_mn_sk2 t (n + 1) v (fun t' => F (a :: t')) (fun l => h _)
theorem ev_mn_tsw (dflt lo hi : Int) (offs : Array Int) (pc : Nat) (x : Int32) (ls st : List Value) : ∀ n, ev_mn sd σ (fun K => ev_tsw dflt lo hi offs pc x (fun p => K p ls st σ) n)
  | 0 => ev_mn_K ev_le.rf
  | n + 1 => ev_mn_ite (ev_mn_K ev_le.rf) (ev_mn_tsw dflt lo hi offs pc x ls st n)
theorem ev_mn_lsw (dflt : Int) (pc : Nat) (x : Int32) (ls st : List Value) : ∀ l, ev_mn sd σ (fun K => ev_lsw dflt pc x (fun p => K p ls st σ) l)
  | [] => ev_mn_K ev_le.rf
  | (_, _) :: t => ev_mn_ite (ev_mn_K ev_le.rf) (ev_mn_lsw dflt pc x ls st t)
theorem ev_fx_le {σ' : ev_S} (h : ev_le sd σ σ') : ev_le sd σ (ev_fx sd σ σ') := by
  cases sd with
  | false => exact h
  | true => exact ⟨h.1, h.2.1, fun _ => ⟨rfl, rfl⟩⟩
theorem ev_moreN_le (b : Nat) : ∀ (a : Nat) (τ : ev_S), ev_c τ ≤ ev_c (ev_moreN b a τ) ∧ ev_s τ ≤ ev_s (ev_moreN b a τ)
  | 0, _ => ⟨Nat.le_refl _, Nat.le_refl _⟩
  | a + 1, τ => by
    obtain ⟨h1, h2⟩ := ev_moreN_le b a τ
    exact ⟨Nat.le_trans h1 (Nat.le_succ _), Nat.le_trans h2 (Nat.le_add_right _ _)⟩
theorem ev_more_le {n : Nat} : ev_le false σ (ev_more σ n) := ⟨Nat.le_succ _, Nat.le_add_right _ _, fun h => by cases h⟩
set_option maxHeartbeats 4000000 in
theorem ev_inv_mn {cf : ev_Me → List Value → ev_S → Option ev_R} (hcf : ∀ Mc args τ r', cf Mc args τ = some r' → ev_le sd τ r'.2) (M : ev_Me) (v s t : Bool) (idx pc : Nat) (ls st : List Value) : ev_mn sd σ (fun K => ev_inv sd cf M K v s t idx pc ls st σ) := by
  unfold ev_inv
  repeat' (first | exact ev_mn_none | exact ev_mn_K ev_le.rf | exact ev_mn_K ⟨Nat.le_refl _, Nat.le_refl _, fun _ => ⟨rfl, rfl⟩⟩ | exact ev_mn_cI (hcf _ _ _) (fun _ _ h => ev_mn_K (ev_fx_le h)) | exact ev_mn_cL (hcf _ _ _) (fun _ _ h => ev_mn_K (ev_fx_le h)) | exact ev_mn_cV (hcf _ _ _) (fun _ h => ev_mn_K (ev_fx_le h)) | apply ev_mn_bif | apply ev_mn_ite | apply ev_mn_rc | (split <;> try exact ev_mn_none) | intro _)
set_option maxHeartbeats 4000000 in
theorem ev_rd_mn (M : ev_Me) (i : Instr) (pc : Nat) (ls st : List Value) : ev_mn sd σ (fun K => ev_rd M K i pc ls st σ) := by
  unfold ev_rd
  repeat' (first | exact ev_mn_none | exact ev_mn_K ev_le.rf | exact ev_mn_aI (fun _ => ev_mn_K ev_le.rf) | apply ev_mn_bif | apply ev_mn_ite | (split <;> try exact ev_mn_none))
set_option maxHeartbeats 4000000 in
theorem ev_wr_mn (M : ev_Me) (i : Instr) (pc : Nat) (ls st : List Value) : ev_mn sd σ (fun K => ev_wr sd M K i pc ls st σ) := by
  unfold ev_wr
  cases sd with
  | true =>
    simp only [Bool.not_true, Bool.false_and, cond_false]
    repeat' (first | exact ev_mn_none | exact ev_mn_K ⟨Nat.le_refl _, Nat.le_refl _, fun _ => ⟨rfl, rfl⟩⟩ | exact ev_mn_sI (fun _ => ev_mn_K ⟨Nat.le_refl _, Nat.le_refl _, fun _ => ⟨rfl, rfl⟩⟩) | exact ev_mn_some ⟨Nat.le_succ _, Nat.le_add_right _ _, fun _ => ⟨rfl, rfl⟩⟩ | apply ev_mn_bif | apply ev_mn_ite | (split <;> try exact ev_mn_none))
  | false =>
    repeat' (first | exact ev_mn_none | exact ev_mn_K ⟨Nat.le_refl _, Nat.le_refl _, fun h => by cases h⟩ | exact ev_mn_K ev_more_le | exact ev_mn_K ⟨Nat.le_trans ev_more_le.1 (ev_moreN_le _ _ _).1, Nat.le_trans ev_more_le.2.1 (ev_moreN_le _ _ _).2, fun h => by cases h⟩ | exact ev_mn_sI (fun _ => ev_mn_K ⟨Nat.le_refl _, Nat.le_refl _, fun h => by cases h⟩) | exact ev_mn_some ⟨Nat.le_succ _, Nat.le_add_right _ _, fun h => by cases h⟩ | apply ev_mn_bif | apply ev_mn_ite | (split <;> try exact ev_mn_none))
set_option maxHeartbeats 4000000 in
theorem ev_pl_mn (M : ev_Me) (i : Instr) (pc : Nat) (ls st : List Value) : ev_mn sd σ (fun K => ev_pl M K i pc ls st σ) := by
  unfold ev_pl
  repeat' (first | exact ev_mn_none | exact ev_mn_K ev_le.rf | exact ev_mn_some ev_le.rf | exact ev_mn_tsw _ _ _ _ _ _ _ _ _ | exact ev_mn_lsw _ _ _ _ _ _ | exact ev_mn_sk1 _ _ _ (fun ls' K => K _ ls' _ _) (fun _ => ev_mn_K ev_le.rf) | apply ev_mn_bif | apply ev_mn_ite | (split <;> try exact ev_mn_none))
set_option maxHeartbeats 4000000 in
theorem ev_exe_mn {cf : ev_Me → List Value → ev_S → Option ev_R} (hcf : ∀ Mc args τ r', cf Mc args τ = some r' → ev_le sd τ r'.2) (M : ev_Me) (i : Instr) (pc : Nat) (ls st : List Value) : ev_mn sd σ (fun K => ev_exe sd cf M K i pc ls st σ) := by
  unfold ev_exe
  repeat' (first | exact ev_mn_none | exact ev_mn_K ev_le.rf | exact ev_inv_mn hcf _ _ _ _ _ _ _ _ | exact ev_mn_sk1 _ _ _ (fun ls' K => K _ ls' _ _) (fun _ => ev_mn_K ev_le.rf) | exact ev_mn_sk2 _ _ _ (fun ls' K => K _ ls' _ _) (fun _ => ev_mn_K ev_le.rf) | exact ev_rd_mn _ _ _ _ _ | exact ev_wr_mn _ _ _ _ _ | exact ev_pl_mn _ _ _ _ _ | apply ev_mn_bif | (split <;> try exact ev_mn_none))
theorem ev_seg_mn {cf : ev_Me → List Value → ev_S → Option ev_R} (hcf : ∀ Mc args τ r', cf Mc args τ = some r' → ev_le sd τ r'.2) (M : ev_Me) : ∀ (k pc : Nat) (ls st : List Value) (σ : ev_S), ev_mn sd σ (fun K => ev_seg sd cf M K k pc ls st σ)
  | 0, _, _, _, _ => ev_mn_none
  | k + 1, pc, ls, st, σ => by
    intro K r h
    simp only [ev_seg] at h
    cases hl : ev_lk M.2.2.2.2.2.1 pc with
    | none => simp [hl] at h
    | some x =>
      obtain ⟨i, n⟩ := x
      simp only [hl] at h
      rcases ev_exe_mn hcf M i pc ls st _ r h with h1 | ⟨p2, l2, s2, g2, h1, h2⟩
      · exact Or.inl h1
      · cases hc : ev_lk M.2.2.2.2.2.2 p2 with
        | some dead =>
          rw [hc] at h1
          exact Or.inr ⟨p2, _, s2, g2, h1, h2⟩
        | none =>
          rw [hc] at h1
          rcases ev_seg_mn hcf M k p2 l2 s2 g2 K r h1 with h3 | ⟨p3, l3, s3, g3, h3, h4⟩
          · exact Or.inl (h2.tr h3)
          · exact Or.inr ⟨p3, l3, s3, g3, h3, h2.tr h4⟩
theorem ev_run_mn {cf : ev_Me → List Value → ev_S → Option ev_R} (hcf : ∀ Mc args τ r', cf Mc args τ = some r' → ev_le sd τ r'.2) (M : ev_Me) : ∀ (f pc : Nat) (ls st : List Value) (σ : ev_S) (r : ev_R), ev_run sd cf M f pc ls st σ = some r → ev_le sd σ r.2
  | 0, _, _, _, _, _, h => by simp [ev_run] at h
  | f + 1, pc, ls, st, σ, r, h => by
    rw [ev_run] at h
    rcases ev_seg_mn hcf M 1000 pc ls st σ _ r h with h1 | ⟨p2, l2, s2, g2, h1, h2⟩
    · exact h1
    · exact h2.tr (ev_run_mn hcf M f p2 l2 s2 g2 r h1)
theorem ev_call_mn : ∀ (d : Nat) (M : ev_Me) (args : List Value) (τ : ev_S) (r : ev_R), ev_call sd d M args τ = some r → ev_le sd τ r.2
  | 0, _, _, _, _, h => by simp [ev_call] at h
  | d + 1, M, args, τ, r, h => by
    simp only [ev_call] at h
    cases hw : Nat.ble (ev_words args) M.2.2.1 with
    | false => rw [hw] at h; cases h
    | true =>
      rw [hw] at h
      obtain ⟨f, hf⟩ := ev_lim_iff.mp h
      exact ev_run_mn (ev_call_mn d) M f _ _ _ _ _ hf
end EVMN
