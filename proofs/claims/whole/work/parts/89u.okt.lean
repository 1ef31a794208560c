/-! What a reader reads can be worked out. -/
theorem rdp_cg {T T' : Nat → Nat} : ∀ {i : Nat}, (∀ j, j < i → T j = T' j) → rdp T i = rdp T' i
  | 0, _ => rfl
  | i + 1, h => by rw [rdp, rdp, rdp_cg (fun j hj => h j (by omega)), h i (by omega)]
def okU (ts : List Nat) (k : Nat) : Prop := rdp (fun j => ts.getD j 0) ts.length = k ∧ ∀ i, i < ts.length → ts.getD i 0 < 1000 ∨ (1000 ≤ ts.getD i 0 ∧ ts.getD i 0 < 1007) ∨ (2000 ≤ ts.getD i 0 ∧ ts.getD i 0 < 2007 ∧ 2 ≤ rdp (fun j => ts.getD j 0) i) ∨ (ts.getD i 0 = 3000 ∧ 1 ≤ rdp (fun j => ts.getD j 0) i)
theorem gd_l {ts : List Nat} {t i : Nat} (hi : i < ts.length) : (ts ++ [t]).getD i 0 = ts.getD i 0 := by simp [List.getD, List.getElem?_append_left hi]
theorem gd_r {ts : List Nat} {t : Nat} : (ts ++ [t]).getD ts.length 0 = t := by simp [List.getD]
theorem rdp_ap {ts : List Nat} {t i : Nat} (hi : i ≤ ts.length) : rdp (fun j => (ts ++ [t]).getD j 0) i = rdp (fun j => ts.getD j 0) i := rdp_cg (fun j hj => gd_l (by omega))
theorem okU.ap {ts : List Nat} {t k k' : Nat} (hu : okU ts k) (hk : (if t < 2000 then k + 1 else if t = 3000 then k else k - 1) = k') (ht : t < 1000 ∨ (1000 ≤ t ∧ t < 1007) ∨ (2000 ≤ t ∧ t < 2007 ∧ 2 ≤ k) ∨ (t = 3000 ∧ 1 ≤ k)) : okU (ts ++ [t]) k' := by
  have hl : (ts ++ [t]).length = ts.length + 1 := by simp
  refine ⟨?_, fun i hi => ?_⟩
  · rw [hl, rdp, gd_r, rdp_ap (Nat.le_refl _), hu.1]; exact hk
  · rw [hl] at hi
    by_cases z : i = ts.length
    · rw [z, gd_r, rdp_ap (Nat.le_refl _), hu.1]; exact ht
    · rw [gd_l (show i < ts.length by omega), rdp_ap (by omega)]
      exact hu.2 i (by omega)
theorem opT_lt : ∀ r, r < 3 → ∀ k, k < (opR r).length → 2000 ≤ opB r + k ∧ opB r + k < 2007 := by decide
theorem pr_ok (tx : Nat → Nat) (e : Nat) : ∀ f, (∀ w dep p ts k, w ≤ 3 → okU ts k → (pr tx e f w dep p ts).1 = true → okU (pr tx e f w dep p ts).2.2 (k + 1)) ∧ (∀ r dep p ts k, r < 3 → okU ts (k + 1) → (pr tx e f (4 + r) dep p ts).1 = true → okU (pr tx e f (4 + r) dep p ts).2.2 (k + 1)) := by
  intro f
  induction f with
  | zero => exact ⟨fun w dep p ts k _ _ z => (by cases z), fun r dep p ts k _ _ z => (by cases z)⟩
  | succ f ih =>
    obtain ⟨iA, iB⟩ := ih
    refine ⟨fun w dep p ts k hw hu => ?_, fun r dep p ts k hr hu => ?_⟩
    · rw [pr]
      by_cases h3 : w < 3
      · rw [if_pos h3]
        split
        · rename_i z
          exact fun y => iB w dep _ _ k h3 (iA (w + 1) dep p ts k (by omega) hu z) y
        · rename_i z
          exact fun y => absurd y z
      · have hw3 : w = 3 := by omega
        rw [if_neg h3, if_pos hw3]
        split
        · intro y
          exact (iA 3 dep (p + 1) ts k (by omega) hu y).ap (by rw [if_neg (by omega), if_pos rfl]) (by omega)
        · split
          · intro _
            have := vDg_1000 (tx := tx) (e := e) (p := p)
            exact hu.ap (by rw [if_pos (by omega)]) (by omega)
          · split
            · rename_i k' hk
              intro _
              have hk7 : k' < 7 := by
                by_cases y : p < e
                · rw [if_pos y] at hk; exact ix0_lt hk
                · rw [if_neg y] at hk; cases hk
              exact hu.ap (by rw [if_pos (by omega)]) (by omega)
            · split
              · exact fun z => (by cases z)
              · split
                · split
                  · rename_i z
                    split
                    · exact fun _ => iA 0 (dep + 1) (p + 1) ts k (by omega) hu z
                    · exact fun y => (by cases y)
                  · rename_i z
                    exact fun y => absurd y z
                · exact fun z => (by cases z)
    · rw [pr, if_neg (show ¬ 4 + r < 3 by omega), if_neg (show ¬ 4 + r = 3 by omega), show 4 + r - 4 = r by omega]
      split
      · exact fun _ => hu
      · rename_i k' hk
        have hkl : k' < (opR r).length := by
          by_cases y : p < e
          · rw [if_pos y] at hk; exact (fs_some hk).1
          · rw [if_neg y] at hk; cases hk
        have h7 := opT_lt r hr k' hkl
        split
        · rename_i z
          have a := iA (r + 1) dep (p + 1) ts (k + 1) (by omega) hu z
          have b : okU ((pr tx e f (r + 1) dep (p + 1) ts).2.2 ++ [opB r + k']) (k + 1) := a.ap (by rw [if_neg (by omega), if_neg (by omega)]; rfl) (by omega)
          split
          · exact fun y => iB r dep _ _ k hr b y
          · exact fun _ => b
        · rename_i z
          exact fun y => absurd y z
/-- the tokens of a text without fault can be worked out -/
theorem rlL_ok {t : Nat × (Nat → Nat)} (hv : rlV t = 0) : okT (fun j => (rlL t).getD j 0) (rlL t).length := by
  unfold rlL
  by_cases z : t.1 = 0
  · rw [if_pos z]
    refine ⟨by decide, by decide, ?_⟩
    show ∀ k, k < 7 → _
    decide
  · rw [if_neg z]
    have hq : rlQ t = pr t.2 (min 40 t.1) 400 0 0 0 [] := if_neg z
    have g := pr_go t.2 (min 40 t.1) 400 0 0 0 [] (Nat.zero_le _)
    rw [← hq] at g
    have hb : (rlQ t).1 = true := by
      have hnz : ∀ P, P < 41 → ¬ ((-1 : Int32) - nI P = 0) := by decide +kernel
      unfold rlV at hv
      split at hv
      · exact absurd hv (hnz 40 (by omega))
      · split at hv
        · rename_i y
          rw [Bool.and_eq_true] at y; exact y.1
        · exact absurd hv (hnz _ (by omega))
    have u := (pr_ok t.2 (min 40 t.1) 400).1 0 0 0 [] 0 (by omega) ⟨rfl, fun i hi => absurd hi (Nat.not_lt_zero _)⟩ (by rw [← hq]; exact hb)
    rw [← hq] at u
    refine ⟨?_, u.1, u.2⟩
    have := g.2.2.1
    have h0 : ([] : List Nat).length = 0 := rfl
    omega
