/-! A rule read: what both do. -/
def opR (r : Nat) : List Nat := if r = 0 then str4 else if r = 1 then str5 else str6
def opB (r : Nat) : Nat := if r = 0 then 2000 else if r = 1 then 2003 else 2005
/-- digits from p on, at most 3 -/
def nDg (tx : Nat → Nat) (e p : Nat) : Nat := (fs (fun j => !(decide (p + j < e) && isDg (tx (p + j)))) 3).getD 3
def vDg (tx : Nat → Nat) (p : Nat) : Nat → Nat
  | 0 => 0
  | j + 1 => 10 * vDg tx p j + (tx (p + j) - 48)
/-- 0, 1, 2 a rank, 3 a thing, 4 + r what may follow in rank r; how deep, where, what was coded: whether it was read, where it ends, what is coded -/
def pr (tx : Nat → Nat) (e : Nat) : Nat → Nat → Nat → Nat → List Nat → Bool × Nat × List Nat
  | 0, _, _, p, ts => (false, p, ts)
  | f + 1, w, dep, p, ts =>
    if w < 3 then (if (pr tx e f (w + 1) dep p ts).1 = true then pr tx e f (4 + w) dep (pr tx e f (w + 1) dep p ts).2.1 (pr tx e f (w + 1) dep p ts).2.2 else pr tx e f (w + 1) dep p ts)
    else if w = 3 then
      (if (decide (p < e) && decide (tx p = 45)) = true then ((pr tx e f 3 dep (p + 1) ts).1, (pr tx e f 3 dep (p + 1) ts).2.1, (pr tx e f 3 dep (p + 1) ts).2.2 ++ [3000])
      else if (decide (p < e) && isDg (tx p)) = true then (true, p + nDg tx e p, ts ++ [vDg tx p (nDg tx e p)])
      else match (if p < e then ixO str0 (tx p) else none) with
        | some k => (true, p + 1, ts ++ [1000 + k])
        | none => if dep = 4 then (false, p, ts)
          else if (decide (p < e) && decide (tx p = 40)) = true then
            (if (pr tx e f 0 (dep + 1) (p + 1) ts).1 = true then (if (decide ((pr tx e f 0 (dep + 1) (p + 1) ts).2.1 < e) && decide (tx (pr tx e f 0 (dep + 1) (p + 1) ts).2.1 = 41)) = true then (true, (pr tx e f 0 (dep + 1) (p + 1) ts).2.1 + 1, (pr tx e f 0 (dep + 1) (p + 1) ts).2.2) else (false, (pr tx e f 0 (dep + 1) (p + 1) ts).2.1, (pr tx e f 0 (dep + 1) (p + 1) ts).2.2)) else pr tx e f 0 (dep + 1) (p + 1) ts)
          else (false, p, ts))
    else match (if p < e then ixO (opR (w - 4)) (tx p) else none) with
      | none => (true, p, ts)
      | some k => if (pr tx e f (w - 4 + 1) dep (p + 1) ts).1 = true then (if 4 < w then pr tx e f w dep (pr tx e f (w - 4 + 1) dep (p + 1) ts).2.1 ((pr tx e f (w - 4 + 1) dep (p + 1) ts).2.2 ++ [opB (w - 4) + k]) else (true, (pr tx e f (w - 4 + 1) dep (p + 1) ts).2.1, (pr tx e f (w - 4 + 1) dep (p + 1) ts).2.2 ++ [opB (w - 4) + k])) else pr tx e f (w - 4 + 1) dep (p + 1) ts
theorem nDg_le (tx : Nat → Nat) (e p : Nat) : nDg tx e p ≤ 3 := by
  unfold nDg
  cases hf : fs (fun j => !(decide (p + j < e) && isDg (tx (p + j)))) 3 with
  | none => exact Nat.le_refl _
  | some j => have := (fs_some hf).1; show j ≤ 3; omega
theorem nDg_in {tx : Nat → Nat} {e p j : Nat} (hj : j < nDg tx e p) : p + j < e ∧ isDg (tx (p + j)) = true := by
  have h0 : (fun j => !(decide (p + j < e) && isDg (tx (p + j)))) j = false := by
    unfold nDg at hj
    cases hf : fs (fun j => !(decide (p + j < e) && isDg (tx (p + j)))) 3 with
    | none => rw [hf] at hj; exact fs_none.mp hf j hj
    | some i => rw [hf] at hj; exact fs_none.mp (fs_before hf) j hj
  have h1 : (!(decide (p + j < e) && isDg (tx (p + j)))) = false := h0
  rw [Bool.not_eq_false', Bool.and_eq_true, decide_eq_true_iff] at h1
  exact h1
theorem nDg_out {tx : Nat → Nat} {e p : Nat} (h8 : nDg tx e p < 3) (he : p + nDg tx e p < e) : isDg (tx (p + nDg tx e p)) = false := by
  unfold nDg at h8 he ⊢
  cases hf : fs (fun j => !(decide (p + j < e) && isDg (tx (p + j)))) 3 with
  | none => rw [hf] at h8; exact absurd h8 (by decide)
  | some i =>
    rw [hf] at he
    have h1 := (fs_some hf).2
    have h2 : p + i < e := he
    show isDg (tx (p + i)) = false
    have h3 : (!(decide (p + i < e) && isDg (tx (p + i)))) = true := h1
    rw [decide_eq_true h2, Bool.true_and] at h3
    cases hb : isDg (tx (p + i)) with
    | false => rfl
    | true => rw [hb] at h3; cases h3
theorem nDg_1 {tx : Nat → Nat} {e p : Nat} (h : (decide (p < e) && isDg (tx p)) = true) : 1 ≤ nDg tx e p := by
  by_cases z : nDg tx e p = 0
  · exfalso
    rw [Bool.and_eq_true, decide_eq_true_iff] at h
    have := nDg_out (tx := tx) (e := e) (p := p) (by omega) (by omega)
    rw [z, Nat.add_zero, h.2] at this
    cases this
  · omega
theorem nDg_e {tx : Nat → Nat} {e p : Nat} (hp : p ≤ e) : p + nDg tx e p ≤ e := by
  by_cases h : nDg tx e p = 0
  · omega
  · have := (nDg_in (tx := tx) (e := e) (p := p) (j := nDg tx e p - 1) (by omega)).1
    omega
/-- it goes on, not beyond the end, and codes no more than it reads -/
theorem pr_go (tx : Nat → Nat) (e : Nat) : ∀ f w dep p ts, p ≤ e → p ≤ (pr tx e f w dep p ts).2.1 ∧ (pr tx e f w dep p ts).2.1 ≤ e ∧ (pr tx e f w dep p ts).2.2.length + p ≤ (pr tx e f w dep p ts).2.1 + ts.length ∧ (w < 4 → (pr tx e f w dep p ts).1 = true → p < (pr tx e f w dep p ts).2.1) := by
  intro f
  induction f with
  | zero => intro w dep p ts hp; exact ⟨Nat.le_refl _, hp, by show ts.length + p ≤ p + ts.length; omega, fun _ z => by cases z⟩
  | succ f ih =>
    intro w dep p ts hp
    rw [pr]
    by_cases hw : w < 3
    · rw [if_pos hw]
      have a := ih (w + 1) dep p ts hp
      split
      · rename_i z
        have b := ih (4 + w) dep _ (pr tx e f (w + 1) dep p ts).2.2 a.2.1
        have c := a.2.2.2 (by omega) z
        exact ⟨by omega, b.2.1, by omega, fun _ _ => by omega⟩
      · rename_i z
        exact ⟨a.1, a.2.1, a.2.2.1, fun _ y => absurd y z⟩
    · rw [if_neg hw]
      by_cases h3 : w = 3
      · rw [if_pos h3]
        split
        · rename_i z
          rw [Bool.and_eq_true, decide_eq_true_iff] at z
          have a := ih 3 dep (p + 1) ts (by omega)
          refine ⟨by show p ≤ (pr tx e f 3 dep (p + 1) ts).2.1; omega, a.2.1, ?_, fun _ _ => by show p < (pr tx e f 3 dep (p + 1) ts).2.1; omega⟩
          show ((pr tx e f 3 dep (p + 1) ts).2.2 ++ [3000]).length + p ≤ (pr tx e f 3 dep (p + 1) ts).2.1 + ts.length
          rw [List.length_append]
          show _ + 1 + p ≤ _
          omega
        · split
          · rename_i z
            have a := nDg_1 z
            have b := nDg_e (tx := tx) hp
            refine ⟨by show p ≤ p + nDg tx e p; omega, b, ?_, fun _ _ => by show p < p + nDg tx e p; omega⟩
            show (ts ++ [vDg tx p (nDg tx e p)]).length + p ≤ p + nDg tx e p + ts.length
            rw [List.length_append]
            show _ + 1 + p ≤ _
            omega
          · split
            · rename_i k hk
              have hpe : p < e := by
                by_cases y : p < e
                · exact y
                · rw [if_neg y] at hk; cases hk
              refine ⟨by show p ≤ p + 1; omega, by show p + 1 ≤ e; omega, ?_, fun _ _ => by show p < p + 1; omega⟩
              show (ts ++ [1000 + k]).length + p ≤ p + 1 + ts.length
              rw [List.length_append]
              show _ + 1 + p ≤ _
              omega
            · split
              · exact ⟨Nat.le_refl _, hp, by show ts.length + p ≤ p + ts.length; omega, fun _ z => by cases z⟩
              · split
                · rename_i z
                  rw [Bool.and_eq_true, decide_eq_true_iff] at z
                  have a := ih 0 (dep + 1) (p + 1) ts (by omega)
                  split
                  · split
                    · rename_i y
                      rw [Bool.and_eq_true, decide_eq_true_iff] at y
                      refine ⟨by show p ≤ (pr tx e f 0 (dep + 1) (p + 1) ts).2.1 + 1; omega, by show (pr tx e f 0 (dep + 1) (p + 1) ts).2.1 + 1 ≤ e; omega, by show (pr tx e f 0 (dep + 1) (p + 1) ts).2.2.length + p ≤ (pr tx e f 0 (dep + 1) (p + 1) ts).2.1 + 1 + ts.length; omega, fun _ _ => by show p < (pr tx e f 0 (dep + 1) (p + 1) ts).2.1 + 1; omega⟩
                    · exact ⟨by show p ≤ (pr tx e f 0 (dep + 1) (p + 1) ts).2.1; omega, a.2.1, by show (pr tx e f 0 (dep + 1) (p + 1) ts).2.2.length + p ≤ (pr tx e f 0 (dep + 1) (p + 1) ts).2.1 + ts.length; omega, fun _ z => by cases z⟩
                  · exact ⟨by omega, a.2.1, by omega, fun _ _ => by omega⟩
                · exact ⟨Nat.le_refl _, hp, by show ts.length + p ≤ p + ts.length; omega, fun _ z => by cases z⟩
      · rw [if_neg h3]
        split
        · exact ⟨Nat.le_refl _, hp, by show ts.length + p ≤ p + ts.length; omega, fun z => absurd z (by omega)⟩
        · rename_i k hk
          have hpe : p < e := by
            by_cases y : p < e
            · exact y
            · rw [if_neg y] at hk; cases hk
          have a := ih (w - 4 + 1) dep (p + 1) ts (by omega)
          have hl : ∀ t, ((pr tx e f (w - 4 + 1) dep (p + 1) ts).2.2 ++ [t]).length = (pr tx e f (w - 4 + 1) dep (p + 1) ts).2.2.length + 1 := fun t => by rw [List.length_append]; rfl
          split
          · split
            · have b := ih w dep _ ((pr tx e f (w - 4 + 1) dep (p + 1) ts).2.2 ++ [opB (w - 4) + k]) a.2.1
              rw [hl] at b
              exact ⟨by omega, b.2.1, by omega, fun z => absurd z (by omega)⟩
            · refine ⟨by show p ≤ (pr tx e f (w - 4 + 1) dep (p + 1) ts).2.1; omega, a.2.1, ?_, fun z => absurd z (by omega)⟩
              show ((pr tx e f (w - 4 + 1) dep (p + 1) ts).2.2 ++ [opB (w - 4) + k]).length + p ≤ (pr tx e f (w - 4 + 1) dep (p + 1) ts).2.1 + ts.length
              rw [hl]; omega
          · exact ⟨by omega, a.2.1, by omega, fun z => absurd z (by omega)⟩
