/-! Steps between words. -/
/-- the first below k -/
def fs (P : Nat → Bool) : Nat → Option Nat
  | 0 => none
  | k + 1 => match fs P k with
    | some j => some j
    | none => if P k then some k else none
theorem fs_none {P : Nat → Bool} : ∀ {k : Nat}, fs P k = none ↔ ∀ j, j < k → P j = false
  | 0 => ⟨fun _ j hj => absurd hj (by omega), fun _ => rfl⟩
  | k + 1 => by
    have ih := fs_none (P := P) (k := k)
    rw [fs]
    cases hf : fs P k with
    | some j =>
      refine ⟨fun z => (by cases z), fun z => ?_⟩
      have := ih.mpr (fun j hj => z j (by omega))
      rw [hf] at this; cases this
    | none =>
      have h0 := ih.mp hf
      cases hp : P k with
      | true => exact ⟨fun z => by simp at z, fun z => by have := z k (by omega); rw [hp] at this; cases this⟩
      | false =>
        refine ⟨fun _ j hj => ?_, fun _ => by simp⟩
        by_cases e : j = k
        · rw [e]; exact hp
        · exact h0 j (by omega)
theorem fs_some {P : Nat → Bool} : ∀ {k j : Nat}, fs P k = some j → j < k ∧ P j = true
  | 0, j, h => by cases h
  | k + 1, j, h => by
    rw [fs] at h
    cases hf : fs P k with
    | some i =>
      rw [hf] at h
      cases h
      have := fs_some hf
      exact ⟨by omega, this.2⟩
    | none =>
      rw [hf] at h
      cases hp : P k with
      | true => rw [hp] at h; simp at h; subst h; exact ⟨by omega, hp⟩
      | false => rw [hp] at h; simp at h
theorem fs_hit {P : Nat → Bool} {j : Nat} (h0 : fs P j = none) (h1 : P j = true) : ∀ k, j < k → fs P k = some j
  | 0, h => absurd h (by omega)
  | k + 1, h => by
    rw [fs]
    by_cases e : j = k
    · rw [← e, h0, h1]; rfl
    · rw [fs_hit h0 h1 k (by omega)]
theorem fs_next {P : Nat → Bool} {j : Nat} (h0 : fs P j = none) (h1 : P j = false) : fs P (j + 1) = none := by
  rw [fs, h0, h1]; rfl
theorem fs_congr {P Q : Nat → Bool} : ∀ {k : Nat}, (∀ j, j < k → P j = Q j) → fs P k = fs Q k
  | 0, _ => rfl
  | k + 1, h => by rw [fs, fs, fs_congr (fun j hj => h j (by omega)), h k (by omega)]
def ctP (P : Nat → Bool) : Nat → Nat
  | 0 => 0
  | k + 1 => ctP P k + if P k then 1 else 0
theorem ctP_le (P : Nat → Bool) : ∀ k, ctP P k ≤ k
  | 0 => Nat.le_refl _
  | k + 1 => by
    have := ctP_le P k
    rw [ctP]; split <;> omega
theorem ctP_mono {P Q : Nat → Bool} (h : ∀ j, P j = true → Q j = true) : ∀ k, ctP P k ≤ ctP Q k
  | 0 => Nat.le_refl _
  | k + 1 => by
    have := ctP_mono h k
    rw [ctP, ctP]
    cases hp : P k with
    | true => rw [h k hp]; simpa using this
    | false => simp; omega
theorem ctP_lt {P Q : Nat → Bool} (h : ∀ j, P j = true → Q j = true) {i : Nat} (h1 : P i = false) (h2 : Q i = true) : ∀ k, i < k → ctP P k + 1 ≤ ctP Q k
  | 0, hi => absurd hi (by omega)
  | k + 1, hi => by
    rw [ctP, ctP]
    by_cases e : i = k
    · have := ctP_mono h k
      rw [← e, h1, h2] at *
      simpa using this
    · have := ctP_lt h h1 h2 k (by omega)
      cases hp : P k with
      | true => rw [h k hp]; simp; omega
      | false => simp; omega
section GR
variable (n : Nat) (nr : Nat → Nat → Bool) (g : Nat)
/-- steps to g, at most t of them; 100 is never -/
def dl : Nat → Nat → Nat
  | 0 => fun i => if i = g then 0 else 100
  | t + 1 => fun i => if dl t i = 100 ∧ (fs (fun j => decide (dl t j = t) && nr i j) n).isSome = true then t + 1 else dl t i
theorem dl_s (t i : Nat) : dl n nr g (t + 1) i = if dl n nr g t i = 100 ∧ (fs (fun j => decide (dl n nr g t j = t) && nr i j) n).isSome = true then t + 1 else dl n nr g t i := rfl
theorem dl_le : ∀ t i, dl n nr g t i ≤ t ∨ dl n nr g t i = 100
  | 0, i => by show (if i = g then 0 else 100) ≤ 0 ∨ (if i = g then 0 else 100) = 100; split <;> simp
  | t + 1, i => by
    have := dl_le t i
    rw [dl_s]; split <;> omega
theorem dl_k {t i : Nat} (h : dl n nr g t i ≠ 100) : dl n nr g (t + 1) i = dl n nr g t i := by
  rw [dl_s, if_neg (fun z => h z.1)]
theorem dl_keep {t i : Nat} (h : dl n nr g t i ≠ 100) : ∀ m, dl n nr g (t + m) i = dl n nr g t i
  | 0 => rfl
  | m + 1 => by
    have := dl_keep h m
    rw [← Nat.add_assoc, dl_k (t := t + m) n nr g (by rw [this]; exact h), this]
theorem dl_back {t i s : Nat} (hs : s ≤ t) (h9 : s < 100) : ∀ m, dl n nr g (t + m) i = s → dl n nr g t i = s
  | 0, h => h
  | m + 1, h => by
    refine dl_back hs h9 m ?_
    rw [← Nat.add_assoc, dl_s] at h
    split at h
    · omega
    · exact h
theorem dl_pre {t i s : Nat} (ht : t < 99) (h : dl n nr g t i = s + 1) (hs : s + 1 < 100) : ∃ j, j < n ∧ dl n nr g t j = s ∧ nr i j = true := by
  have h0 := dl_le n nr g t i
  have h1 := dl_back n nr g (t := s + 1) (i := i) (s := s + 1) (Nat.le_refl _) (by omega) (t - (s + 1)) (by rw [show s + 1 + (t - (s + 1)) = t by omega]; exact h)
  have h3 := dl_le n nr g s i
  rw [dl_s] at h1
  split at h1
  case isFalse => omega
  case isTrue z =>
    obtain ⟨j, hj⟩ := Option.isSome_iff_exists.mp z.2
    have h2 := fs_some hj
    rw [Bool.and_eq_true, decide_eq_true_iff] at h2
    refine ⟨j, h2.1, ?_, h2.2.2⟩
    have h4 := dl_keep n nr g (t := s) (i := j) (by omega) (t - s)
    rw [show s + (t - s) = t by omega] at h4
    omega
theorem dl_nx {t i j s : Nat} (ht : t < 99) (h : dl n nr g t j = s) (hs : s + 1 ≤ t) (hj : j < n) (hn : nr i j = true) : dl n nr g t i ≤ s + 1 := by
  have h1 := dl_back n nr g (t := s) (i := j) (s := s) (Nat.le_refl _) (by omega) (t - s) (by rw [show s + (t - s) = t by omega]; exact h)
  have h2 : dl n nr g (s + 1) i ≤ s + 1 := by
    rcases dl_le n nr g s i with z | z
    · rw [dl_k n nr g (by omega)]; omega
    · have hs : (fs (fun j => decide (dl n nr g s j = s) && nr i j) n).isSome = true := by
        cases hf : fs (fun j => decide (dl n nr g s j = s) && nr i j) n with
        | some _ => rfl
        | none =>
          have := fs_none.mp hf j hj
          rw [h1, hn] at this
          simp at this
      rw [dl_s, if_pos ⟨z, hs⟩]
      exact Nat.le_refl _
  have h3 := dl_keep n nr g (t := s + 1) (i := i) (by omega) (t - (s + 1))
  rw [show s + 1 + (t - (s + 1)) = t by omega] at h3
  omega
theorem dl_all {t s : Nat} (ht : t < 99) {i : Nat} (hi : i < n) (h : dl n nr g t i = s) (hs : s < 100) : ∀ s', s' ≤ s → ∃ j, j < n ∧ dl n nr g t j = s' := by
  intro s' hs'
  induction hk : s - s' generalizing s' with
  | zero => exact ⟨i, hi, by omega⟩
  | succ k ih =>
    obtain ⟨j, hj, e⟩ := ih (s' + 1) (by omega) (by omega)
    obtain ⟨j', hj', e', _⟩ := dl_pre n nr g ht e (by omega)
    exact ⟨j', hj', e'⟩
theorem dl_few {t s : Nat} (ht : t < 99) {i : Nat} (hi : i < n) (h : dl n nr g t i = s) (hs : s < 100) : s < n := by
  have h1 := dl_all n nr g ht hi h hs
  have : ∀ s', s' ≤ s → s' + 1 ≤ ctP (fun j => decide (dl n nr g t j ≤ s')) n := by
    intro s'
    induction s' with
    | zero =>
      intro hs'
      obtain ⟨j, hj, e⟩ := h1 0 hs'
      have := ctP_lt (P := fun _ => false) (Q := fun j => decide (dl n nr g t j ≤ 0)) (i := j) (fun _ z => by cases z) rfl (by rw [e]; rfl) n hj
      omega
    | succ m ih =>
      intro hs'
      obtain ⟨j, hj, e⟩ := h1 (m + 1) hs'
      have := ctP_lt (P := fun j => decide (dl n nr g t j ≤ m)) (Q := fun j => decide (dl n nr g t j ≤ m + 1)) (i := j) (fun _ z => by rw [decide_eq_true_iff] at z ⊢; omega) (by rw [e]; simp) (by rw [e]; simp) n hj
      have := ih (by omega)
      omega
  have h2 := this s (Nat.le_refl _)
  have h3 := ctP_le (fun j => decide (dl n nr g t j ≤ s)) n
  omega
theorem dl_g (t : Nat) : dl n nr g t g = 0 := by
  have h0 : dl n nr g 0 g = 0 := if_pos rfl
  have := dl_keep n nr g (t := 0) (i := g) (by omega) t
  rw [Nat.zero_add] at this
  omega
theorem dl_0 {t i : Nat} (h : dl n nr g t i = 0) : i = g := by
  have := dl_back n nr g (t := 0) (i := i) (s := 0) (Nat.le_refl _) (by omega) t (by rw [Nat.zero_add]; exact h)
  by_cases e : i = g
  · exact e
  · rw [show dl n nr g 0 i = 100 from if_neg e] at this; omega
/-- what the reference's steps are, while it counts -/
def sps (D S : Nat → Nat) (r x y : Nat) : Prop := (∀ i, i < n → S i ≤ 1000000 ∧ (S i < 1000000 → D i ≤ 8 ∧ D i + 1 ≤ S i)) ∧ (∀ i, i < n → (D i ≤ r ∨ (i < x ∧ D i ≤ r + 1)) → S i ≤ D i + 1) ∧ ∀ j, j < y → j < n → nr x j = true → D j ≤ r → S x ≤ D j + 2
theorem sps.no {D S : Nat → Nat} {r x y : Nat} (h : sps n nr D S r x y) (hn : nr x y = false) : sps n nr D S r x (y + 1) := ⟨h.1, h.2.1, fun j hj hj' hr hd => by
  by_cases e : j = y
  · rw [e, hn] at hr; cases hr
  · exact h.2.2 j (by omega) hj' hr hd⟩
theorem sps.yes {S : Nat → Nat} {r x y : Nat} (hn8 : n ≤ 8) (hx : x < n) (hy : y < n) (h : sps n nr (dl n nr g 8) S r x y) (hn : nr x y = true) : sps n nr (dl n nr g 8) (fun i => if i = x then min (S x) (S y + 1) else S i) r x (y + 1) := by
  have hX := h.1 x hx
  have hY := h.1 y hy
  refine ⟨fun i hi => ?_, fun i hi hr => ?_, fun j hj hj' hr hd => ?_⟩
  · by_cases e : i = x
    · show (if i = x then min (S x) (S y + 1) else S i) ≤ 1000000 ∧ ((if i = x then min (S x) (S y + 1) else S i) < 1000000 → _ ∧ _ ≤ (if i = x then min (S x) (S y + 1) else S i))
      rw [if_pos e, e]
      refine ⟨by omega, fun z => ?_⟩
      by_cases z2 : S x ≤ S y + 1
      · have := hX.2 (by omega); omega
      · have h1 := hY.2 (by omega)
        have h2 := dl_few n nr g (t := 8) (by omega) hy rfl (by omega)
        have h3 := dl_nx n nr g (t := 8) (i := x) (j := y) (by omega) rfl (by omega) hy hn
        omega
    · show (if i = x then min (S x) (S y + 1) else S i) ≤ 1000000 ∧ ((if i = x then min (S x) (S y + 1) else S i) < 1000000 → _ ∧ _ ≤ (if i = x then min (S x) (S y + 1) else S i))
      rw [if_neg e]
      exact h.1 i hi
  · have := h.2.1 i hi hr
    show (if i = x then _ else _) ≤ _
    by_cases e : i = x
    · rw [if_pos e]; rw [e] at this ⊢; omega
    · rw [if_neg e]; exact this
  · show (if x = x then _ else _) ≤ _
    rw [if_pos rfl]
    by_cases e : j = y
    · have := h.2.1 y hy (Or.inl (by rw [← e]; exact hd))
      rw [e]; omega
    · have := h.2.2 j (by omega) hj' hr hd
      omega
theorem sps.row {S : Nat → Nat} {r x : Nat} (hr8 : r < 50) (h : sps n nr (dl n nr g 8) S r x n) : sps n nr (dl n nr g 8) S r (x + 1) 0 := by
  refine ⟨h.1, fun i hi hr => ?_, fun j hj => absurd hj (by omega)⟩
  by_cases e : i = x
  · subst e
    by_cases z : dl n nr g 8 i ≤ r
    · exact h.2.1 i hi (Or.inl z)
    · have h1 : dl n nr g 8 i = r + 1 := by omega
      obtain ⟨j, hj, e1, e2⟩ := dl_pre n nr g (t := 8) (by omega) h1 (by omega)
      have := h.2.2 j hj hj e2 (by omega)
      omega
  · exact h.2.1 i hi (by omega)
theorem sps.rd {D S : Nat → Nat} {r : Nat} (h : sps n nr D S r n 0) : sps n nr D S (r + 1) 0 0 := ⟨h.1, fun i hi hr => h.2.1 i hi (by omega), fun j hj => absurd hj (by omega)⟩
theorem sps.st : sps n nr (dl n nr g 8) (fun i => if i = g then 1 else 1000000) 0 0 0 := by
  refine ⟨fun i hi => ?_, fun i hi hr => ?_, fun j hj => absurd hj (by omega)⟩
  · show (if i = g then 1 else 1000000) ≤ 1000000 ∧ ((if i = g then 1 else 1000000) < 1000000 → _ ∧ _ ≤ (if i = g then 1 else 1000000))
    by_cases e : i = g
    · rw [if_pos e, e, dl_g]; omega
    · rw [if_neg e]; omega
  · show (if i = g then _ else _) ≤ _
    have e : i = g := dl_0 n nr g (t := 8) (by omega)
    rw [if_pos e]; omega
theorem sps.fin {S : Nat → Nat} (hn8 : n ≤ 8) (h : sps n nr (dl n nr g 8) S n 0 0) {i : Nat} (hi : i < n) : S i = if dl n nr g 8 i = 100 then 1000000 else dl n nr g 8 i + 1 := by
  have h1 := h.1 i hi
  have h2 := dl_le n nr g 8 i
  by_cases e : dl n nr g 8 i = 100
  · rw [if_pos e]
    by_cases z : S i < 1000000
    · have := h1.2 z; omega
    · omega
  · rw [if_neg e]
    have h3 := dl_few n nr g (t := 8) (by omega) hi rfl (by omega)
    have h4 := h.2.1 i hi (Or.inl (by omega))
    have h5 := h1.2 (by omega)
    omega
end GR
