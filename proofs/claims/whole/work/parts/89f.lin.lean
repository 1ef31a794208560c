/-! Lines of words, read. -/
def isUp (c : Nat) : Bool := decide (65 ≤ c) && decide (c ≤ 72)
def isLr (c : Nat) : Bool := isLt c || isUp c
def ltr (c : Nat) : Nat := if isLt c then c - 97 else c - 65
/-- how many letters stand from p on, at most 8 -/
def rnL (tx : Nat → Nat) (e p : Nat) : Nat := (fs (fun j => !(decide (p + j < e) && isLr (tx (p + j)))) 8).getD 8
/-- the silent ones among them -/
def slL (tx : Nat → Nat) (p j : Nat) : Bool := !isLt (tx (p + j))
def mkL (tx : Nat → Nat) (p n : Nat) : Nat := msk (slL tx p) n
/-- whether one of the first n is said -/
def sdL (tx : Nat → Nat) (p n : Nat) : Bool := decide (fb_ct (slL tx p) n < n)
theorem rnL_le (tx : Nat → Nat) (e p : Nat) : rnL tx e p ≤ 8 := by
  unfold rnL
  cases hf : fs (fun j => !(decide (p + j < e) && isLr (tx (p + j)))) 8 with
  | none => exact Nat.le_refl _
  | some j => have := (fs_some hf).1; show j ≤ 8; omega
theorem fs_before {P : Nat → Bool} : ∀ {k j : Nat}, fs P k = some j → fs P j = none
  | 0, j, h => by cases h
  | k + 1, j, h => by
    rw [fs] at h
    cases hf : fs P k with
    | some i => rw [hf] at h; cases h; exact fs_before hf
    | none =>
      rw [hf] at h
      cases hp : P k with
      | true => rw [hp] at h; simp at h; subst h; exact hf
      | false => rw [hp] at h; simp at h
theorem rnL_in {tx : Nat → Nat} {e p j : Nat} (hj : j < rnL tx e p) : p + j < e ∧ isLr (tx (p + j)) = true := by
  have h0 : (fun j => !(decide (p + j < e) && isLr (tx (p + j)))) j = false := by
    unfold rnL at hj
    cases hf : fs (fun j => !(decide (p + j < e) && isLr (tx (p + j)))) 8 with
    | none => rw [hf] at hj; exact fs_none.mp hf j hj
    | some i => rw [hf] at hj; exact fs_none.mp (fs_before hf) j hj
  have h1 : (!(decide (p + j < e) && isLr (tx (p + j)))) = false := h0
  rw [Bool.not_eq_false', Bool.and_eq_true, decide_eq_true_iff] at h1
  exact h1
theorem rnL_out {tx : Nat → Nat} {e p : Nat} (h8 : rnL tx e p < 8) (he : p + rnL tx e p < e) : isLr (tx (p + rnL tx e p)) = false := by
  unfold rnL at h8 he ⊢
  cases hf : fs (fun j => !(decide (p + j < e) && isLr (tx (p + j)))) 8 with
  | none => rw [hf] at h8; exact absurd h8 (by decide)
  | some i =>
    rw [hf] at he
    have h1 := (fs_some hf).2
    have h2 : p + i < e := he
    show isLr (tx (p + i)) = false
    have h3 : (!(decide (p + i < e) && isLr (tx (p + i)))) = true := h1
    rw [decide_eq_true h2, Bool.true_and] at h3
    cases hb : isLr (tx (p + i)) with
    | false => rfl
    | true => rw [hb] at h3; cases h3
theorem rnL_e {tx : Nat → Nat} {e p : Nat} (hp : p ≤ e) : p + rnL tx e p ≤ e := by
  by_cases h : rnL tx e p = 0
  · omega
  · have := (rnL_in (tx := tx) (e := e) (p := p) (j := rnL tx e p - 1) (by omega)).1
    omega
theorem sdL_s (tx : Nat → Nat) (p n : Nat) : sdL tx p (n + 1) = (sdL tx p n || isLt (tx (p + n))) := by
  have h1 := fb_ct_le (slL tx p) n
  unfold sdL
  rw [fb_ct_succ]
  cases hl : isLt (tx (p + n)) with
  | true =>
    rw [show slL tx p n = false by unfold slL; rw [hl]; rfl, Bool.or_true]
    exact decide_eq_true (by simp; omega)
  | false =>
    rw [show slL tx p n = true by unfold slL; rw [hl]; rfl, Bool.or_false]
    exact decide_eq_decide.mpr (by simp)
theorem mk_pcn (tx : Nat → Nat) (p : Nat) {n : Nat} (hn : n ≤ 8) : pcn (mkL tx p n) = fb_ct (slL tx p) n := by
  unfold pcn mkL
  rw [fb_ct_cong (q := fun i => decide (i < n) && slL tx p i) (fun i _ => msk_bit _ _ _), show 8 = n + (8 - n) by omega, fb_ct_split, fb_ct_cong (n := n) (q := slL tx p) (fun i hi => by rw [decide_eq_true hi, Bool.true_and])]
  have : fb_ct (fun k => decide (n + k < n) && slL tx p (n + k)) (8 - n) = 0 := fb_ct_zero.mpr (fun k _ => by rw [decide_eq_false (by omega), Bool.false_and])
  rw [this]; rfl
/-- where line i begins -/
def psL (tx : Nat → Nat) (e : Nat) : Nat → Nat
  | 0 => 0
  | i + 1 => psL tx e i + rnL tx e (psL tx e i) + 1
/-- how line i ends: with the next one, with a fault there, or with the text -/
def goL (tx : Nat → Nat) (e W i : Nat) : Prop := W + i < 8 ∧ sdL tx (psL tx e i) (rnL tx e (psL tx e i)) = true ∧ psL tx e i + rnL tx e (psL tx e i) < e ∧ tx (psL tx e i + rnL tx e (psL tx e i)) = 59
def flL (tx : Nat → Nat) (e W i f : Nat) : Prop := (8 ≤ W + i ∧ f = psL tx e i) ∨ (W + i < 8 ∧ f = psL tx e i + rnL tx e (psL tx e i) ∧ (sdL tx (psL tx e i) (rnL tx e (psL tx e i)) = false ∨ (f < e ∧ tx f ≠ 59)))
def enL (tx : Nat → Nat) (e W i : Nat) : Prop := W + i < 8 ∧ sdL tx (psL tx e i) (rnL tx e (psL tx e i)) = true ∧ psL tx e i + rnL tx e (psL tx e i) = e
theorem psL_le {tx : Nat → Nat} {e W : Nat} : ∀ {i : Nat}, (∀ i', i' < i → goL tx e W i') → psL tx e i ≤ e
  | 0, _ => Nat.zero_le _
  | i + 1, h => by have := (h i (by omega)).2.2.1; show psL tx e i + rnL tx e (psL tx e i) + 1 ≤ e; omega
theorem liL_or (tx : Nat → Nat) (e W : Nat) : ∃ i, i ≤ 8 ∧ (∀ i', i' < i → goL tx e W i') ∧ ((∃ f, f ≤ e ∧ flL tx e W i f) ∨ enL tx e W i) := by
  have : ∀ m i, i + m = 9 → (∀ i', i' < i → goL tx e W i') → ∃ i, i ≤ 8 ∧ (∀ i', i' < i → goL tx e W i') ∧ ((∃ f, f ≤ e ∧ flL tx e W i f) ∨ enL tx e W i) := by
    intro m
    induction m with
    | zero =>
      intro i hi hg
      have := (hg 8 (by omega)).1
      omega
    | succ m ih =>
      intro i hi hg
      have hp := psL_le hg
      have hq := rnL_e (tx := tx) hp
      by_cases h1 : W + i < 8
      · cases hs : sdL tx (psL tx e i) (rnL tx e (psL tx e i)) with
        | false => exact ⟨i, by omega, hg, Or.inl ⟨_, hq, Or.inr ⟨h1, rfl, Or.inl hs⟩⟩⟩
        | true =>
          by_cases h2 : psL tx e i + rnL tx e (psL tx e i) = e
          · exact ⟨i, by omega, hg, Or.inr ⟨h1, hs, h2⟩⟩
          · by_cases h3 : tx (psL tx e i + rnL tx e (psL tx e i)) = 59
            · refine ih (i + 1) (by omega) (fun i' hi' => ?_)
              by_cases z : i' = i
              · rw [z]; exact ⟨h1, hs, by omega, h3⟩
              · exact hg i' (by omega)
            · exact ⟨i, by omega, hg, Or.inl ⟨_, hq, Or.inr ⟨h1, rfl, Or.inr ⟨by omega, h3⟩⟩⟩⟩
      · exact ⟨i, by omega, hg, Or.inl ⟨_, hp, Or.inl ⟨by omega, rfl⟩⟩⟩
  exact this 9 0 rfl (fun i' h => absurd h (by omega))
section LC
variable {h : Bool × Nat × Nat} {I J K : Nat → Nat → Int32} {L : Nat → Nat → Int64}
def ltV (x : Int32) : Int32 := if x < 97 then (if x < 65 then -1 else if 72 < x then -1 else x - 65) else if 104 < x then (if x < 65 then -1 else if 72 < x then -1 else x - 65) else x - 97
theorem ltV_is : ∀ c, c < 256 → ltV (nI c) = if isLr c = true then nI (ltr c) else -1 := by decide +kernel
theorem ltr_lt : ∀ c, c < 256 → isLr c = true → ltr c < 8 := by decide +kernel
theorem c_letterOf (d : Nat) {c : Nat} (hc : c < 256) : ev_do (d + 1) M_Book_letterOf [.int (nI c)] (ev_mk h K L) = ev_ri (if isLr c = true then nI (ltr c) else -1) (ev_mk h K L) := by
  rw [← ltV_is c hc, e_Book_letterOf_0, e_Book_letterOf_17]
  unfold ltV
  repeat' split
  all_goals rfl
theorem lt_sd : ∀ c, c < 256 → isLr c = true → decide (97 ≤ c) = isLt c := by decide +kernel
theorem c_isSaid (d : Nat) {c : Nat} (hc : c < 256) (hl : isLr c = true) : ev_do (d + 1) M_Book_isSaid [.int (nI c)] (ev_mk h K L) = ev_ri (fl (isLt c)) (ev_mk h K L) := by
  rw [e_Book_isSaid_0, ← lt_sd c hc hl]
  by_cases z : c < 97
  · rw [if_pos (show nI c < 97 from (q_lt (b := 97) (by omega) (by omega)).mpr z), decide_eq_false (show ¬ 97 ≤ c by omega)]; rfl
  · rw [if_neg (show ¬ nI c < 97 from fun y => z ((q_lt (b := 97) (by omega) (by omega)).mp y)), decide_eq_true (show 97 ≤ c by omega)]; rfl
variable {t : Nat × (Nat → Nat)} {e W : Nat}
theorem lr59 : isLr 59 = false := by decide
theorem c_lf (d : Nat) (h8 : t.1 ≤ 80) (ht : txC K t) (h2 : ∀ j, j < t.1 → t.2 j < 256) (he : e ≤ t.1) (hW : K 5 3 = nI W) (hW8 : W ≤ 8) {k : Nat} (hk : k ≤ 8) {p : Nat} (hp : p ≤ e) : ∀ R : Option ev_R → Prop, (W + k < 8 → R (ev_at (d + 1) M_Book_faultIn 21 [.ref 5, .ref 1, .int (nI k), .int (nI (rnL t.2 e p)), .int (fl (sdL t.2 p (rnL t.2 e p))), .int (nI e), .int (nI (p + rnL t.2 e p)), .float 0] [] (ev_mk h K L))) → (8 ≤ W + k → R (ev_ri (nI p) (ev_mk h K L))) → R (ev_at (d + 1) M_Book_faultIn 21 [.ref 5, .ref 1, .int (nI k), .int (nI 0), .int (fl (sdL t.2 p 0)), .int (nI e), .int (nI p), .float 0] [] (ev_mk h K L)) := by
  intro R hR1 hR2
  have hr8 := rnL_le t.2 e p
  by_cases h1 : W + k < 8
  · refine lpE (σ := Unit) (F := fun j _ => ev_at (d + 1) M_Book_faultIn 21 [.ref 5, .ref 1, .int (nI k), .int (nI j), .int (fl (sdL t.2 p j)), .int (nI e), .int (nI (p + j)), .float 0] [] (ev_mk h K L)) (fun _ _ => True) R (rnL t.2 e p) ?_ (fun _ _ => hR1 h1) 0 (Nat.zero_le _) () trivial
    intro j _ hj _
    refine Or.inl ⟨(), ?_, trivial⟩
    obtain ⟨g1, g2⟩ := rnL_in hj
    have hc := h2 (p + j) (by omega)
    have h59 : t.2 (p + j) ≠ 59 := fun z => by rw [z, lr59] at g2; cases g2
    show ev_at (d + 1) M_Book_faultIn 21 [.ref 5, .ref 1, .int (nI k), .int (nI j), .int (fl (sdL t.2 p j)), .int (nI e), .int (nI (p + j)), .float 0] [] (ev_mk h K L) = _
    rw [e_Book_faultIn_21, if_pos ((q_lt (by omega) (by omega)).mpr g1), c_sgn d ht h8 h2 (by omega), k_I, k_1, k_2, k_3, if_neg (show ¬ nI (t.2 (p + j)) = 59 from fun z => h59 ((q_eq (b := 59) (by omega) (by omega)).mp z)), e_Book_faultIn_59, c_letterOf d hc, k_I, k_1, k_2, k_3, if_pos g2]
    have hl := ltr_lt _ hc g2
    rw [if_neg (c := nI (ltr (t.2 (p + j))) = -1) (m1_ne (by omega)), if_neg (show ¬ nI j = 8 from fun z => absurd ((q_eq (b := 8) (by omega) (by omega)).mp z) (by omega)), hW, q_add, if_pos (show nI (W + k) < 8 from (q_lt (b := 8) (by omega) (by omega)).mpr h1), c_isSaid d hc g2, k_I, k_1, k_2, k_3, sdL_s, show nI j + 1 = nI (j + 1) from q_add j 1, show nI (p + j) + 1 = nI (p + (j + 1)) from q_add (p + j) 1]
    cases hs : sdL t.2 p j with
    | true => rw [if_neg (show ¬ fl true = 0 by decide), Bool.true_or]; rfl
    | false =>
      rw [if_pos (show fl false = 0 from rfl), Bool.false_or]
      cases isLt (t.2 (p + j)) with
      | true => rw [if_neg (show ¬ fl true = 0 by decide)]; rfl
      | false => rw [if_pos (show fl false = 0 from rfl)]; rfl
  · have hs : sdL t.2 p 0 = false := decide_eq_false (by omega)
    have := hR2 (by omega)
    rw [hs, e_Book_faultIn_21]
    by_cases hpe : p < e
    · have hc := h2 p (by omega)
      have e59 : ev_at (d + 1) M_Book_faultIn 59 [.ref 5, .ref 1, .int (nI k), .int (nI 0), .int (fl false), .int (nI e), .int (nI p), .int (nI (t.2 p))] [] (ev_mk h K L) = ev_ri (nI p) (ev_mk h K L) := by
        rw [e_Book_faultIn_59, c_letterOf d hc, k_I, k_1, k_2, k_3, hW, q_add, if_neg (c := nI (W + k) < 8) (show ¬ nI (W + k) < 8 from fun z => h1 ((q_lt (b := 8) (by omega) (by omega)).mp z))]
        repeat' split
        all_goals rfl
      rw [if_pos ((q_lt (by omega) (by omega)).mpr hpe), c_sgn d ht h8 h2 (by omega), k_I, k_1, k_2, k_3, if_pos (show fl false = 0 from rfl), e59]
      split <;> exact this
    · have hpe' : p = e := by omega
      rw [if_neg (fun z => hpe ((q_lt (by omega) (by omega)).mp z)), if_pos (show fl false = 0 from rfl), ← hpe']
      split <;> exact this
theorem c_Book_faultIn (d : Nat) (h8 : t.1 ≤ 80) (ht : txC K t) (h2 : ∀ j, j < t.1 → t.2 j < 256) (hW : K 5 3 = nI W) (hW8 : W ≤ 8) {i : Nat} (hi : i ≤ 8) (hg : ∀ i', i' < i → goL t.2 (min 79 t.1) W i') : (∀ f, flL t.2 (min 79 t.1) W i f → ev_do (d + 2) M_Book_faultIn [.ref 5, .ref 1] (ev_mk h K L) = ev_ri (nI f) (ev_mk h K L)) ∧ (enL t.2 (min 79 t.1) W i → ev_do (d + 2) M_Book_faultIn [.ref 5, .ref 1] (ev_mk h K L) = if 79 < t.1 then ev_ri (nI (min 79 t.1)) (ev_mk h K L) else ev_ri (-1) (ev_mk h K L)) := by
  have hS : ∀ i, i ≤ 8 → (∀ i', i' < i → goL t.2 (min 79 t.1) W i') → ev_do (d + 2) M_Book_faultIn [.ref 5, .ref 1] (ev_mk h K L) = ev_at (d + 1) M_Book_faultIn 21 [.ref 5, .ref 1, .int (nI i), .int (nI 0), .int (fl (sdL t.2 (psL t.2 (min 79 t.1) i) 0)), .int (nI (min 79 t.1)), .int (nI (psL t.2 (min 79 t.1) i)), .float 0] [] (ev_mk h K L) := by
    intro i
    induction i with
    | zero =>
      intro _ _
      rw [e_Book_faultIn_0, ht.1, show (if (79 : Int32) < nI t.1 then (79 : Int32) else nI t.1) = nI (min 79 t.1) from z_min (a := 79) (by omega) (by omega)]; rfl
    | succ i ih =>
      intro hi8 hg
      have g := hg i (by omega)
      have hp := psL_le (fun i' (hi' : i' < i) => hg i' (by omega))
      rw [ih (by omega) (fun i' hi' => hg i' (by omega))]
      refine c_lf (h := h) (L := L) d h8 ht h2 (e := min 79 t.1) (by omega) hW hW8 (k := i) (by omega) hp (fun o => o = _) (fun _ => ?_) (fun z => absurd g.1 (by omega))
      have h59 := g.2.2.2
      have g3 := g.2.2.1
      rw [e_Book_faultIn_21, if_pos ((q_lt (by omega) (by omega)).mpr g.2.2.1), c_sgn d ht h8 h2 (by omega), k_I, k_1, k_2, k_3, if_pos (show nI (t.2 (psL t.2 (min 79 t.1) i + rnL t.2 (min 79 t.1) (psL t.2 (min 79 t.1) i))) = 59 by rw [h59]; rfl), g.2.1, if_neg (show ¬ fl true = 0 by decide), show nI i + 1 = nI (i + 1) from q_add i 1, show nI (psL t.2 (min 79 t.1) i + rnL t.2 (min 79 t.1) (psL t.2 (min 79 t.1) i)) + 1 = nI (psL t.2 (min 79 t.1) (i + 1)) from q_add _ 1]; rfl
  have e0 := hS i hi hg
  have hp := psL_le hg
  have hq := rnL_e (tx := t.2) hp
  have hr8 := rnL_le t.2 (min 79 t.1) (psL t.2 (min 79 t.1) i)
  refine ⟨fun f hf => ?_, fun he => ?_⟩
  · rw [e0]
    rcases hf with ⟨f1, f2⟩ | ⟨f1, f2, f3⟩
    · rw [f2]
      exact c_lf (h := h) (L := L) d h8 ht h2 (e := min 79 t.1) (by omega) hW hW8 (k := i) hi hp (fun o => o = ev_ri (nI (psL t.2 (min 79 t.1) i)) (ev_mk h K L)) (fun z => absurd z (by omega)) (fun _ => rfl)
    · refine c_lf (h := h) (L := L) d h8 ht h2 (e := min 79 t.1) (by omega) hW hW8 (k := i) hi hp (fun o => o = ev_ri (nI f) (ev_mk h K L)) (fun _ => ?_) (fun z => absurd z (by omega))
      rw [← f2, e_Book_faultIn_21]
      by_cases hfe : f < min 79 t.1
      · have hc := h2 f (by omega)
        have e59 : ev_at (d + 1) M_Book_faultIn 59 [.ref 5, .ref 1, .int (nI i), .int (nI (rnL t.2 (min 79 t.1) (psL t.2 (min 79 t.1) i))), .int (fl (sdL t.2 (psL t.2 (min 79 t.1) i) (rnL t.2 (min 79 t.1) (psL t.2 (min 79 t.1) i)))), .int (nI (min 79 t.1)), .int (nI f), .int (nI (t.2 f))] [] (ev_mk h K L) = ev_ri (nI f) (ev_mk h K L) := by
          rw [e_Book_faultIn_59, c_letterOf d hc, k_I, k_1, k_2, k_3]
          by_cases z : rnL t.2 (min 79 t.1) (psL t.2 (min 79 t.1) i) = 8
          · rw [if_pos (c := nI (rnL t.2 (min 79 t.1) (psL t.2 (min 79 t.1) i)) = 8) (by rw [z]; rfl)]
            (repeat' split) <;> rfl
          · have := rnL_out (tx := t.2) (e := min 79 t.1) (p := psL t.2 (min 79 t.1) i) (by omega) (by omega)
            rw [← f2] at this
            rw [this, if_neg (c := false = true) (by decide), if_pos rfl]
        rw [if_pos ((q_lt (by omega) (by omega)).mpr hfe), c_sgn d ht h8 h2 (by omega), k_I, k_1, k_2, k_3, e59]
        by_cases z : t.2 f = 59
        · rcases f3 with f3 | f3
          · rw [f3, if_pos (c := nI (t.2 f) = 59) (by rw [z]; rfl), if_pos (show fl false = 0 from rfl)]
          · exact absurd z f3.2
        · rw [if_neg (show ¬ nI (t.2 f) = 59 from fun y => z ((q_eq (b := 59) (by omega) (by omega)).mp y))]
      · rcases f3 with f3 | f3
        · rw [if_neg (fun z => hfe ((q_lt (by omega) (by omega)).mp z)), f3, if_pos (show fl false = 0 from rfl), show min 79 t.1 = f by omega]
          split <;> rfl
        · exact absurd f3.1 hfe
  · rw [e0]
    refine c_lf (h := h) (L := L) d h8 ht h2 (e := min 79 t.1) (by omega) hW hW8 (k := i) hi hp (fun o => o = if 79 < t.1 then ev_ri (nI (min 79 t.1)) (ev_mk h K L) else ev_ri (-1) (ev_mk h K L)) (fun _ => ?_) (fun z => absurd he.1 (by omega))
    rw [he.2.2, e_Book_faultIn_21, if_neg (fun z => absurd ((q_lt (by omega) (by omega)).mp z) (by omega)), he.2.1, if_neg (show ¬ fl true = 0 by decide), ht.1]
    by_cases z : 79 < t.1
    · rw [if_pos (show (79 : Int32) < nI t.1 from (q_lt (a := 79) (by omega) (by omega)).mpr z), if_pos z]
    · rw [if_neg (show ¬ (79 : Int32) < nI t.1 from fun y => z ((q_lt (a := 79) (by omega) (by omega)).mp y)), if_neg z]
end LC
