/-! A rule read by the class: its signs one after the other, beside the reader. -/
section QC
variable {tx : Nat → Nat} {e : Nat}
theorem ac_d1 {C S : List Nat} {dep dg c : Nat} {cm : Nat → Bool} (hc : isDg c = true) : ac (C, S, dep, cm, dg, true) c = some (C ++ [c - 48], S, dep, cm, 1, false) := by
  unfold ac; rw [if_pos hc]; exact if_pos rfl
theorem ac_d2 {C S : List Nat} {dep dg c v : Nat} {cm : Nat → Bool} (hc : isDg c = true) (h0 : dg ≠ 0) (h3 : dg ≠ 3) : ac (C ++ [v], S, dep, cm, dg, false) c = some (C ++ [10 * v + (c - 48)], S, dep, cm, dg + 1, false) := by
  unfold ac; rw [if_pos hc, if_neg (show ¬ (false = true) by decide)]
  rw [if_neg (show ¬ (dg = 0 ∨ dg = 3) by omega)]
  dsimp only
  rw [List.dropLast_concat, List.getLastD_concat]
theorem ac_dn {C S : List Nat} {dep dg c : Nat} {cm : Nat → Bool} (hc : isDg c = true) (h0 : dg = 0 ∨ dg = 3) : ac (C, S, dep, cm, dg, false) c = none := by
  unfold ac; rw [if_pos hc, if_neg (show ¬ (false = true) by decide)]
  exact if_pos h0
theorem ac_cl {C S : List Nat} {dep dg : Nat} {cm : Nat → Bool} : ac (C, S, dep, cm, dg, false) 41 = if dep = 0 then none else some (C ++ (tW 1 S).map tkS, (dW 1 S).tail, dep - 1, cm, 0, false) := by
  unfold ac; rw [if_neg (by decide), if_pos rfl, if_pos rfl]
theorem ac_bt {C S : List Nat} {dep dg c : Nat} {cm : Nat → Bool} (hd : ¬ isDg c = true) (h41 : c ≠ 41) : ac (C, S, dep, cm, dg, false) c = if rkC c = 0 then none else if rkC c = 1 ∧ cm dep = true then none else some (C ++ (tW (rkC c) S).map tkS, c :: dW (rkC c) S, dep, (fun i => if i = dep then (cm i || decide (rkC c = 1)) else cm i), 0, true) := by
  unfold ac; rw [if_neg hd, if_pos rfl, if_neg h41]
theorem ac_w {C S : List Nat} {dep dg c : Nat} {cm : Nat → Bool} (hd : ¬ isDg c = true) : ac (C, S, dep, cm, dg, true) c = if c = 45 then some (C, 256 :: S, dep, cm, 0, true) else if c = 40 then (if dep = 4 then none else some (C, 40 :: S, dep + 1, (fun i => if i = dep + 1 then false else cm i), 0, true)) else match ixO str0 c with
    | none => none
    | some k => some (C ++ [1000 + k], S, dep, cm, 0, false) := by
  unfold ac; rw [if_neg hd, if_neg (show ¬ (true = false) by decide)]
  rfl
def opT (c r : Nat) : Bool := match ixO (opR r) c with
  | some k => decide (rkC c = r + 1) && decide (tkS c = opB r + k) && !(isDg c) && decide (c ≠ 41)
  | none => decide (rkC c ≠ r + 1)
theorem opT_all : ∀ c, c < 256 → ∀ r, r < 3 → opT c r = true := by decide +kernel
theorem opq_s {c r k : Nat} (hc : c < 256) (hr : r < 3) (hk : ixO (opR r) c = some k) : rkC c = r + 1 ∧ tkS c = opB r + k ∧ isDg c = false ∧ c ≠ 41 := by
  have := opT_all c hc r hr
  unfold opT at this
  rw [hk] at this
  simpa [and_assoc] using this
theorem opq_n {c r : Nat} (hc : c < 256) (hr : r < 3) (hk : ixO (opR r) c = none) : rkC c ≠ r + 1 := by
  have := opT_all c hc r hr
  unfold opT at this
  rw [hk] at this
  simpa using this
theorem tW_pre {w : Nat} {S : List Nat} (hS : ∀ c, S.head? = some c → rkC c < w) : ∀ pd : List Nat, (∀ c, c ∈ pd → w ≤ rkC c) → tW w (pd ++ S) = pd ∧ dW w (pd ++ S) = S := by
  intro pd
  induction pd with
  | nil =>
    intro _
    cases S with
    | nil => exact ⟨rfl, rfl⟩
    | cons c S =>
      have := hS c rfl
      unfold tW dW
      rw [List.nil_append, List.takeWhile_cons, List.dropWhile_cons, decide_eq_false (show ¬ w ≤ rkC c by omega)]
      exact ⟨rfl, rfl⟩
  | cons a pd ih =>
    intro h
    have i1 := ih (fun c hc => h c (List.mem_cons_of_mem _ hc))
    unfold tW dW at i1 ⊢
    rw [List.cons_append, List.takeWhile_cons, List.dropWhile_cons, decide_eq_true (h a List.mem_cons_self)]
    exact ⟨by show a :: _ = _; rw [i1.1], i1.2⟩
def ru (tx : Nat → Nat) : Nat → Nat → aQ → Nat × Option aQ
  | 0, p, s => (p, some s)
  | n + 1, p, s => match ac s (tx p) with
    | none => (p, none)
    | some s' => ru tx n (p + 1) s'
theorem ru_s {p : Nat} {s s' : aQ} (hp : p < e) (ha : ac s (tx p) = some s') : ru tx (e - p) p s = ru tx (e - (p + 1)) (p + 1) s' := by
  rw [show e - p = e - (p + 1) + 1 by omega, ru, ha]
theorem ru_n {p : Nat} {s : aQ} (hp : p < e) (ha : ac s (tx p) = none) : ru tx (e - p) p s = (p, none) := by
  rw [show e - p = e - (p + 1) + 1 by omega, ru, ha]
theorem ru_e {p : Nat} {s : aQ} (hp : p = e) : ru tx (e - p) p s = (e, some s) := by
  rw [hp, Nat.sub_self, ru]
def badR (tx : Nat → Nat) (e p : Nat) (s : aQ) (P : Nat) : Prop := ru tx (e - p) p s = (P, none) ∨ (P = e ∧ ∃ s' : aQ, ru tx (e - p) p s = (e, some s') ∧ (s'.2.2.2.2.2 = true ∨ s'.2.2.1 ≠ 0))
theorem badR.st {p p' P : Nat} {s s' : aQ} (hb : badR tx e p' s' P) (h1 : ru tx (e - p) p s = ru tx (e - p') p' s') : badR tx e p s P := by
  unfold badR; rw [h1]; exact hb
def nxt (tx : Nat → Nat) (e r P : Nat) (cm : Nat → Bool) (dep dg : Nat) : Prop := P < e → (isDg (tx P) = true → dg = 0 ∨ dg = 3) ∧ ∀ r', r ≤ r' → r' < 3 → ixO (opR r') (tx P) = none ∨ (r' = 0 ∧ cm dep = true)
def okR (tx : Nat → Nat) (e w p dep : Nat) (cm : Nat → Bool) (S : List Nat) (s : aQ) (P : Nat) (T : List Nat) : Prop := ∃ C pd cm' dg, ru tx (e - p) p s = ru tx (e - P) P (C, pd ++ S, dep, cm', dg, false) ∧ C ++ pd.map tkS = T ∧ (∀ c, c ∈ pd → w + 1 ≤ rkC c) ∧ (∀ i, i < dep → cm' i = cm i) ∧ (1 ≤ w → cm' dep = cm dep) ∧ nxt tx e w P cm' dep dg
/-- what can't follow is refused -/
theorem nx_no {P dep dg : Nat} {C S : List Nat} {cm : Nat → Bool} (hP : P < e) (h2 : tx P < 256) (hn : nxt tx e 0 P cm dep dg) (h41 : dep = 0 ∨ tx P ≠ 41) : ac (C, S, dep, cm, dg, false) (tx P) = none := by
  obtain ⟨n1, n2⟩ := hn hP
  by_cases hd : isDg (tx P) = true
  · exact ac_dn hd (n1 hd)
  · by_cases z : tx P = 41
    · rw [z, ac_cl]
      exact if_pos (h41.resolve_right (fun y => y z))
    · rw [ac_bt hd z]
      by_cases y0 : rkC (tx P) = 0
      · rw [if_pos y0]
      · rw [if_neg y0]
        have hr4 := rkC_le (tx P)
        have h4 : rkC (tx P) ≠ 4 := by
          intro y
          unfold rkC at y
          revert y
          (repeat' split) <;> omega
        have := n2 (rkC (tx P) - 1) (Nat.zero_le _) (by omega)
        rcases this with y | y
        · have := opq_n h2 (show rkC (tx P) - 1 < 3 by omega) y
          omega
        · rw [if_pos ⟨by omega, y.2⟩]
theorem ru_dg {p dep dg : Nat} {ts S : List Nat} {cm : Nat → Bool} : ∀ j, j < nDg tx e p → ru tx (e - p) p (ts, S, dep, cm, dg, true) = ru tx (e - (p + (j + 1))) (p + (j + 1)) (ts ++ [vDg tx p (j + 1)], S, dep, cm, j + 1, false) := by
  intro j
  have h3 := nDg_le tx e p
  induction j with
  | zero =>
    intro hj
    obtain ⟨a, b⟩ := nDg_in hj
    rw [ru_s (show p < e by omega) (ac_d1 (show isDg (tx p) = true from b))]
    rw [show vDg tx p (0 + 1) = tx p - 48 by rw [vDg, vDg]; simp]
  | succ j ih =>
    intro hj
    obtain ⟨a, b⟩ := nDg_in hj
    rw [ih (by omega), ru_s (show p + (j + 1) < e from a) (ac_d2 b (by omega) (by omega))]
    rw [show vDg tx p (j + 1 + 1) = 10 * vDg tx p (j + 1) + (tx (p + (j + 1)) - 48) from rfl]
    rfl
def pA (tx : Nat → Nat) (e f : Nat) : Prop := ∀ w dep p ts S cm dg, w ≤ 3 → p ≤ e → dep ≤ 4 → 8 * (e - p) + 1 + 2 * (3 - w) ≤ f → (∀ c, w < 3 → S.head? = some c → rkC c ≤ w) → (w = 0 → cm dep = false) → ((pr tx e f w dep p ts).1 = true → okR tx e w p dep cm S (ts, S, dep, cm, dg, true) (pr tx e f w dep p ts).2.1 (pr tx e f w dep p ts).2.2) ∧ ((pr tx e f w dep p ts).1 = false → badR tx e p (ts, S, dep, cm, dg, true) (pr tx e f w dep p ts).2.1)
def pB (tx : Nat → Nat) (e f : Nat) : Prop := ∀ r dep p ts C pd S cm dg, r < 3 → p ≤ e → dep ≤ 4 → 8 * (e - p) + 8 ≤ f → C ++ pd.map tkS = ts → (∀ c, c ∈ pd → r + 1 ≤ rkC c) → (∀ c, S.head? = some c → rkC c ≤ r) → (r = 0 → cm dep = false) → nxt tx e (r + 1) p cm dep dg → ((pr tx e f (4 + r) dep p ts).1 = true → okR tx e r p dep cm S (C, pd ++ S, dep, cm, dg, false) (pr tx e f (4 + r) dep p ts).2.1 (pr tx e f (4 + r) dep p ts).2.2) ∧ ((pr tx e f (4 + r) dep p ts).1 = false → badR tx e p (C, pd ++ S, dep, cm, dg, false) (pr tx e f (4 + r) dep p ts).2.1)
theorem pA_rank {f : Nat} (hA : pA tx e f) (hB : pB tx e f) : ∀ w dep p ts S cm dg, w < 3 → p ≤ e → dep ≤ 4 → 8 * (e - p) + 1 + 2 * (3 - w) ≤ f + 1 → (∀ c, w < 3 → S.head? = some c → rkC c ≤ w) → (w = 0 → cm dep = false) → ((pr tx e (f + 1) w dep p ts).1 = true → okR tx e w p dep cm S (ts, S, dep, cm, dg, true) (pr tx e (f + 1) w dep p ts).2.1 (pr tx e (f + 1) w dep p ts).2.2) ∧ ((pr tx e (f + 1) w dep p ts).1 = false → badR tx e p (ts, S, dep, cm, dg, true) (pr tx e (f + 1) w dep p ts).2.1) := by
  intro w dep p ts S cm dg hw hp hd hf hS hcm
  rw [pr, if_pos hw]
  have a := hA (w + 1) dep p ts S cm dg (by omega) hp hd (by omega) (fun c _ hc => by have := hS c hw hc; omega) (fun z => by omega)
  cases hb : (pr tx e f (w + 1) dep p ts).1 with
  | false =>
    rw [if_neg (by decide)]
    exact ⟨fun z => (by rw [hb] at z; cases z), a.2⟩
  | true =>
    rw [if_pos rfl]
    have g := pr_go tx e f (w + 1) dep p ts hp
    have g4 := g.2.2.2 (by omega) hb
    obtain ⟨C, pd, cm', dg', r1, r2, r3, r4, r5, r6⟩ := a.1 hb
    have b := hB w dep _ _ C pd S cm' dg' hw g.2.1 hd (by omega) r2 (fun c hc => by have := r3 c hc; omega) (fun c hc => hS c hw hc) (fun z => (r5 (by omega)).trans (hcm z)) r6
    refine ⟨fun z => ?_, fun z => (b.2 z).st r1⟩
    obtain ⟨C2, pd2, cm2, dg2, t1, t2, t3, t4, t5, t6⟩ := b.1 z
    exact ⟨C2, pd2, cm2, dg2, r1.trans t1, t2, t3, fun i hi => (t4 i hi).trans (r4 i hi), fun y => (t5 y).trans (r5 (by omega)), t6⟩
theorem pB_step (h2 : ∀ j, j < e → tx j < 256) {f : Nat} (hA : pA tx e f) (hB : pB tx e f) : pB tx e (f + 1) := by
  intro r dep p ts C pd S cm dg hr hp hd hf ht hpd hS hcm hn
  rw [pr, if_neg (show ¬ 4 + r < 3 by omega), if_neg (show ¬ 4 + r = 3 by omega), show 4 + r - 4 = r by omega]
  cases hk : (if p < e then ixO (opR r) (tx p) else none) with
  | none =>
    dsimp only
    refine ⟨fun _ => ⟨C, pd, cm, dg, rfl, ht, hpd, fun _ _ => rfl, fun _ => rfl, fun hpe => ⟨(hn hpe).1, fun r' h1 h3 => ?_⟩⟩, fun z => (by cases z)⟩
    by_cases z : r' = r
    · rw [if_pos hpe] at hk
      rw [z]; exact Or.inl hk
    · exact (hn hpe).2 r' (by omega) h3
  | some k =>
    dsimp only
    have hpe : p < e := by
      by_cases y : p < e
      · exact y
      · rw [if_neg y] at hk; cases hk
    rw [if_pos hpe] at hk
    obtain ⟨o1, o2, o3, o4⟩ := opq_s (h2 p hpe) hr hk
    obtain ⟨w1, w2⟩ := tW_pre (w := r + 1) (S := S) (fun c hc => by have := hS c hc; omega) pd hpd
    have s1 : ru tx (e - p) p (C, pd ++ S, dep, cm, dg, false) = ru tx (e - (p + 1)) (p + 1) (ts, tx p :: S, dep, (fun i => if i = dep then (cm i || decide (rkC (tx p) = 1)) else cm i), 0, true) := by
      refine ru_s hpe ?_
      rw [ac_bt (by rw [o3]; decide) o4, if_neg (by omega), if_neg (fun z => by have := hcm (by omega); rw [z.2] at this; cases this), o1, w1, w2, ht]
    have a := hA (r + 1) dep (p + 1) ts (tx p :: S) (fun i => if i = dep then (cm i || decide (rkC (tx p) = 1)) else cm i) 0 (by omega) (by omega) hd (by omega) (fun c _ hc => by have : tx p = c := by simpa using hc
                                                                                                                                                                                   rw [← this, o1]; omega) (fun z => by omega)
    cases hb : (pr tx e f (r + 1) dep (p + 1) ts).1 with
    | false =>
      rw [if_neg (by decide)]
      exact ⟨fun z => (by rw [hb] at z; cases z), fun z => (a.2 z).st s1⟩
    | true =>
      rw [if_pos rfl]
      have g := pr_go tx e f (r + 1) dep (p + 1) ts (by omega)
      obtain ⟨C1, pd1, cm1, dg1, r1, r2, r3, r4, r5, r6⟩ := a.1 hb
      have r5' := r5 (by omega)
      dsimp only at r5'
      rw [if_pos rfl] at r5'
      have hst : pd1 ++ tx p :: S = (pd1 ++ [tx p]) ++ S := by simp
      have hT : C1 ++ (pd1 ++ [tx p]).map tkS = (pr tx e f (r + 1) dep (p + 1) ts).2.2 ++ [opB r + k] := by
        rw [List.map_append, ← List.append_assoc, r2, ← o2]; rfl
      have hpd1 : ∀ c, c ∈ pd1 ++ [tx p] → r + 1 ≤ rkC c := by
        intro c hc
        rcases List.mem_append.mp hc with y | y
        · have := r3 c y; omega
        · have : c = tx p := by simpa using y
          rw [this, o1]; exact Nat.le_refl _
      have r4' : ∀ i, i < dep → cm1 i = cm i := fun i hi => by
        rw [r4 i hi]
        show (if i = dep then _ else cm i) = cm i
        rw [if_neg (by omega)]
      by_cases h0 : r = 0
      · rw [if_neg (show ¬ 4 < 4 + r by omega)]
        refine ⟨fun _ => ⟨C1, pd1 ++ [tx p], cm1, dg1, ?_, hT, hpd1, r4', fun y => absurd y (by omega), fun hP => ⟨(r6 hP).1, fun r' h1 h3 => ?_⟩⟩, fun z => (by cases z)⟩
        · rw [s1, r1, hst]
        · by_cases y : r' = 0
          · refine Or.inr ⟨y, ?_⟩
            rw [r5', o1, h0]; simp
          · exact (r6 hP).2 r' (by omega) h3
      · rw [if_pos (show 4 < 4 + r by omega)]
        have r5c : cm1 dep = cm dep := by
          rw [r5', decide_eq_false (show ¬ rkC (tx p) = 1 by omega), Bool.or_false]
        have b := hB r dep _ _ C1 (pd1 ++ [tx p]) S cm1 dg1 hr g.2.1 hd (by omega) hT hpd1 hS (fun z => absurd z h0) r6
        have s2 : ru tx (e - p) p (C, pd ++ S, dep, cm, dg, false) = ru tx (e - (pr tx e f (r + 1) dep (p + 1) ts).2.1) (pr tx e f (r + 1) dep (p + 1) ts).2.1 (C1, (pd1 ++ [tx p]) ++ S, dep, cm1, dg1, false) := by
          rw [s1, r1, hst]
        refine ⟨fun z => ?_, fun z => (b.2 z).st s2⟩
        obtain ⟨C2, pd2, cm2, dg2, t1, t2, t3, t4, t5, t6⟩ := b.1 z
        exact ⟨C2, pd2, cm2, dg2, s2.trans t1, t2, t3, fun i hi => (t4 i hi).trans (r4' i hi), fun y => (t5 y).trans r5c, t6⟩
theorem pA_thing (h2 : ∀ j, j < e → tx j < 256) {f : Nat} (hA : pA tx e f) : ∀ dep p ts S cm dg, p ≤ e → dep ≤ 4 → 8 * (e - p) + 1 ≤ f + 1 → ((pr tx e (f + 1) 3 dep p ts).1 = true → okR tx e 3 p dep cm S (ts, S, dep, cm, dg, true) (pr tx e (f + 1) 3 dep p ts).2.1 (pr tx e (f + 1) 3 dep p ts).2.2) ∧ ((pr tx e (f + 1) 3 dep p ts).1 = false → badR tx e p (ts, S, dep, cm, dg, true) (pr tx e (f + 1) 3 dep p ts).2.1) := by
  intro dep p ts S cm dg hp hd hf
  have hnone : ∀ P cm' dg', (P < e → isDg (tx P) = true → dg' = 0 ∨ dg' = 3) → nxt tx e 3 P cm' dep dg' := fun P cm' dg' hh hP => ⟨hh hP, fun r' a b => by omega⟩
  have hend : p = e → badR tx e p (ts, S, dep, cm, dg, true) p := fun z => Or.inr ⟨z, _, ru_e z, Or.inl rfl⟩
  rw [pr, if_neg (by omega), if_pos rfl]
  by_cases zm : (decide (p < e) && decide (tx p = 45)) = true
  · rw [if_pos zm]
    rw [Bool.and_eq_true, decide_eq_true_iff, decide_eq_true_iff] at zm
    have s1 : ru tx (e - p) p (ts, S, dep, cm, dg, true) = ru tx (e - (p + 1)) (p + 1) (ts, 256 :: S, dep, cm, 0, true) := by
      refine ru_s zm.1 ?_
      rw [zm.2, ac_w (by decide), if_pos rfl]
    have a := hA 3 dep (p + 1) ts (256 :: S) cm 0 (by omega) (by omega) hd (by omega) (fun c z => absurd z (by omega)) (fun z => by omega)
    refine ⟨fun z => ?_, fun z => (a.2 z).st s1⟩
    obtain ⟨C1, pd1, cm1, dg1, r1, r2, r3, r4, r5, r6⟩ := a.1 z
    refine ⟨C1, pd1 ++ [256], cm1, dg1, ?_, ?_, fun c hc => ?_, r4, r5, r6⟩
    · rw [s1, r1]; simp
    · show C1 ++ (pd1 ++ [256]).map tkS = (pr tx e f 3 dep (p + 1) ts).2.2 ++ [3000]
      rw [List.map_append, ← List.append_assoc, r2]; rfl
    · rcases List.mem_append.mp hc with y | y
      · exact r3 c y
      · have : c = 256 := by simpa using y
        rw [this]; decide
  · rw [if_neg zm]
    by_cases zd : (decide (p < e) && isDg (tx p)) = true
    · rw [if_pos zd]
      have h1 := nDg_1 zd
      have h3 := nDg_le tx e p
      refine ⟨fun _ => ⟨ts ++ [vDg tx p (nDg tx e p)], [], cm, nDg tx e p, ?_, by simp, fun c hc => (by cases hc), fun _ _ => rfl, fun _ => rfl, hnone _ _ _ ?_⟩, fun z => (by cases z)⟩
      · have := ru_dg (tx := tx) (e := e) (p := p) (dep := dep) (dg := dg) (ts := ts) (S := S) (cm := cm) (nDg tx e p - 1) (by omega)
        rw [show nDg tx e p - 1 + 1 = nDg tx e p by omega] at this
        exact this
      · intro hP hdg
        dsimp only at hP hdg
        by_cases y : nDg tx e p < 3
        · rw [nDg_out y hP] at hdg; cases hdg
        · exact Or.inr (by omega)
    · rw [if_neg zd]
      cases hk : (if p < e then ixO str0 (tx p) else none) with
      | some k =>
        dsimp only
        have hpe : p < e := by
          by_cases y : p < e
          · exact y
          · rw [if_neg y] at hk; cases hk
        rw [if_pos hpe] at hk
        have h100 := ix0_ne hk
        refine ⟨fun _ => ⟨ts ++ [1000 + k], [], cm, 0, ?_, by simp, fun c hc => (by cases hc), fun _ _ => rfl, fun _ => rfl, hnone _ _ _ (fun _ _ => Or.inl rfl)⟩, fun z => (by cases z)⟩
        refine ru_s hpe ?_
        rw [ac_w (fun z => zd (by rw [decide_eq_true hpe, z]; rfl)), if_neg (by omega), if_neg (by omega), hk]
        rfl
      | none =>
        dsimp only
        have hno : (dep = 4 ∨ ¬ (decide (p < e) && decide (tx p = 40)) = true) → badR tx e p (ts, S, dep, cm, dg, true) p := by
          intro hh
          by_cases hpe : p < e
          · rw [if_pos hpe] at hk
            refine Or.inl (ru_n hpe ?_)
            rw [ac_w (fun z => zd (by rw [decide_eq_true hpe, z]; rfl)), if_neg (fun z => zm (by rw [decide_eq_true hpe, decide_eq_true z]; rfl))]
            by_cases z40 : tx p = 40
            · rw [if_pos z40]
              rcases hh with y | y
              · exact if_pos y
              · exact absurd (by rw [decide_eq_true hpe, decide_eq_true z40]; rfl) y
            · rw [if_neg z40, hk]
          · exact hend (by omega)
        by_cases h4 : dep = 4
        · rw [if_pos h4]
          exact ⟨fun z => (by cases z), fun _ => hno (Or.inl h4)⟩
        · rw [if_neg h4]
          by_cases zo : (decide (p < e) && decide (tx p = 40)) = true
          · rw [if_pos zo]
            have zo' := zo
            rw [Bool.and_eq_true, decide_eq_true_iff, decide_eq_true_iff] at zo'
            have s1 : ru tx (e - p) p (ts, S, dep, cm, dg, true) = ru tx (e - (p + 1)) (p + 1) (ts, 40 :: S, dep + 1, (fun i => if i = dep + 1 then false else cm i), 0, true) := by
              refine ru_s zo'.1 ?_
              rw [zo'.2, ac_w (by decide), if_neg (by decide), if_pos rfl, if_neg h4]
            have a := hA 0 (dep + 1) (p + 1) ts (40 :: S) (fun i => if i = dep + 1 then false else cm i) 0 (by omega) (by omega) (by omega) (by omega) (fun c _ hc => by
              have : 40 = c := by simpa using hc
              rw [← this]; decide) (fun _ => if_pos rfl)
            have g := pr_go tx e f 0 (dep + 1) (p + 1) ts (by omega)
            cases hb : (pr tx e f 0 (dep + 1) (p + 1) ts).1 with
            | false =>
              rw [if_neg (by decide)]
              exact ⟨fun z => (by rw [hb] at z; cases z), fun z => (a.2 z).st s1⟩
            | true =>
              rw [if_pos rfl]
              obtain ⟨C1, pd1, cm1, dg1, r1, r2, r3, r4, r5, r6⟩ := a.1 hb
              have s2 := s1.trans r1
              by_cases zc : (decide ((pr tx e f 0 (dep + 1) (p + 1) ts).2.1 < e) && decide (tx (pr tx e f 0 (dep + 1) (p + 1) ts).2.1 = 41)) = true
              · rw [if_pos zc]
                rw [Bool.and_eq_true, decide_eq_true_iff, decide_eq_true_iff] at zc
                obtain ⟨w1, w2⟩ := tW_pre (w := 1) (S := 40 :: S) (fun c hc => by
                  have : 40 = c := by simpa using hc
                  rw [← this]; decide) pd1 r3
                refine ⟨fun _ => ⟨(pr tx e f 0 (dep + 1) (p + 1) ts).2.2, [], cm1, 0, ?_, by simp, fun c hc => (by cases hc), fun i hi => ?_, fun _ => ?_, hnone _ _ _ (fun _ _ => Or.inl rfl)⟩, fun z => (by cases z)⟩
                · rw [s2]
                  refine ru_s zc.1 ?_
                  rw [zc.2, ac_cl, if_neg (by omega), w1, w2, r2]
                  rfl
                · rw [r4 i (by omega)]; show (if i = dep + 1 then false else cm i) = cm i; rw [if_neg (by omega)]
                · rw [r4 dep (by omega)]; show (if dep = dep + 1 then false else cm dep) = cm dep; rw [if_neg (by omega)]
              · rw [if_neg zc]
                refine ⟨fun z => (by cases z), fun _ => ?_⟩
                show badR tx e p _ (pr tx e f 0 (dep + 1) (p + 1) ts).2.1
                by_cases hP : (pr tx e f 0 (dep + 1) (p + 1) ts).2.1 < e
                · refine Or.inl (s2.trans (ru_n hP (nx_no hP (h2 _ hP) r6 (Or.inr (fun y => zc ?_)))))
                  rw [decide_eq_true hP, decide_eq_true y]; rfl
                · have hPe : (pr tx e f 0 (dep + 1) (p + 1) ts).2.1 = e := by omega
                  exact Or.inr ⟨hPe, _, s2.trans (ru_e hPe), Or.inr (by show dep + 1 ≠ 0; omega)⟩
          · rw [if_neg zo]
            exact ⟨fun z => (by cases z), fun _ => hno (Or.inr zo)⟩
theorem pAB (h2 : ∀ j, j < e → tx j < 256) : ∀ f, pA tx e f ∧ pB tx e f := by
  intro f
  induction f with
  | zero => exact ⟨fun w dep p ts S cm dg _ _ _ hf => absurd hf (by omega), fun r dep p ts C pd S cm dg _ _ _ hf => absurd hf (by omega)⟩
  | succ f ih =>
    refine ⟨fun w dep p ts S cm dg hw hp hd hf hS hcm => ?_, pB_step h2 ih.1 ih.2⟩
    by_cases z : w < 3
    · exact pA_rank ih.1 ih.2 w dep p ts S cm dg z hp hd hf hS hcm
    · have : w = 3 := by omega
      rw [this] at hf ⊢
      exact pA_thing h2 ih.1 dep p ts S cm dg hp hd (by omega)
end QC
