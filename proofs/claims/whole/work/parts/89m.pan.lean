/-! A rule read by the reference, whole. -/
section PN
variable {h : Bool × Nat × Nat} {K : Nat → Nat → Int32} {L : Nat → Nat → Int64} {tx : Nat → Nat} {e : Nat}
def rsO (tx : Nat → Nat) (e : Nat) (K K' : Nat → Nat → Int32) (dep : Nat) (q : Bool × Nat × List Nat) : Prop := rdM K' tx e q.2.1 ∧ tkM K' q.2.2 ∧ (q.1 = true → K' 139 13 = nI dep) ∧ fxM K K'
def prA (h : Bool × Nat × Nat) (L : Nat → Nat → Int64) (tx : Nat → Nat) (e f : Nat) : Prop := ∀ dep p ts K D, p ≤ e → dep ≤ 4 → ts.length ≤ p → 8 * (e - p) + 1 ≤ f → (e - p) + 4 * (4 - dep) + 6 ≤ D → rdM K tx e p → K 139 13 = nI dep → tkM K ts → ∃ K', ev_do D M_Mo_readsThing [.ref 139] (ev_mk h K L) = ev_ri (fl (pr tx e f 3 dep p ts).1) (ev_mk h K' L) ∧ rsO tx e K K' dep (pr tx e f 3 dep p ts)
def prB (h : Bool × Nat × Nat) (L : Nat → Nat → Int64) (tx : Nat → Nat) (e f : Nat) : Prop := ∀ w dep p ts K D, w < 3 → p ≤ e → dep ≤ 4 → ts.length ≤ p → 8 * (e - p) + 1 + 2 * (3 - w) ≤ f → (e - p) + 4 * (4 - dep) + 6 + (4 - w) ≤ D → rdM K tx e p → K 139 13 = nI dep → tkM K ts → ∃ K', ev_do D M_Mo_readsRank [.ref 139, .int (nI w)] (ev_mk h K L) = ev_ri (fl (pr tx e f w dep p ts).1) (ev_mk h K' L) ∧ rsO tx e K K' dep (pr tx e f w dep p ts)
def prC (h : Bool × Nat × Nat) (L : Nat → Nat → Int64) (tx : Nat → Nat) (e f : Nat) : Prop := ∀ r dep p ts K D, r < 3 → p ≤ e → dep ≤ 4 → ts.length ≤ p → 8 * (e - p) + 8 ≤ f → (e - p) + 4 * (4 - dep) + 6 + (3 - r) ≤ D → rdM K tx e p → K 139 13 = nI dep → tkM K ts → ∃ K', ev_at D M_Mo_readsRank 24 [.ref 139, .int (nI r), .int 1, .float 0] [] (ev_mk h K L) = ev_ri (fl (pr tx e f (4 + r) dep p ts).1) (ev_mk h K' L) ∧ rsO tx e K K' dep (pr tx e f (4 + r) dep p ts)
theorem fit_fl (b : Bool) : ev_fit .boolean (fl b) = true := by cases b <;> decide
/-- a rank's part, whatever the rank -/
theorem pr_R {f : Nat} (hA : prA h L tx e f) (hB : prB h L tx e f) {w dep p : Nat} {ts : List Nat} {D : Nat} (hw : w < 4) (hp : p ≤ e) (hd : dep ≤ 4) (hl : ts.length ≤ p) (hf : 8 * (e - p) + 1 + 2 * (3 - w) ≤ f) (hD : (e - p) + 4 * (4 - dep) + 6 + (4 - w) ≤ D) (hr : rdM K tx e p) (h13 : K 139 13 = nI dep) (ht : tkM K ts) : ∃ K', ev_do D M_Mo_readsRank [.ref 139, .int (nI w)] (ev_mk h K L) = ev_ri (fl (pr tx e f w dep p ts).1) (ev_mk h K' L) ∧ rsO tx e K K' dep (pr tx e f w dep p ts) := by
  by_cases z : w = 3
  · subst z
    obtain ⟨D', rfl⟩ : ∃ D', D = D' + 1 := ⟨D - 1, by omega⟩
    obtain ⟨K', e1, o⟩ := hA dep p ts K D' hp hd hl (by omega) (by omega) hr h13 ht
    refine ⟨K', ?_, o⟩
    rw [e_Mo_readsRank_0, if_pos (show nI 3 = 3 from rfl), e1, k_I, k_1, k_2, k_3, if_pos (fit_fl _)]
  · exact hB w dep p ts K D (by omega) hp hd hl hf hD hr h13 ht
theorem c_ops (d : Nat) {r : Nat} (hr3 : r < 3) {p : Nat} (hr : rdM K tx e p) : ev_at (d + 5) M_Mo_readsRank 24 [.ref 139, .int (nI r), .int 1, .float 0] [] (ev_mk h K L) = match (if p < e then ixO (opR r) (tx p) else none) with
    | none => ev_ri 1 (ev_mk h K L)
    | some k => ev_cI (ev_do (d + 5) M_Mo_readsRank [.ref 139, .int (nI (r + 1))] (ev_mk h (advK K (p + 1)) L)) (fun v4 s3 => (if v4 = 0 then ev_ri 0 (ev_mk s3.1.2 s3.2.1 s3.2.2.1) else ev_at (d + 5) M_Mo_readsRank 96 [.ref 139, .int (nI r), .float 0, .float 0] [.int (nI (opB r - 2000)), .int (nI (2000 + k)), .ref 139] (ev_mk s3.1.2 s3.2.1 s3.2.2.1))) := by
  have ix : ∀ r, r < 3 → ∀ c k, ixO (opR r) c = some k → k < 3 := by
    intro r hr c k hk
    have h1 := (fs_some hk).1
    have h2 : ∀ r, r < 3 → (opR r).length ≤ 3 := by decide
    have := h2 r hr
    omega
  rw [e_Mo_readsRank_24, if_neg (show ¬ (1 : Int32) = 0 by decide)]
  match r, hr3 with
  | 0, _ =>
    rw [if_pos (show nI 0 = 0 from rfl), e_Mo_readsRank_50, c_tk4 d hr, show opR 0 = str4 from rfl]
    cases hk : (if p < e then ixO str4 (tx p) else none) with
    | none => show ev_cI (ev_ri (-1) (ev_mk h K L)) _ = _; rw [k_I, k_1, k_2, k_3, if_pos (by decide)]
    | some k =>
      have hk3 : k < 3 := by
        by_cases y : p < e
        · rw [if_pos y] at hk; exact ix 0 (by omega) _ _ hk
        · rw [if_neg y] at hk; cases hk
      show ev_cI (ev_ri (nI k) (ev_mk h (advK K (p + 1)) L)) _ = _
      rw [k_I, k_1, k_2, k_3, if_neg (q_nn (by omega)), show nI 0 + 1 = nI (0 + 1) from q_add 0 1, show (2000 : Int32) + nI k = nI (2000 + k) from q_add 2000 k]
      simp only [show (nI 0 = (0 : Int32)) = True from eq_true rfl, ↓reduceIte]; rfl
  | 1, _ =>
    rw [if_neg (show ¬ nI 1 = 0 by decide), if_pos (show nI 1 = 1 from rfl), e_Mo_readsRank_50, c_tk5 d hr, show opR 1 = str5 from rfl]
    cases hk : (if p < e then ixO str5 (tx p) else none) with
    | none => show ev_cI (ev_ri (-1) (ev_mk h K L)) _ = _; rw [k_I, k_1, k_2, k_3, if_pos (by decide)]
    | some k =>
      have hk3 : k < 3 := by
        by_cases y : p < e
        · rw [if_pos y] at hk; exact ix 1 (by omega) _ _ hk
        · rw [if_neg y] at hk; cases hk
      show ev_cI (ev_ri (nI k) (ev_mk h (advK K (p + 1)) L)) _ = _
      rw [k_I, k_1, k_2, k_3, if_neg (q_nn (by omega)), show nI 1 + 1 = nI (1 + 1) from q_add 1 1, show (2000 : Int32) + nI k = nI (2000 + k) from q_add 2000 k]
      simp only [show (nI 1 = (0 : Int32)) = False from eq_false (by decide), show (nI 1 = (1 : Int32)) = True from eq_true rfl, ↓reduceIte]; rfl
  | 2, _ =>
    rw [if_neg (show ¬ nI 2 = 0 by decide), if_neg (show ¬ nI 2 = 1 by decide), e_Mo_readsRank_50, c_tk6 d hr, show opR 2 = str6 from rfl]
    cases hk : (if p < e then ixO str6 (tx p) else none) with
    | none => show ev_cI (ev_ri (-1) (ev_mk h K L)) _ = _; rw [k_I, k_1, k_2, k_3, if_pos (by decide)]
    | some k =>
      have hk3 : k < 3 := by
        by_cases y : p < e
        · rw [if_pos y] at hk; exact ix 2 (by omega) _ _ hk
        · rw [if_neg y] at hk; cases hk
      show ev_cI (ev_ri (nI k) (ev_mk h (advK K (p + 1)) L)) _ = _
      rw [k_I, k_1, k_2, k_3, if_neg (q_nn (by omega)), show nI 2 + 1 = nI (2 + 1) from q_add 2 1, show (2000 : Int32) + nI k = nI (2000 + k) from q_add 2000 k]
      simp only [show (nI 2 = (0 : Int32)) = False from eq_false (by decide), show (nI 2 = (1 : Int32)) = False from eq_false (by decide), ↓reduceIte]; rfl
theorem pr_C {f : Nat} (he : e ≤ 40) (hA : prA h L tx e f) (hB : prB h L tx e f) (hC : prC h L tx e f) : prC h L tx e (f + 1) := by
  intro r dep p ts K D hr3 hp hd hl hf hD hr h13 ht
  obtain ⟨D', rfl⟩ : ∃ D', D = D' + 5 := ⟨D - 5, by omega⟩
  have go := pr_go tx e f (r + 1) dep (p + 1) ts
  rw [c_ops D' hr3 hr, pr, if_neg (show ¬ 4 + r < 3 by omega), if_neg (show ¬ 4 + r = 3 by omega), show 4 + r - 4 = r by omega]
  cases hk : (if p < e then ixO (opR r) (tx p) else none) with
  | none => exact ⟨K, rfl, hr, ht, fun _ => h13, fxM.rf⟩
  | some k =>
    have hpe : p < e := by
      by_cases y : p < e
      · exact y
      · rw [if_neg y] at hk; cases hk
    have go := go (by omega)
    obtain ⟨K1, e1, o1, o2, o3, o4⟩ := pr_R (K := advK K (p + 1)) hA hB (w := r + 1) (dep := dep) (p := p + 1) (ts := ts) (D := D' + 5) (by omega) (by omega) hd (by omega) (by omega) (by omega) (hr.adv (by omega)) ((u_j (by omega)).trans h13) (ht.w (by omega) (by omega))
    have fx1 : fxM K K1 := (fxM.rf.up (by omega)).tr o4
    dsimp only
    rw [e1, k_I, k_1, k_2, k_3]
    cases hb : (pr tx e f (r + 1) dep (p + 1) ts).1 with
    | false =>
      rw [if_pos (show fl false = 0 from rfl), if_neg (by decide)]
      exact ⟨K1, by rw [hb]; rfl, o1, o2, fun z => (by rw [hb] at z; cases z), fx1⟩
    | true =>
      have g4 := go.2.2.2 (by omega) hb
      obtain ⟨K2, e2, t2, f2, r2, d2⟩ := c_codes (h := h) (L := L) (D' + 4) o2 (by omega) (opB r + k) o1
      have eo : nI (2000 + k) + nI (opB r - 2000) = nI (opB r + k) := by
        have h0 : ∀ r, r < 3 → 2000 ≤ opB r := by decide
        have h1 := h0 r hr3
        rw [q_add, show 2000 + k + (opB r - 2000) = opB r + k by omega]
      rw [if_neg (show ¬ fl true = 0 by decide), if_pos rfl, e_Mo_readsRank_96, eo, e2, k_V, k_1, k_2, k_3]
      by_cases z : 0 < r
      · rw [if_pos (show (0 : Int32) < nI r from (q_lt (a := 0) (by omega) (by omega)).mpr z), if_pos (show 4 < 4 + r by omega)]
        have hlen : ((pr tx e f (r + 1) dep (p + 1) ts).2.2 ++ [opB r + k]).length = (pr tx e f (r + 1) dep (p + 1) ts).2.2.length + 1 := by rw [List.length_append]; rfl
        obtain ⟨K3, e3, q1, q2, q3, q4⟩ := hC r dep (pr tx e f (r + 1) dep (p + 1) ts).2.1 ((pr tx e f (r + 1) dep (p + 1) ts).2.2 ++ [opB r + k]) K2 (D' + 5) hr3 go.2.1 hd (by rw [hlen]; omega) (by omega) (by omega) r2 (d2.trans (o3 hb)) t2
        exact ⟨K3, e3, q1, q2, q3, (fx1.tr f2).tr q4⟩
      · rw [if_neg (show ¬ (0 : Int32) < nI r from fun y => z ((q_lt (a := 0) (by omega) (by omega)).mp y)), if_neg (show ¬ 4 < 4 + r by omega), e_Mo_readsRank_24, if_pos rfl]
        exact ⟨K2, rfl, r2, t2, fun _ => d2.trans (o3 hb), fx1.tr f2⟩
theorem pr_B {f : Nat} (he : e ≤ 40) (hA : prA h L tx e f) (hB : prB h L tx e f) (hC : prC h L tx e f) : prB h L tx e (f + 1) := by
  intro w dep p ts K D hw hp hd hl hf hD hr h13 ht
  obtain ⟨D', rfl⟩ : ∃ D', D = D' + 1 := ⟨D - 1, by omega⟩
  have go := pr_go tx e f (w + 1) dep p ts hp
  obtain ⟨K1, e1, o1, o2, o3, o4⟩ := pr_R (K := K) hA hB (w := w + 1) (dep := dep) (p := p) (ts := ts) (D := D') (by omega) hp hd hl (by omega) (by omega) hr h13 ht
  rw [e_Mo_readsRank_0, if_neg (show ¬ nI w = 3 from fun z => absurd ((q_eq (b := 3) (by omega) (by omega)).mp z) (by omega)), show nI w + 1 = nI (w + 1) from q_add w 1, e1, k_I, k_1, k_2, k_3, pr, if_pos hw]
  cases hb : (pr tx e f (w + 1) dep p ts).1 with
  | false =>
    rw [if_pos (show fl false = 0 from rfl), if_neg (by decide)]
    exact ⟨K1, by rw [hb]; rfl, o1, o2, fun z => (by rw [hb] at z; cases z), o4⟩
  | true =>
    have g4 := go.2.2.2 (by omega) hb
    rw [if_neg (show ¬ fl true = 0 by decide), if_pos rfl]
    obtain ⟨K3, e3, q1, q2, q3, q4⟩ := hC w dep (pr tx e f (w + 1) dep p ts).2.1 (pr tx e f (w + 1) dep p ts).2.2 K1 D' hw go.2.1 hd (by omega) (by omega) (by omega) o1 (o3 hb) o2
    exact ⟨K3, e3, q1, q2, q3, o4.tr q4⟩
theorem pr_A {f : Nat} (he : e ≤ 40) (hA : prA h L tx e f) (hB : prB h L tx e f) : prA h L tx e (f + 1) := by
  intro dep p ts K D hp hd hl hf hD hr h13 ht
  obtain ⟨D', rfl⟩ : ∃ D', D = D' + 6 := ⟨D - 6, by omega⟩
  rw [e_Mo_readsThing_0, show (.int 45 : Value) = .int (nI 45) from rfl, c_takes (D' + 3) (by omega) hr, k_I, k_1, k_2, k_3, pr, if_neg (show ¬ 3 < 3 by omega), if_pos (show 3 = 3 from rfl)]
  cases h45 : decide (p < e) && decide (tx p = 45) with
  | true =>
    have h45' := h45
    rw [Bool.and_eq_true, decide_eq_true_iff] at h45'
    have go := pr_go tx e f 3 dep (p + 1) ts (by omega)
    rw [if_pos (show true = true from rfl), if_pos (show true = true from rfl), if_neg (show ¬ fl true = 0 by decide)]
    obtain ⟨K1, e1, o1, o2, o3, o4⟩ := hA dep (p + 1) ts (advK K (p + 1)) (D' + 5) (by omega) hd (by omega) (by omega) (by omega) (hr.adv (by omega)) ((u_j (by omega)).trans h13) (ht.w (by omega) (by omega))
    obtain ⟨K2, e2, t2, f2, r2, d2⟩ := c_codes (h := h) (L := L) (D' + 4) o2 (by omega) 3000 o1
    refine ⟨K2, ?_, r2, t2, fun z => d2.trans (o3 z), ((fxM.rf.up (by omega)).tr o4).tr f2⟩
    rw [e1, k_I, k_1, k_2, k_3, show (.int 3000 : Value) = .int (nI 3000) from rfl, e2, k_V, k_1, k_2, k_3, if_pos (fit_fl _)]
  | false =>
    rw [if_neg (show ¬ false = true by decide), if_neg (show ¬ false = true by decide), if_pos (show fl false = 0 from rfl), show advK K (p + 0) = K from hr.id, c_isDigit (D' + 3) hr, k_I, k_1, k_2, k_3]
    cases hdg : decide (p < e) && isDg (tx p) with
    | true =>
      have hn1 := nDg_1 hdg
      have hne := nDg_e (tx := tx) hp
      rw [if_neg (show ¬ fl true = 0 by decide), if_pos (show true = true from rfl), c_number3 (D' + 2) hr hdg, k_I, k_1, k_2, k_3]
      obtain ⟨K2, e2, t2, f2, r2, d2⟩ := c_codes (h := h) (L := L) (K := advK K (p + nDg tx e p)) (D' + 4) (ht.w (by omega) (by omega)) (by omega) (vDg tx p (nDg tx e p)) (hr.adv hne)
      refine ⟨K2, ?_, r2, t2, fun _ => d2.trans ((u_j (by omega)).trans h13), (fxM.rf.up (by omega)).tr f2⟩
      rw [e2, k_V, k_1, k_2, k_3]; rfl
    | false =>
      rw [if_pos (show fl false = 0 from rfl), if_neg (show ¬ false = true by decide), c_tk0 D' hr]
      cases hk : (if p < e then ixO str0 (tx p) else none) with
      | some k =>
        have hpe : p < e := by
          by_cases y : p < e
          · exact y
          · rw [if_neg y] at hk; cases hk
        have hk7 : k < 7 := by rw [if_pos hpe] at hk; exact (fs_some hk).1
        dsimp only
        obtain ⟨K2, e2, t2, f2, r2, d2⟩ := c_codes (h := h) (L := L) (K := advK K (p + 1)) (D' + 4) (ht.w (by omega) (by omega)) (by omega) (1000 + k) (hr.adv (by omega))
        refine ⟨K2, ?_, r2, t2, fun _ => d2.trans ((u_j (by omega)).trans h13), (fxM.rf.up (by omega)).tr f2⟩
        rw [k_I, k_1, k_2, k_3, if_neg (q_nn (by omega)), show (1000 : Int32) + nI k = nI (1000 + k) from q_add 1000 k, e2, k_V, k_1, k_2, k_3]; rfl
      | none =>
        dsimp only
        rw [k_I, k_1, k_2, k_3, if_pos (show (-1 : Int32) < 0 by decide), h13]
        by_cases h4 : dep = 4
        · rw [if_pos (show nI dep = 4 by rw [h4]; rfl), if_pos h4]
          exact ⟨K, rfl, hr, ht, fun z => (by cases z), fxM.rf⟩
        · rw [if_neg (show ¬ nI dep = 4 from fun z => h4 ((q_eq (b := 4) (by omega) (by omega)).mp z)), if_neg h4, show (.int 40 : Value) = .int (nI 40) from rfl, c_takes (D' + 3) (by omega) hr, k_I, k_1, k_2, k_3]
          cases h40 : decide (p < e) && decide (tx p = 40) with
          | false =>
            rw [if_neg (show ¬ false = true by decide), if_neg (show ¬ false = true by decide), if_pos (show fl false = 0 from rfl), show advK K (p + 0) = K from hr.id]
            exact ⟨K, rfl, hr, ht, fun z => (by cases z), fxM.rf⟩
          | true =>
            have h40' := h40
            rw [Bool.and_eq_true, decide_eq_true_iff] at h40'
            have go := pr_go tx e f 0 (dep + 1) (p + 1) ts (by omega)
            rw [if_pos (show true = true from rfl), if_pos (show true = true from rfl), if_neg (show ¬ fl true = 0 by decide), show advK K (p + 1) 139 13 = nI dep from (u_j (by omega)).trans h13, show nI dep + 1 = nI (dep + 1) from q_add dep 1, show (.int 0 : Value) = .int (nI 0) from rfl]
            obtain ⟨K1, e1, o1, o2, o3, o4⟩ := hB 0 (dep + 1) (p + 1) ts (ev_up (advK K (p + 1)) 139 13 (nI (dep + 1))) (D' + 5) (by omega) (by omega) (by omega) (by omega) (by omega) (by omega) ((hr.adv (by omega)).w (by omega) (by omega)) (u_at _ _ _ _) ((ht.w (by omega) (by omega)).w (by omega) (by omega))
            have fx1 : fxM K K1 := ((fxM.rf.up (by omega)).up (by omega)).tr o4
            rw [e1, k_I, k_1, k_2, k_3]
            cases hb : (pr tx e f 0 (dep + 1) (p + 1) ts).1 with
            | false =>
              rw [if_pos (show fl false = 0 from rfl), if_neg (show ¬ false = true by decide)]
              exact ⟨K1, by rw [hb]; rfl, o1, o2, fun z => (by rw [hb] at z; cases z), fx1⟩
            | true =>
              rw [if_neg (show ¬ fl true = 0 by decide), if_pos (show true = true from rfl), show (.int 41 : Value) = .int (nI 41) from rfl, c_takes (D' + 3) (by omega) o1, k_I, k_1, k_2, k_3]
              cases h41 : decide ((pr tx e f 0 (dep + 1) (p + 1) ts).2.1 < e) && decide (tx (pr tx e f 0 (dep + 1) (p + 1) ts).2.1 = 41) with
              | false =>
                rw [if_neg (show ¬ false = true by decide), if_neg (show ¬ false = true by decide), if_pos (show fl false = 0 from rfl), show advK K1 ((pr tx e f 0 (dep + 1) (p + 1) ts).2.1 + 0) = K1 from o1.id]
                exact ⟨K1, rfl, o1, o2, fun z => (by cases z), fx1⟩
              | true =>
                have h41' := h41
                rw [Bool.and_eq_true, decide_eq_true_iff] at h41'
                rw [if_pos (show true = true from rfl), if_pos (show true = true from rfl), if_neg (show ¬ fl true = 0 by decide), show advK K1 ((pr tx e f 0 (dep + 1) (p + 1) ts).2.1 + 1) 139 13 = nI (dep + 1) from (u_j (by omega)).trans (o3 hb), show nI (dep + 1) - 1 = nI dep from q_sub (a := dep + 1) (b := 1) (by omega)]
                exact ⟨_, rfl, (o1.adv (by omega)).w (by omega) (by omega), (o2.w (by omega) (by omega)).w (by omega) (by omega), fun _ => u_at _ _ _ _, (fx1.up (by omega)).up (by omega)⟩
theorem pr_all (he : e ≤ 40) : ∀ f, prA h L tx e f ∧ prB h L tx e f ∧ prC h L tx e f
  | 0 => ⟨fun _ _ _ _ _ _ _ _ z => absurd z (by omega), fun _ _ _ _ _ _ _ _ _ _ z => absurd z (by omega), fun _ _ _ _ _ _ _ _ _ _ z => absurd z (by omega)⟩
  | f + 1 => by
    obtain ⟨a, b, c⟩ := pr_all he f
    exact ⟨pr_A he a b, pr_B he a b c, pr_C he a b c⟩
end PN
