section EVS
variable {p : Program} {l : Launch} {e : Env} {R : Room} {s : State} {m : MethodId} {args : Array Value} {below : List Frame} {meth : Method} {c : Code} {g : ev_G} {sd : Bool} {d : Nat} {M : ev_Me} {σ0 : ev_S} {r : ev_R}
theorem ev_E_congr {σ τ : ev_S} {k : Nat} (h1 : σ.2.1 k = τ.2.1 k) (h2 : σ.2.2.1 k = τ.2.2.1 k) (h3 : σ.2.2.2 k = τ.2.2.2 k) : ev_E g σ k = ev_E g τ k := by
  unfold ev_E
  split
  · rename_i ci _
    have : ev_fldv g σ k ci = ev_fldv g τ k ci := by
      funext j
      unfold ev_fldv
      rw [h1, h3]
    rw [this]
  · rw [h2]
  · rw [h3]
  · rw [h3]
  · rw [h1]
theorem ev_up_ne {α : Type} {f : Nat → Nat → α} {k j q : Nat} {v : α} (h : q ≠ k) : ev_up f k j v q = f q := by
  funext b
  unfold ev_up
  rw [if_neg (fun z => h z.1)]
/-- one cell of the store is written -/
theorem ev_Rep_upd {σ τ : ev_S} {H H1 : Heap} {k : Nat} (hR : ev_Rep g σ H) (h1 : τ.1 = σ.1) (hz : H1.size = H.size) (ho : ∀ q : Nat, q ≠ g.2.1 + k → H1[q]? = H[q]?) (hat : va_at g.1 vwCl (g.2.1 + k, ev_E g τ k) H1) (hE : ∀ q, q ≠ k → ev_E g τ q = ev_E g σ q) : ev_Rep g τ H1 := by
  obtain ⟨r1, r2, r3, r4, r5⟩ := hR
  refine ⟨by rw [h1, hz]; exact r1, by rw [h1, hz]; exact r2, fun q hq => (ho q (by omega)).trans (r3 q hq), by rw [h1]; exact r4, fun q hq => ?_⟩
  by_cases hqk : q = k
  · subst hqk; exact hat
  · rw [hE q hqk]
    rw [h1] at hq
    exact (r5 q hq).kept (ho _ (fun z => hqk (by have : g.2.1 + q = g.2.1 + k := z; omega)))
/-- a step that writes one cell -/
theorem ev_P.wr {pc pc' : Nat} {ls st st' : List Value} {σ τ : ev_S} (h1 : τ.1 = σ.1) (h2 : sd = true → τ.2.2.2 = σ.2.2.2)
    (hw : ∀ (H : Heap) (lc : Array Slot) (locs : List Loc) (cells slots : Nat) (Q : State → Prop), ev_Rep g σ H → va_S (ev_A g) s.heap H locs → (∀ (H1 : Heap) (locs1 : List Loc), ev_Rep g τ H1 → va_S (ev_A g) s.heap H1 locs1 → W p l e (ev_rm d σ0 r.2) s m args below meth c H1 locs1 cells slots Q (F0 m pc' lc (st'.map (ev_uv g)))) → W p l e (ev_rm d σ0 r.2) s m args below meth c H locs cells slots Q (F0 m pc lc (st.map (ev_uv g))))
    (h : ev_P p l e s m args below meth c g sd d M σ0 r pc' ls st' τ) : ev_P p l e s m args below meth c g sd d M σ0 r pc ls st σ := by
  intro h0
  have e1 : ev_c τ = ev_c σ := by unfold ev_c; rw [h1]
  have e2 : ev_s τ = ev_s σ := by unfold ev_s; rw [h1]
  have hle : ev_le sd σ τ := ⟨Nat.le_of_eq e1.symm, Nat.le_of_eq e2.symm, fun z => ⟨by rw [h1], h2 z⟩⟩
  obtain ⟨g1, g2⟩ := h (h0.tr hle)
  rw [e1, e2] at g2
  exact ⟨hle.tr g1, fun H lc locs hR hl hS => hw H lc locs _ _ _ hR hS (fun H1 locs1 hR1 hS1 => g2 H1 lc locs1 hR1 hl hS1)⟩
/-- a step that writes one cell -/
theorem ev_P.wrl {pc pc' : Nat} {ls st st' : List Value} {σ τ : ev_S} (h1 : τ.1 = σ.1) (h2 : sd = true → τ.2.2.2 = σ.2.2.2)
    (hw : ∀ (H : Heap) (lc : Array Slot) (locs : List Loc) (cells slots : Nat) (Q : State → Prop), ev_Rep g σ H → ev_lv g lc M.2.2.1 ls → va_S (ev_A g) s.heap H locs → (∀ (H1 : Heap) (locs1 : List Loc), ev_Rep g τ H1 → va_S (ev_A g) s.heap H1 locs1 → W p l e (ev_rm d σ0 r.2) s m args below meth c H1 locs1 cells slots Q (F0 m pc' lc (st'.map (ev_uv g)))) → W p l e (ev_rm d σ0 r.2) s m args below meth c H locs cells slots Q (F0 m pc lc (st.map (ev_uv g))))
    (h : ev_P p l e s m args below meth c g sd d M σ0 r pc' ls st' τ) : ev_P p l e s m args below meth c g sd d M σ0 r pc ls st σ := by
  intro h0
  have e1 : ev_c τ = ev_c σ := by unfold ev_c; rw [h1]
  have e2 : ev_s τ = ev_s σ := by unfold ev_s; rw [h1]
  have hle : ev_le sd σ τ := ⟨Nat.le_of_eq e1.symm, Nat.le_of_eq e2.symm, fun z => ⟨by rw [h1], h2 z⟩⟩
  obtain ⟨g1, g2⟩ := h (h0.tr hle)
  rw [e1, e2] at g2
  exact ⟨hle.tr g1, fun H lc locs hR hl hS => hw H lc locs _ _ _ hR hl hS (fun H1 locs1 hR1 hS1 => g2 H1 lc locs1 hR1 hl hS1)⟩
/-- a putfield: v goes to the field j of the object k -/
theorem ev_putF (hTC : ev_TC) (hA : ev_At p g M s m args meth c) {ci j fin k idx pc : Nat} {σ τ : ev_S} {v : Value} (hci : ci < 11) (hj : j < (ev_cl ci).2.2) (hw : Cond.fieldLink (ev_cn M.2.2.2.2.1) idx (ev_cl ci).1 ((ev_cl ci).2.1 j).2.1 ((ev_cl ci).2.1 j).2.2.1 ∈ ev_gw) (hd : ((ev_cl ci).2.1 j).1 = (ev_cl ci).1) (hfin : ((ev_cl ci).2.1 j).2.2.2 = Nat.beq fin 1) (hini : (Nat.beq fin 1 && !(M.1.name == "<init>" && ci + 1 == M.2.2.2.2.1)) = false)
    (hk : k < σ.1.1) (hlay : ev_lay k = (0, ci)) (hn : narrow (ev_ft ci j) (ev_uv g v) = ev_uv g v) (hfit : fits (ev_ft ci j) (ev_uv g v) = true) (h1 : τ.1 = σ.1) (hE : ∀ q, q ≠ k → ev_E g τ q = ev_E g σ q) (hv : ∀ q, q < (ev_cl ci).2.2 → ev_fldv g τ k ci q = if q = j then ev_uv g v else ev_fldv g σ k ci q) (hdg : decode M.2.1 pc = .ok (.putfield idx, 3))
    {H : Heap} {lc : Array Slot} {locs : List Loc} {cells slots : Nat} {Q : State → Prop} {rest : List Value} (hR : ev_Rep g σ H) (hS : va_S (ev_A g) s.heap H locs)
    (kk : ∀ (H1 : Heap) (locs1 : List Loc), ev_Rep g τ H1 → va_S (ev_A g) s.heap H1 locs1 → W p l e R s m args below meth c H1 locs1 cells slots Q (F0 m (pc + 3) lc rest)) : W p l e R s m args below meth c H locs cells slots Q (F0 m pc lc (ev_uv g v :: .ref (ev_ad g k) :: rest)) := by
  obtain ⟨hx, hb, hml, hr, hlocks, hown, hnm, -, hts, hCx, hold, hb0⟩ := hA
  obtain ⟨c1, c2, c3, c4, c5, c6, c7⟩ := hTC ci hci
  obtain ⟨cell, q1, q2, q3, q4⟩ := ev_atO hTC hci hR hk hlay
  obtain ⟨hSl, hfc, kC, hkC, hkind⟩ := hCx.1.1 ci _ c1
  obtain ⟨cf, kf, fi, f, hi, hsl⟩ := hSl j hj
  have hap := va_apart (own := ev_cn M.2.2.2.2.1) hts c2 (ev_ft ci) c3 c4 hCx.1 c1
  have hst := (u_facts hfc hkC (u_lays hts c2 hj) hi).1
  rw [ev_ad_cell (Nat.lt_of_lt_of_le hk hR.2.2.2.1)]
  have done : ∀ H' : Heap, H'[g.2.1 + k]? = some (cell.setSlot (g.1.2 ci j) (ev_uv g v)) → H'.size = H.size → (∀ q, q ≠ g.2.1 + k → H'[q]? = H[q]?) → W p l e R s m args below meth c H' (locs ++ [⟨g.2.1 + k, g.1.2 ci j⟩]) cells slots Q (F0 m (pc + 3) lc rest) := by
    intro H' e1 e2 e3
    refine kk H' _ (ev_Rep_upd hR h1 e2 e3 ?_ hE) (hS.put e2 e3 (show g.2.1 ≤ g.2.1 + k by omega))
    unfold ev_E
    rw [hlay]
    refine ⟨_, c1, t_OB.to (V := updV (ev_fldv g σ k ci) j (ev_uv g v)) ⟨_, e1, q2, q3, t_set q4 hap hj (ev_uv g v)⟩ (fun q hq => ?_)⟩
    show updV (ev_fldv g σ k ci) j (ev_uv g v) q = ((List.range (ev_cl ci).2.2).map (ev_fldv g τ k ci)).getD q .null
    simp only [List.getD, List.getElem?_map, List.getElem?_range hq, Option.map_some, Option.getD_some]
    rw [hv q hq]
    by_cases z : q = j
    · simp [updV, z]
    · simp [updV, z]
  have hlay2 := hts _ (c2 _ (u_in_lay hj))
  unfold u_lay at hlay2
  cases hf1 : Nat.beq fin 1 with
  | false =>
    rw [if_neg (by rw [hfin, hf1]; decide)] at hlay2
    have h6 := u_store hfc hkC hkind hlay2 hi (c3 j hj) hn hfit
    refine W.putK hx hb (f := f) ⟨hown, hts _ hw, ⟨_, _, _, by rw [hd] at hi; exact hi⟩, hst⟩ (by rw [q2]; exact h6) q1 q3 (by rw [hsl]; exact k2_hasslot (q4 j hj)) rfl rfl hdg fun H' e1 e2 e3 => ?_
    rw [hsl] at e1 ⊢
    exact done H' e1 e2 e3
  | true =>
    rw [hf1] at hini
    simp only [Bool.true_and, Bool.not_eq_false', Bool.and_eq_true, beq_iff_eq] at hini
    rw [if_pos (by rw [hfin, hf1])] at hlay2
    have hcf : m.cls = cf := by
      obtain ⟨_, _, c', _, _, _, -, -, hf', -, -, -, hown2, -⟩ := Cond.laysFinal_spec hlay2
      have e1 : c' = cf := by have := hi.symm.trans hf'; simp at this; exact this.1.symm
      rw [hd, ← c5, hini.2] at hown2
      rw [← e1]; exact Option.some.inj (hown.symm.trans hown2)
    have h6 := u_fits hfc hkC hkind (Or.inr hlay2) hi (c3 j hj) hn hfit
    refine W.putFinK hx hb hown (hts _ hw) (by rw [hd] at hi; exact hi) hst hcf (hnm.trans hini.1) (by rw [q2]; exact h6) q1 q3 (by rw [hsl]; exact k2_hasslot (q4 j hj)) rfl rfl hdg fun H' e1 e2 e3 => ?_
    rw [hsl] at e1 ⊢
    exact done H' e1 e2 e3
theorem ev_nar_int (x : Int32) : narrow .int (.int x) = .int x := rfl
theorem ev_nar_ref {ty : FieldType} (h : (∃ n, ty = .object n) ∨ ∃ t, ty = .array t) (a : Nat) : narrow ty (.ref a) = .ref a ∧ fits ty (.ref a) = true := by
  rcases h with ⟨n, rfl⟩ | ⟨t, rfl⟩ <;> exact ⟨rfl, rfl⟩
theorem ev_fit_bool {x : Int32} (h : narrow .boolean (.int x) = .int x) : fits .boolean (.int x) = true := by
  rw [← h]
  simp only [narrow, fits]
  obtain ⟨j, hj, e⟩ := pk_andE x (m := 1) 1 (by decide)
  rw [e]
  rcases (show j = 0 ∨ j = 1 by omega) with rfl | rfl <;> decide
/-- an element of a row of ints is written -/
theorem ev_stI (hCx : ev_Cx g s) {k t n q : Nat} {ty : FieldType} {σ : ev_S} {y : Int32} {H H1 : Heap} (hR : ev_Rep g σ H) (hk : k < σ.1.1) (hlay : ev_lay k = (t, n)) (ht : t = 1 ∧ ty = .int ∨ t = 3 ∧ ty = .char ∨ t = 4 ∧ ty = .boolean) (e1 : H1[g.2.1 + k]? = some ((arrV (g.2.2.2.2.2.2 t) n (fun j => .int (σ.2.1 k j))).setSlot q (.int y))) (e2 : H1.size = H.size) (e3 : ∀ q, q ≠ g.2.1 + k → H1[q]? = H[q]?) : ev_Rep g (ev_putI σ k q y) H1 := by
  refine ev_Rep_upd (σ := σ) hR rfl e2 e3 ?_ (fun a ha => ev_E_congr (ev_up_ne ha) rfl rfl)
  have hE : ev_E g (ev_putI σ k q y) k = .inl (g.2.2.2.2.2.2 t, n, .inl (ev_up σ.2.1 k q y k)) := by
    unfold ev_E
    rw [hlay]
    rcases ht with ⟨rfl, -⟩ | ⟨rfl, -⟩ | ⟨rfl, -⟩ <;> rfl
  rw [hE]
  show H1[g.2.1 + k]? = some (vp_cell _ _)
  rw [e1, vp_cell_i, arrV_store]
  congr 2
  funext j
  by_cases hj : j = q
  · subst hj; simp [updV, ev_up]
  · simp [updV, ev_up, hj]
theorem ev_Rep_more {σ : ev_S} {H H1 : Heap} {x : Nat} (hR : ev_Rep g σ H) (ho : σ.1.2.1 = true) (hn : σ.1.1 < 900000) (hz : H1.size = H.size + 1) (hq : ∀ q : Nat, q < H.size → H1[q]? = H[q]?) (hat : va_at g.1 vwCl (g.2.1 + σ.1.1, ev_E g (ev_more σ x) σ.1.1) H1) : ev_Rep g (ev_more σ x) H1 := by
  obtain ⟨r1, r2, r3, r4, r5⟩ := hR
  have hs := r2 ho
  refine ⟨by show g.2.1 + (σ.1.1 + 1) ≤ _; omega, fun _ => by show H1.size = g.2.1 + (σ.1.1 + 1); omega, fun q h => (hq q (by omega)).trans (r3 q h), hn, fun k hk => ?_⟩
  have hk' : k < σ.1.1 + 1 := hk
  by_cases hkn : k = σ.1.1
  · subst hkn; exact hat
  · have hne : Nat.beq k σ.1.1 = false := by
      cases hb : Nat.beq k σ.1.1 with
      | false => rfl
      | true => exact absurd (Nat.eq_of_beq_eq_true hb) hkn
    rw [ev_E_congr (τ := σ) (by funext b; show (bif Nat.beq k σ.1.1 then _ else _) = _; rw [hne]; rfl) (by funext b; show (bif Nat.beq k σ.1.1 then _ else _) = _; rw [hne]; rfl) (by funext b; show (bif Nat.beq k σ.1.1 then _ else _) = _; rw [hne]; rfl)]
    exact (r5 k (by omega)).kept (hq _ (by show g.2.1 + k < H.size; omega))
theorem ev_more_at {σ : ev_S} {x b : Nat} : (ev_more σ x).2.1 σ.1.1 b = 0 ∧ (ev_more σ x).2.2.1 σ.1.1 b = 0 ∧ (ev_more σ x).2.2.2 σ.1.1 b = none := by
  have h : Nat.beq σ.1.1 σ.1.1 = true := Nat.beq_refl _
  refine ⟨?_, ?_, ?_⟩ <;> (show (bif Nat.beq σ.1.1 σ.1.1 then _ else _) = _; rw [h]; rfl)
theorem ev_S_more {H H1 : Heap} {locs : List Loc} (hS : va_S (ev_A g) s.heap H locs) (hz : H.size ≤ H1.size) (hq : ∀ q : Nat, q < H.size → H1[q]? = H[q]?) : va_S (ev_A g) s.heap H1 locs := ⟨Nat.le_trans hS.1 hz, fun q h1 h2 => (hq q (Nat.lt_of_lt_of_le h1 hS.1)).trans (hS.2.1 q h1 h2), hS.2.2⟩
/-- a step that makes a cell -/
theorem ev_P.al {pc pc' n : Nat} {ls st st' : List Value} {σ : ev_S} (hsd : sd = false)
    (hw : ∀ (H : Heap) (lc : Array Slot) (locs : List Loc) (cells slots : Nat) (Q : State → Prop), ev_Rep g σ H → va_S (ev_A g) s.heap H locs → cells + 1 ≤ ev_c r.2 - ev_c σ0 → slots + n ≤ ev_s r.2 - ev_s σ0 → (∀ (H1 : Heap), ev_Rep g (ev_more σ n) H1 → va_S (ev_A g) s.heap H1 locs → W p l e (ev_rm d σ0 r.2) s m args below meth c H1 locs (cells + 1) (slots + n) Q (F0 m pc' lc (st'.map (ev_uv g)))) → W p l e (ev_rm d σ0 r.2) s m args below meth c H locs cells slots Q (F0 m pc lc (st.map (ev_uv g))))
    (h : ev_P p l e s m args below meth c g sd d M σ0 r pc' ls st' (ev_more σ n)) : ev_P p l e s m args below meth c g sd d M σ0 r pc ls st σ := by
  intro h0
  have e1 : ev_c (ev_more σ n) = ev_c σ + 1 := rfl
  have e2 : ev_s (ev_more σ n) = ev_s σ + n := rfl
  have hle : ev_le sd σ (ev_more σ n) := ⟨by rw [e1]; omega, by rw [e2]; omega, fun z => by rw [hsd] at z; cases z⟩
  obtain ⟨g1, g2⟩ := h (h0.tr hle)
  have k1 := g1.1
  have k2 := g1.2.1
  have k3 := h0.1
  have k4 := h0.2.1
  rw [e1] at k1
  rw [e2] at k2
  rw [e1, e2, show ev_c σ + 1 - ev_c σ0 = ev_c σ - ev_c σ0 + 1 by omega, show ev_s σ + n - ev_s σ0 = ev_s σ - ev_s σ0 + n by omega] at g2
  exact ⟨hle.tr g1, fun H lc locs hR hl hS => hw H lc locs _ _ _ hR hS (by omega) (by omega) (fun H1 hR1 hS1 => g2 H1 lc locs hR1 hl hS1)⟩
theorem ev_N0_lt : ev_N0 < 900000 := by decide
/-- the tables' facts: what is made, what is thrown -/
def ev_TN : Prop := ∀ oc idx v, ev_lk (ev_nl oc) idx = some v → (v < 11 → Cond.classLink (ev_cn oc) idx (ev_cl v).1 ∈ ev_gw ∧ Cond.instantiable (ev_cl v).1 (ev_cl v).2.2 ∈ ev_gw ∧ Cond.initialized (ev_cl v).1 ∈ ev_gw) ∧ (v = 50 → Cond.classLink (ev_cn oc) idx "java/util/NoSuchElementException" ∈ ev_gw) ∧ (v = 60 → Cond.classLink (ev_cn oc) idx ("[" ++ (FieldType.array .int).toString) ∈ ev_gw)
def ev_thrN : List String := ["java/lang/RuntimeException", "java/lang/Exception"]
def ev_TX : Prop := (∀ w ∈ ev_atX (ev_cn ev_thrC.1) ev_thrC.2 "java/util/NoSuchElementException" 13 prog_30_method_4_code ev_thrN, (w ∈ ev_gw ∨ (w ∈ ev_nest ∧ w.onTables = true)) ∧ vx_ot w = true) ∧ Cond.initialized "java/util/NoSuchElementException" ∈ ev_gw
def ev_TA : Prop := Cond.arrayClass .int ∈ ev_gw ∧ Cond.arrayClass .long ∈ ev_gw ∧ Cond.arrayClass .char ∈ ev_gw ∧ Cond.arrayClass .boolean ∈ ev_gw
/-- the rows are the method's code -/
def ev_rows (M : ev_Me) : Prop := ∀ pc i n, ev_lk M.2.2.2.2.2.1 pc = some (i, n) → decode M.2.1 pc = .ok (i, ev_len pc i) ∧ ev_jok pc i = true
theorem ev_cat_sum {g : ev_G} (hf : g.2.2.2.2.2.1.category = 1) : ∀ st : List Value, ((st.map (ev_uv g)).map fun v => v.category).sum ≤ 2 * st.length
  | [] => by simp
  | v :: t => by
    have h1 := ev_cat_sum hf t
    have h2 : (ev_uv g v).category ≤ 2 := by rcases lv_cat (ev_uv g v) with h | h <;> omega
    simp only [List.map_cons, List.sum_cons, List.length_cons]
    omega
end EVS
