/-- the tables' facts: fields, classes, constants -/
def ev_TF : Prop := ∀ oc idx ci j kd fin, ev_lk (ev_fl oc) idx = some (ci, j, kd, fin) →
  (ci < 11 ∧ j < (ev_cl ci).2.2 ∧ Cond.fieldLink (ev_cn oc) idx (ev_cl ci).1 ((ev_cl ci).2.1 j).2.1 ((ev_cl ci).2.1 j).2.2.1 ∈ ev_gw ∧ ((ev_cl ci).2.1 j).1 = (ev_cl ci).1 ∧ Nat.beq kd 2 = ev_isr ci j ∧ (kd = 0 → ev_ft ci j = .int) ∧ (kd = 1 → ev_ft ci j = .boolean) ∧ ((ev_cl ci).2.1 j).2.2.2 = Nat.beq fin 1)
  ∨ (ci = 20 ∧ ((j = 0 ∧ kd = 2 ∧ Cond.fieldLink (ev_cn oc) idx "java/lang/String" "value" "[B" ∈ ev_gw) ∨ (j = 1 ∧ Cond.fieldLink (ev_cn oc) idx "java/lang/String" "coder" "B" ∈ ev_gw)))
def ev_TC : Prop := ∀ ci, ci < 11 → vwCl[ci]? = some (ev_cl ci) ∧ (∀ w ∈ u_ws (ev_cl ci).1 (ev_cl ci).2.1 (ev_cl ci).2.2, w ∈ ev_gw) ∧ (∀ k, k < (ev_cl ci).2.2 → parseFieldDescriptor ((ev_cl ci).2.1 k).2.2.1 = some (ev_ft ci k)) ∧ (∀ a, a < (ev_cl ci).2.2 → ∀ b, b < (ev_cl ci).2.2 → a ≠ b → ((ev_cl ci).2.1 a).2.1 ≠ ((ev_cl ci).2.1 b).2.1) ∧ ev_cn (ci + 1) = (ev_cl ci).1 ∧ (∀ k, k < (ev_cl ci).2.2 → defaultValue (ev_ft ci k) = bif ev_isr ci k then .null else .int 0) ∧ (∀ k, k < (ev_cl ci).2.2 → ev_isr ci k = true → (∃ n, ev_ft ci k = .object n) ∨ ∃ t, ev_ft ci k = .array t)
def ev_TK : Prop := (∀ oc idx v, ev_lk (ev_ki oc) idx = some v → Cond.constant (ev_cn oc) idx v ∈ ev_gw) ∧ (∀ oc idx v, ev_lk (ev_kl oc) idx = some v → Cond.constantLong (ev_cn oc) idx v ∈ ev_gw) ∧
  Cond.fieldLink (ev_cn 13) 38 "java/lang/String" "COMPACT_STRINGS" "Z" ∈ ev_gw ∧ Cond.fieldLink (ev_cn 13) 1053 "jdk/internal/util/Preconditions" "SIOOBE_FORMATTER" "Ljava/util/function/BiFunction;" ∈ ev_gw
theorem ev_nth_mem {α : Type} : ∀ {l : List α} {i : Nat} {v : α}, ev_nth l i = some v → v ∈ l
  | _ :: _, 0, _, h => by simp [ev_nth] at h; simp [h]
  | _ :: t, i + 1, v, h => List.mem_cons_of_mem _ (ev_nth_mem (l := t) (i := i) h)
  | [], _, _, h => by simp [ev_nth] at h
theorem ev_layL_ok : ∀ q ∈ ev_layL, q.1 < 7 := by decide +kernel
theorem ev_lay_lt {k : Nat} : (ev_lay k).1 < 7 ∨ ev_lay k = (99, 0) := by
  unfold ev_lay
  cases h : ev_nth ev_layL k with
  | none => exact Or.inr rfl
  | some q => exact Or.inl (ev_layL_ok q (ev_nth_mem h))
theorem ev_blt {a b : Nat} (h : Nat.blt a b = true) : a < b := Nat.le_of_ble_eq_true h
theorem ev_kd_cell {n k t x : Nat} (h : ev_kd n k = (t, x)) (ht : t < 10) : k < n ∧ ev_lay k = (t, x) := by
  unfold ev_kd at h
  cases h1 : Nat.blt k n with
  | true =>
    rw [h1] at h
    exact ⟨ev_blt h1, h⟩
  | false =>
    rw [h1] at h
    cases h2 : Nat.ble 900000 k && Nat.blt k (900000 + 2 * ev_strs.length) with
    | true =>
      rw [h2] at h
      have h3 : (10 + k % 2, (k - 900000) / 2) = (t, x) := h
      have := congrArg Prod.fst h3
      simp at this
      omega
    | false =>
      rw [h2] at h
      have h3 : (99, 0) = (t, x) := h
      have := congrArg Prod.fst h3
      simp at this
      omega
theorem ev_kd_text {n k t x : Nat} (h : ev_kd n k = (t, x)) (ht : t = 10 ∨ t = 11) : 900000 ≤ k ∧ x < ev_strs.length ∧ k % 2 = t - 10 ∧ x = (k - 900000) / 2 := by
  unfold ev_kd at h
  cases h1 : Nat.blt k n with
  | true =>
    rw [h1] at h
    have h' : ev_lay k = (t, x) := h
    rcases ev_lay_lt (k := k) with q | q
    · rw [h'] at q; simp at q; omega
    · rw [q] at h'
      have := congrArg Prod.fst h'
      simp at this
      omega
  | false =>
    rw [h1] at h
    cases h2 : Nat.ble 900000 k && Nat.blt k (900000 + 2 * ev_strs.length) with
    | true =>
      rw [h2] at h
      have h3 : (10 + k % 2, (k - 900000) / 2) = (t, x) := h
      simp only [Bool.and_eq_true] at h2
      have h4 := Nat.le_of_ble_eq_true h2.1
      have h5 := ev_blt h2.2
      have e1 := congrArg Prod.fst h3
      have e2 := congrArg Prod.snd h3
      simp at e1 e2
      omega
    | false =>
      rw [h2] at h
      have h3 : (99, 0) = (t, x) := h
      have := congrArg Prod.fst h3
      simp at this
      omega
theorem ev_ad_cell {g : ev_G} {k : Nat} (h : k < 900000) : ev_ad g k = g.2.1 + k := if_pos h
section EVR
variable {p : Program} {l : Launch} {e : Env} {R : Room} {s : State} {m : MethodId} {args : Array Value} {below : List Frame} {meth : Method} {c : Code} {g : ev_G} {sd : Bool} {d : Nat} {M : ev_Me} {σ0 : ev_S} {r : ev_R}
/-- an object of the store in the heap -/
theorem ev_atO {σ : ev_S} {H : Heap} {k ci : Nat} (hTC : ev_TC) (hci : ci < 11) (hR : ev_Rep g σ H) (hk : k < σ.1.1) (hlay : ev_lay k = (0, ci)) : t_OB (g.2.1 + k) (g.1.1 ci) (ev_cl ci).2.2 (g.1.2 ci) H (ev_fldv g σ k ci) := by
  have h := hR.2.2.2.2 k hk
  unfold ev_E at h
  rw [hlay] at h
  obtain ⟨q, h1, h2⟩ := h
  have hq : q = ev_cl ci := Option.some.inj (h1.symm.trans (hTC ci hci).1)
  subst hq
  refine h2.to fun j hj => ?_
  show ((List.range (ev_cl ci).2.2).map (ev_fldv g σ k ci)).getD j .null = _
  simp [List.getD, hj]
theorem ev_atA {σ : ev_S} {H : Heap} {k t n : Nat} {x : vp_A} (hR : ev_Rep g σ H) (hk : k < σ.1.1) (hE : ev_E g σ k = .inl (g.2.2.2.2.2.2 t, x)) : H[g.2.1 + k]? = some (vp_cell (g.2.2.2.2.2.2 t) x) := by
  have h := hR.2.2.2.2 k hk
  rw [hE] at h
  exact h
theorem ev_in_vp {x : Int32} {n : Nat} (h : ev_in x n = true) : vp_in x n := by
  unfold ev_in at h
  simp only [Bool.and_eq_true, Bool.not_eq_true', decide_eq_false_iff_not, decide_eq_true_eq] at h
  exact fun q => q.elim h.1 (fun z => absurd h.2 (Nat.not_lt.mpr z))
/-- a read of a row of ints (or of what looks so) -/
theorem ev_rowI {σ : ev_S} {H : Heap} {k t n : Nat} {ty : FieldType} (hCx : ev_Cx g s) (hR : ev_Rep g σ H) (hk : k < σ.1.1) (hlay : ev_lay k = (t, n)) (ht : t = 1 ∧ ty = .int ∨ t = 3 ∧ ty = .char ∨ t = 4 ∧ ty = .boolean) : H[g.2.1 + k]? = some (arrV (g.2.2.2.2.2.2 t) n (fun j => .int (σ.2.1 k j))) ∧ ArrOfT s (g.2.2.2.2.2.2 t) ty := by
  have hE : ev_E g σ k = .inl (g.2.2.2.2.2.2 t, n, .inl (σ.2.1 k)) := by
    unfold ev_E
    rw [hlay]
    rcases ht with ⟨rfl, -⟩ | ⟨rfl, -⟩ | ⟨rfl, -⟩ <;> rfl
  refine ⟨ev_atA (n := n) hR hk hE, ?_⟩
  rcases ht with ⟨rfl, rfl⟩ | ⟨rfl, rfl⟩ | ⟨rfl, rfl⟩
  · exact (hCx.1.2 0 _ rfl).1
  · exact (hCx.1.2 2 _ rfl).1
  · exact (hCx.1.2 3 _ rfl).1
theorem ev_ldc_wS {cc : ByteArray} (hexec : p.tables.exec = Jvm.exec) (hb : c.code = cc) {H : Heap} {locs : List Loc} {cells slots : Nat} {Q : State → Prop} {pc : Nat} {ls : Array Slot} {rest : List Value} {own tx : String} {index q : Nat} (hown : s.vm.findClass own = some m.cls) (hZ : vk_R own index tx q s) (hdg : decode cc pc = .ok (.ldc_w index, 3))
    (k : W p l e R s m args below meth c H locs cells slots Q (F0 m (pc + 3) ls (.ref q :: rest))) : W p l e R s m args below meth c H locs cells slots Q (F0 m pc ls rest) := by
  intro T hT X
  obtain ⟨t, a1, b1⟩ := k T hT X
  refine ⟨t, ?_, b1⟩
  obtain ⟨k, cf, i, a', hk, hcf, hcp, -, hr, hev'⟩ := Cond.stringRef_spec hown hZ.1
  cases hZ.2.symm.trans hev'
  obtain ⟨k', hk', he⟩ := X.warmed.alike.2.2 _ _ hk
  have hr' : k'.resolved[index]? = some (some (.string q)) := by
    rcases X.warmed.entry hk hk' index with h | ⟨h, -⟩
    · rw [h]; exact hr
    · rw [hr] at h; cases h
  have hdg' : decode c.code (F0 m pc ls rest).pc = .ok (.ldc_w index, 3) := by rw [hb]; exact hdg
  jvm_step X.here [hexec, hdg', ldc_w.wp_string (e := e) (s := T) (f := F0 m pc ls rest) X.here.top hk' (by rw [he]; exact hcf) hcp hr']
  exact a1
set_option maxHeartbeats 4000000 in
theorem ev_rd_ok (hTF : ev_TF) (hTC : ev_TC) (hTK : ev_TK) (hA : ev_At p g M s m args meth c) {i : Instr} {pc : Nat} {ls st : List Value} {σ : ev_S} (hdg : decode M.2.1 pc = .ok (i, ev_len pc i)) {K : ev_K} (hK : ∀ pc' ls' st' σ', K pc' ls' st' σ' = some r → ev_P p l e s m args below meth c g sd d M σ0 r pc' ls' st' σ')
    (h : ev_rd M K i pc ls st σ = some r) : ev_P p l e s m args below meth c g sd d M σ0 r pc ls st σ := by
  obtain ⟨hx, hb, hml, hr, hlocks, hown, -, -, hts, hCx, hold, hb0⟩ := hA
  have hnA : ∀ a : Nat, a < s.heap.size → ¬ ev_A g a → s.heap[a]? = g.2.2.1[a]? := fun a _ h2 => hold a (Nat.lt_of_not_le h2)
  have hgl : ∀ a : Nat, a < g.2.2.1.size → ¬ ev_A g a → s.heap[a]? = g.2.2.1[a]? := fun a _ h2 => hold a (Nat.lt_of_not_le h2)
  unfold ev_rd at h
  split at h
  · -- getfield
    rename_i idx
    split at h
    rotate_left
    · cases h
    rename_i k rest
    split at h
    rotate_left
    · cases h
    rename_i ci j kd fin hlk
    cases hkd : ev_kd σ.1.1 k == (0, ci) with
    | true =>
      rw [hkd] at h
      have hkd' : ev_kd σ.1.1 k = (0, ci) := eq_of_beq hkd
      obtain ⟨hk, hlay⟩ := ev_kd_cell hkd' (by omega)
      rcases hTF _ _ _ _ _ _ hlk with ⟨h1, h2, h3, h4, h5, h6, h7, h8⟩ | ⟨h1, -⟩
      · obtain ⟨c1, c2, c3, c4, c5, c6, c7⟩ := hTC ci h1
        have key : ∀ (H : Heap) (lc : Array Slot) (locs : List Loc) (cells slots : Nat) (Q : State → Prop), ev_Rep g σ H → W p l e (ev_rm d σ0 r.2) s m args below meth c H locs cells slots Q (F0 m (pc + 3) lc (ev_fldv g σ k ci j :: rest.map (ev_uv g))) → W p l e (ev_rm d σ0 r.2) s m args below meth c H locs cells slots Q (F0 m pc lc (.ref (ev_ad g k) :: rest.map (ev_uv g))) := by
          intro H lc locs cells slots Q hR hW
          obtain ⟨cell, q1, q2, q3, q4⟩ := ev_atO hTC h1 hR hk hlay
          obtain ⟨hS, hfc, kC, hkC, hkind⟩ := hCx.1.1 ci _ c1
          obtain ⟨cf, kf, fi, f, hi, hsl⟩ := hS j h2
          rw [ev_ad_cell (Nat.lt_of_lt_of_le hk hR.2.2.2.1)]
          refine W.getf hx hb hown (hts _ h3) (by rw [h4] at hi; exact hi) (u_facts hfc hkC (u_lays hts c2 h2) hi).1 q1 (by rw [q3]; exact fun h => by cases h) (v := ev_fldv g σ k ci j) ?_ rfl rfl hdg hW
          rw [hsl, q4 j h2]
        cases hk2 : Nat.beq kd 2 with
        | true =>
          rw [hk2] at h
          refine ev_P.step (fun H lc locs cells slots Q hR hl hS hW => key H lc locs cells slots Q hR ?_) (hK _ _ _ _ h)
          have e1 : ev_fldv g σ k ci j = ev_uv g (ev_rv (σ.2.2.2 k j)) := by
            unfold ev_fldv
            rw [← h5, hk2]
            cases σ.2.2.2 k j <;> rfl
          rw [e1]
          exact hW
        | false =>
          rw [hk2] at h
          refine ev_P.step (fun H lc locs cells slots Q hR hl hS hW => key H lc locs cells slots Q hR ?_) (hK _ _ _ _ h)
          have e1 : ev_fldv g σ k ci j = .int (σ.2.1 k j) := by
            unfold ev_fldv
            rw [← h5, hk2]
            rfl
          rw [e1]
          exact hW
      · rw [h1] at hlay
        exact absurd hlay (by
          intro z
          have : ∀ q ∈ ev_layL, q ≠ (0, 20) := by decide +kernel
          unfold ev_lay at z
          cases h : ev_nth ev_layL k with
          | none => rw [h] at z; cases z
          | some q => rw [h] at z; exact this q (ev_nth_mem h) z)
    | false =>
      rw [hkd] at h
      cases hc2 : Nat.beq ci 20 && Nat.beq (ev_kd σ.1.1 k).1 10 with
      | false => rw [hc2] at h; cases h
      | true =>
        rw [hc2] at h
        simp only [Bool.and_eq_true] at hc2
        have e20 := Nat.eq_of_beq_eq_true hc2.1
        obtain ⟨t1, t2, t3, t4⟩ := ev_kd_text (n := σ.1.1) (k := k) (t := 10) (x := (ev_kd σ.1.1 k).2) (by rw [← Nat.eq_of_beq_eq_true hc2.2]) (Or.inl rfl)
        have hadk : ev_ad g k = g.2.2.2.1 (ev_kd σ.1.1 k).2 := by
          unfold ev_ad
          rw [if_neg (by omega), if_pos (by omega), t4]
        have hadk1 : ev_ad g (k + 1) = g.2.2.2.2.1 (ev_kd σ.1.1 k).2 := by
          unfold ev_ad
          rw [if_neg (by omega), if_neg (by omega), t4]
          exact congrArg g.2.2.2.2.1 (by omega)
        obtain ⟨s1, s2, s3, s4⟩ := hCx.2.2.2.2.2.1 _ t2
        rcases hTF _ _ _ _ _ _ hlk with ⟨h1, -⟩ | ⟨-, ⟨hj, -, hw⟩ | ⟨hj, hw⟩⟩
        · omega
        · subst hj
          refine ev_P.step (fun H lc locs cells slots Q hR hl hS hW => ?_) (hK _ _ _ _ h)
          obtain ⟨cf, k9, fi, f, cell, u1, u2, u3, u4, u5, u6⟩ := (s3.kept hgl).kept hS.2.1
          show W p l e _ s m args below meth c H locs cells slots Q (F0 m pc lc (.ref (ev_ad g k) :: rest.map (ev_uv g)))
          rw [hadk]
          exact W.getf hx hb hown (hts _ hw) u1 u2 u3 u4 (v := .ref (g.2.2.2.2.1 (ev_kd σ.1.1 k).2)) u5 rfl rfl hdg (by rw [← hadk1]; exact hW)
        · subst hj
          refine ev_P.step (fun H lc locs cells slots Q hR hl hS hW => ?_) (hK _ _ _ _ h)
          obtain ⟨cf, k9, fi, f, cell, u1, u2, u3, u4, u5, u6⟩ := (s2.kept hgl).kept hS.2.1
          show W p l e _ s m args below meth c H locs cells slots Q (F0 m pc lc (.ref (ev_ad g k) :: rest.map (ev_uv g)))
          rw [hadk]
          exact W.getf hx hb hown (hts _ hw) u1 u2 u3 u4 (v := .int 0) u5 rfl rfl hdg hW
  · -- getstatic
    rename_i idx
    cases h13 : Nat.beq M.2.2.2.2.1 13 with
    | false => rw [h13] at h; cases h
    | true =>
      rw [h13] at h
      have e13 := Nat.eq_of_beq_eq_true h13
      rw [e13] at hown
      cases h38 : Nat.beq idx 38 with
      | true =>
        rw [h38] at h
        have e38 := Nat.eq_of_beq_eq_true h38
        subst e38
        refine ev_P.step (fun H lc locs cells slots Q hR hl hS hW => ?_) (hK _ _ _ _ h)
        exact va_gets hx hb (hCx.2.2.2.2.2.2.1.kept hgl) hS hown (hts _ hTK.2.2.1) (fun _ z => z) hdg hW
      | false =>
        rw [h38] at h
        cases h39 : Nat.beq idx 1053 with
        | false => rw [h39] at h; cases h
        | true =>
          rw [h39] at h
          have e39 := Nat.eq_of_beq_eq_true h39
          subst e39
          refine ev_P.step (fun H lc locs cells slots Q hR hl hS hW => ?_) (hK _ _ _ _ h)
          exact va_gets hx hb (hCx.2.2.2.2.2.2.2.1.kept hgl) hS hown (hts _ hTK.2.2.2) (fun _ z => z) hdg hW
  · -- arraylength
    split at h
    rotate_left
    · cases h
    rename_i k rest
    split at h
    · rename_i n hkd
      obtain ⟨hk, hlay⟩ := ev_kd_cell hkd (by omega)
      refine ev_P.step (fun H lc locs cells slots Q hR hl hS hW => ?_) (hK _ _ _ _ h)
      obtain ⟨q1, q2⟩ := ev_rowI hCx hR hk hlay (Or.inl ⟨rfl, rfl⟩)
      show W p l e _ s m args below meth c H locs cells slots Q (F0 m pc lc (.ref (ev_ad g k) :: rest.map (ev_uv g)))
      rw [ev_ad_cell (Nat.lt_of_lt_of_le hk hR.2.2.2.1)]
      exact W.alen (n := Int32.ofNat n) hx hb q1 (q2 n _) (by rw [arrV_size] <;> rfl) rfl rfl hdg hW
    · rename_i n hkd
      obtain ⟨hk, hlay⟩ := ev_kd_cell hkd (by omega)
      refine ev_P.step (fun H lc locs cells slots Q hR hl hS hW => ?_) (hK _ _ _ _ h)
      have q1 := ev_atA (t := 2) (n := n) (x := (n, .inr (.inl (σ.2.2.1 k)))) hR hk (by unfold ev_E; rw [hlay]; rfl)
      have q2 := (hCx.1.2 1 _ rfl).1
      show W p l e _ s m args below meth c H locs cells slots Q (F0 m pc lc (.ref (ev_ad g k) :: rest.map (ev_uv g)))
      rw [ev_ad_cell (Nat.lt_of_lt_of_le hk hR.2.2.2.1)]
      exact W.alen (n := Int32.ofNat n) hx hb q1 (q2 n _) (by rw [vp_cell_l, arrV_size] <;> rfl) rfl rfl hdg hW
    · rename_i n hkd
      obtain ⟨t1, t2, t3, t4⟩ := ev_kd_text hkd (Or.inr rfl)
      obtain ⟨s1, s2, s3, s4⟩ := hCx.2.2.2.2.2.1 _ t2
      refine ev_P.step (fun H lc locs cells slots Q hR hl hS hW => ?_) (hK _ _ _ _ h)
      show W p l e _ s m args below meth c H locs cells slots Q (F0 m pc lc (.ref (ev_ad g k) :: rest.map (ev_uv g)))
      have hadk : ev_ad g k = g.2.2.2.2.1 n := by
        unfold ev_ad
        rw [if_neg (by omega), if_neg (by omega), t4]
      rw [hadk]
      exact va_tlen hx hb (s4.kept hgl) hS rfl hdg hW
    · cases h
  · -- iaload
    split at h
    rotate_left
    · cases h
    rename_i x v rest
    unfold ev_aI at h
    split at h
    rotate_left
    · cases h
    rename_i k
    split at h
    rotate_left
    · cases h
    rename_i n hkd
    obtain ⟨hk, hlay⟩ := ev_kd_cell hkd (by omega)
    by_cases hin : ev_in x n = true
    rotate_left
    · rw [if_neg hin] at h; cases h
    rw [if_pos hin] at h
    refine ev_P.step (fun H lc locs cells slots Q hR hl hS hW => ?_) (hK _ _ _ _ h)
    obtain ⟨q1, q2⟩ := ev_rowI hCx hR hk hlay (Or.inl ⟨rfl, rfl⟩)
    have hvp := ev_in_vp hin
    have hlt : x.toNatClampNeg < n := Nat.not_le.mp fun q => hvp (Or.inr q)
    show W p l e _ s m args below meth c H locs cells slots Q (F0 m pc lc (.int x :: .ref (ev_ad g k) :: rest.map (ev_uv g)))
    rw [ev_ad_cell (Nat.lt_of_lt_of_le hk hR.2.2.2.1)]
    exact W.iald (v := .int (σ.2.1 k x.toNatClampNeg)) hx hb q1 (q2 n _) (fun q => by cases q) (by rw [arrV_size]; exact hvp) (by rw [arrV_read _ _ hlt]) rfl rfl hdg hW
  · -- caload
    split at h
    rotate_left
    · cases h
    rename_i x k rest
    split at h
    rotate_left
    · cases h
    rename_i n hkd
    obtain ⟨hk, hlay⟩ := ev_kd_cell hkd (by omega)
    by_cases hin : ev_in x n = true
    rotate_left
    · rw [if_neg hin] at h; cases h
    rw [if_pos hin] at h
    refine ev_P.step (fun H lc locs cells slots Q hR hl hS hW => ?_) (hK _ _ _ _ h)
    obtain ⟨q1, q2⟩ := ev_rowI hCx hR hk hlay (Or.inr (Or.inl ⟨rfl, rfl⟩))
    have hvp := ev_in_vp hin
    have hlt : x.toNatClampNeg < n := Nat.not_le.mp fun q => hvp (Or.inr q)
    show W p l e _ s m args below meth c H locs cells slots Q (F0 m pc lc (.int x :: .ref (ev_ad g k) :: rest.map (ev_uv g)))
    rw [ev_ad_cell (Nat.lt_of_lt_of_le hk hR.2.2.2.1)]
    exact W.cald (v := .int (σ.2.1 k x.toNatClampNeg)) hx hb q1 (q2 n _) (fun q => by cases q) (by rw [arrV_size]; exact hvp) (by rw [arrV_read _ _ hlt]) rfl rfl hdg hW
  · -- baload
    split at h
    rotate_left
    · cases h
    rename_i x k rest
    split at h
    · rename_i n hkd
      obtain ⟨hk, hlay⟩ := ev_kd_cell hkd (by omega)
      by_cases hin : ev_in x n = true
      rotate_left
      · rw [if_neg hin] at h; cases h
      rw [if_pos hin] at h
      refine ev_P.step (fun H lc locs cells slots Q hR hl hS hW => ?_) (hK _ _ _ _ h)
      obtain ⟨q1, q2⟩ := ev_rowI hCx hR hk hlay (Or.inr (Or.inr ⟨rfl, rfl⟩))
      have hvp := ev_in_vp hin
      have hlt : x.toNatClampNeg < n := Nat.not_le.mp fun q => hvp (Or.inr q)
      show W p l e _ s m args below meth c H locs cells slots Q (F0 m pc lc (.int x :: .ref (ev_ad g k) :: rest.map (ev_uv g)))
      rw [ev_ad_cell (Nat.lt_of_lt_of_le hk hR.2.2.2.1)]
      exact W.zald (v := .int (σ.2.1 k x.toNatClampNeg)) hx hb q1 (q2 n _) (fun q => by cases q) (by rw [arrV_size]; exact hvp) (by rw [arrV_read _ _ hlt]) rfl rfl hdg hW
    · rename_i n hkd
      obtain ⟨t1, t2, t3, t4⟩ := ev_kd_text hkd (Or.inr rfl)
      obtain ⟨s1, s2, s3, s4⟩ := hCx.2.2.2.2.2.1 _ t2
      by_cases hin : ev_in x ((ev_nth ev_strs n).getD []).length = true
      rotate_left
      · rw [if_neg hin] at h; cases h
      rw [if_pos hin] at h
      refine ev_P.step (fun H lc locs cells slots Q hR hl hS hW => ?_) (hK _ _ _ _ h)
      show W p l e _ s m args below meth c H locs cells slots Q (F0 m pc lc (.int x :: .ref (ev_ad g k) :: rest.map (ev_uv g)))
      have hadk : ev_ad g k = g.2.2.2.2.1 n := by
        unfold ev_ad
        rw [if_neg (by omega), if_neg (by omega), t4]
      rw [hadk]
      exact va_tb hx hb (s4.kept hgl) hS (ev_in_vp hin) rfl hdg hW
    · cases h
  · -- laload
    split at h
    rotate_left
    · cases h
    rename_i x k rest
    split at h
    rotate_left
    · cases h
    rename_i n hkd
    obtain ⟨hk, hlay⟩ := ev_kd_cell hkd (by omega)
    by_cases hin : ev_in x n = true
    rotate_left
    · rw [if_neg hin] at h; cases h
    rw [if_pos hin] at h
    refine ev_P.step (fun H lc locs cells slots Q hR hl hS hW => ?_) (hK _ _ _ _ h)
    have q1 := ev_atA (t := 2) (n := n) (x := (n, .inr (.inl (σ.2.2.1 k)))) hR hk (by unfold ev_E; rw [hlay]; rfl)
    have q2 := (hCx.1.2 1 _ rfl).1
    have hvp := ev_in_vp hin
    have hlt : x.toNatClampNeg < n := Nat.not_le.mp fun q => hvp (Or.inr q)
    show W p l e _ s m args below meth c H locs cells slots Q (F0 m pc lc (.int x :: .ref (ev_ad g k) :: rest.map (ev_uv g)))
    rw [ev_ad_cell (Nat.lt_of_lt_of_le hk hR.2.2.2.1)]
    exact W.lald (v := .long (σ.2.2.1 k x.toNatClampNeg)) hx hb q1 (q2 n (fun j => .long (σ.2.2.1 k j))) (fun q => by cases q) (by rw [vp_cell_l, arrV_size]; exact hvp) (by rw [vp_cell_l, arrV_read _ _ hlt]) rfl rfl hdg hW
  · -- aaload
    split at h
    rotate_left
    · cases h
    rename_i x k rest
    have e1 : ∀ o : Option Nat, ev_uv g (ev_rv o) = va_rf (o.map (ev_ad g)) := fun o => by cases o <;> rfl
    split at h
    · rename_i n hkd
      obtain ⟨hk, hlay⟩ := ev_kd_cell hkd (by omega)
      by_cases hin : ev_in x n = true
      rotate_left
      · rw [if_neg hin] at h; cases h
      rw [if_pos hin] at h
      refine ev_P.step (fun H lc locs cells slots Q hR hl hS hW => ?_) (hK _ _ _ _ h)
      have q1 := ev_atA (t := 5) (n := n) (x := (n, .inr (.inr (.inr (.inr (fun j => (σ.2.2.2 k j).map (ev_ad g))))))) hR hk (by unfold ev_E; rw [hlay]; rfl)
      have q2 := (hCx.1.2 4 _ rfl).1
      have hvp := ev_in_vp hin
      have hlt : x.toNatClampNeg < n := Nat.not_le.mp fun q => hvp (Or.inr q)
      show W p l e _ s m args below meth c H locs cells slots Q (F0 m pc lc (.int x :: .ref (ev_ad g k) :: rest.map (ev_uv g)))
      rw [ev_ad_cell (Nat.lt_of_lt_of_le hk hR.2.2.2.1)]
      exact W.aald (v := va_rf ((σ.2.2.2 k x.toNatClampNeg).map (ev_ad g))) (ty := .object RX7) hx hb q1 (q2 n (fun j => va_rf ((σ.2.2.2 k j).map (ev_ad g)))) rfl (fun q => by cases q) (by rw [vp_cell_q, arrV_size]; exact hvp) (by rw [vp_cell_q, arrV_read _ _ hlt]) rfl rfl hdg (by rw [← e1]; exact hW)
    · rename_i n hkd
      obtain ⟨hk, hlay⟩ := ev_kd_cell hkd (by omega)
      by_cases hin : ev_in x n = true
      rotate_left
      · rw [if_neg hin] at h; cases h
      rw [if_pos hin] at h
      refine ev_P.step (fun H lc locs cells slots Q hR hl hS hW => ?_) (hK _ _ _ _ h)
      have q1 := ev_atA (t := 6) (n := n) (x := (n, .inr (.inr (.inr (.inr (fun j => (σ.2.2.2 k j).map (ev_ad g))))))) hR hk (by unfold ev_E; rw [hlay]; rfl)
      have q2 := (hCx.1.2 5 _ rfl).1
      have hvp := ev_in_vp hin
      have hlt : x.toNatClampNeg < n := Nat.not_le.mp fun q => hvp (Or.inr q)
      show W p l e _ s m args below meth c H locs cells slots Q (F0 m pc lc (.int x :: .ref (ev_ad g k) :: rest.map (ev_uv g)))
      rw [ev_ad_cell (Nat.lt_of_lt_of_le hk hR.2.2.2.1)]
      exact W.aald (v := va_rf ((σ.2.2.2 k x.toNatClampNeg).map (ev_ad g))) (ty := .array .int) hx hb q1 (q2 n (fun j => va_rf ((σ.2.2.2 k j).map (ev_ad g)))) rfl (fun q => by cases q) (by rw [vp_cell_q, arrV_size]; exact hvp) (by rw [vp_cell_q, arrV_read _ _ hlt]) rfl rfl hdg (by rw [← e1]; exact hW)
    · cases h
  · -- ldc
    rename_i idx
    split at h
    · rename_i v hlk
      refine ev_P.step (fun H lc locs cells slots Q hR hl hS hW => ?_) (hK _ _ _ _ h)
      exact lv_ldc hx hb hown (hts _ (hTK.1 _ _ _ hlk)) hdg hW
    · split at h
      · rename_i a hlk
        refine ev_P.step (fun H lc locs cells slots Q hR hl hS hW => ?_) (hK _ _ _ _ h)
        refine va_ldcS hx hb hown (hCx.2.2.2.2.1 _ _ _ hlk) hdg ?_
        have e1 : ev_ad g (900000 + 2 * a) = g.2.2.2.1 a := by
          unfold ev_ad
          rw [if_neg (by omega), if_pos (by omega)]
          exact congrArg g.2.2.2.1 (by omega)
        rw [← e1]
        exact hW
      · cases h
  · -- ldc_w
    rename_i idx
    split at h
    · rename_i v hlk
      refine ev_P.step (fun H lc locs cells slots Q hR hl hS hW => ?_) (hK _ _ _ _ h)
      exact lv_ldcw hx hb hown (hts _ (hTK.1 _ _ _ hlk)) hdg hW
    · split at h
      · rename_i a hlk
        refine ev_P.step (fun H lc locs cells slots Q hR hl hS hW => ?_) (hK _ _ _ _ h)
        refine ev_ldc_wS hx hb hown (hCx.2.2.2.2.1 _ _ _ hlk) hdg ?_
        have e1 : ev_ad g (900000 + 2 * a) = g.2.2.2.1 a := by
          unfold ev_ad
          rw [if_neg (by omega), if_pos (by omega)]
          exact congrArg g.2.2.2.1 (by omega)
        rw [← e1]
        exact hW
      · cases h
  · -- ldc2_w
    rename_i idx
    split at h
    · rename_i v hlk
      refine ev_P.step (fun H lc locs cells slots Q hR hl hS hW => ?_) (hK _ _ _ _ h)
      exact lv_ldc2 hx hb hown (hts _ (hTK.2.1 _ _ _ hlk)) hdg hW
    · cases h
  · cases h
end EVR
