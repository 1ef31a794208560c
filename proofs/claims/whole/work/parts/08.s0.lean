/-! SOUNDNESS of the evaluator: what it answers, the machine does. -/
/-- what stands outside: (class ids, slots), the heap's size and the heap at the start, the texts' addresses and their bytes', what a static holds, the array classes by kind -/
abbrev ev_G : Type := va_G × Nat × Heap × (Nat → Nat) × (Nat → Nat) × Value × (Nat → ClassId)
def ev_ad (g : ev_G) (a : Nat) : Nat := if a < 900000 then g.2.1 + a else if a % 2 = 0 then g.2.2.2.1 ((a - 900000) / 2) else g.2.2.2.2.1 ((a - 900000) / 2)
def ev_uv (g : ev_G) : Value → Value
  | .ref a => .ref (ev_ad g a)
  | .retAddr _ => g.2.2.2.2.2.1
  | v => v
def ev_tyl : List (Nat → FieldType) := [tyX1, tyX2, tyX3, tyX4, tyX5, tyX6, tyX7, tyX8, tyX9, tyX10, tyX11]
def ev_ft (ci j : Nat) : FieldType := (ev_nth ev_tyl ci).getD (fun _ => .int) j
def ev_isr (ci j : Nat) : Bool := match ev_ft ci j with
  | .int => false
  | .boolean => false
  | _ => true
def ev_cl (ci : Nat) : vw_C := (ev_nth vwCl ci).getD ("", fun _ => ("", "", "", false), 0)
def ev_fldv (g : ev_G) (σ : ev_S) (k ci j : Nat) : Value := bif ev_isr ci j then va_rf ((σ.2.2.2 k j).map (ev_ad g)) else .int (σ.2.1 k j)
def ev_E (g : ev_G) (σ : ev_S) (k : Nat) : va_E := match ev_lay k with
  | (0, ci) => .inr (ci, (List.range (ev_cl ci).2.2).map (ev_fldv g σ k ci))
  | (2, n) => .inl (g.2.2.2.2.2.2 2, n, .inr (.inl (σ.2.2.1 k)))
  | (5, n) => .inl (g.2.2.2.2.2.2 5, n, .inr (.inr (.inr (.inr (fun j => (σ.2.2.2 k j).map (ev_ad g))))))
  | (6, n) => .inl (g.2.2.2.2.2.2 6, n, .inr (.inr (.inr (.inr (fun j => (σ.2.2.2 k j).map (ev_ad g))))))
  | (t, n) => .inl (g.2.2.2.2.2.2 t, n, .inl (σ.2.1 k))
def ev_tys (g : ev_G) : List (ClassId × FieldType) := [(g.2.2.2.2.2.2 1, .int), (g.2.2.2.2.2.2 2, .long), (g.2.2.2.2.2.2 3, .char), (g.2.2.2.2.2.2 4, .boolean), (g.2.2.2.2.2.2 5, .object RX7), (g.2.2.2.2.2.2 6, .array .int)]
def ev_A (g : ev_G) : Nat → Prop := fun q => g.2.1 ≤ q
def ev_Rep (g : ev_G) (σ : ev_S) (H : Heap) : Prop := g.2.1 + σ.1.1 ≤ H.size ∧ (σ.1.2.1 = true → H.size = g.2.1 + σ.1.1) ∧ (∀ q : Nat, q < g.2.1 → H[q]? = g.2.2.1[q]?) ∧ σ.1.1 ≤ 900000 ∧ ∀ k : Nat, k < σ.1.1 → va_at g.1 vwCl (g.2.1 + k, ev_E g σ k) H
def ev_gw : List Cond := lw_tbl.filter goodWord
def ev_nest : List Cond := lw_tbl.filter (fun w => match w with
  | .methodLinkNest .. => true
  | .castable .. => true
  | .declares _ => true
  | _ => false)
def ev_cnl : List String := [RX0, RX1, RX2, RX3, RX4, RX5, RX6, RX7, RX8, RX9, RX10, RX11, RL, RJ0, RJ1, RJ3, RJ6, RJ9, RJ7]
def ev_cn (oc : Nat) : String := (ev_nth ev_cnl oc).getD ""
def ev_txl : List String := ["m-o*2-3", "mousndi", "no such word or question", "no such sign", "no such letter or question", "no such number", "abcdefghABCDEFGH", "<>=", "+-", "*/", "nxorq", "abcdefgh"]
def ev_tx (i : Nat) : String := (ev_nth ev_txl i).getD ""
/-- what the tables say in the state U, and the heap's old part -/
def ev_Cx (g : ev_G) (U : State) : Prop :=
  va_K g.1 vwCl (ev_tys g) U ∧ va_AO RX7 U ∧ (Cond.arrayOver (.array .int)).before #[] U = true ∧ (∀ w ∈ ev_nest, va_Nw w U) ∧
  (∀ oc idx i, ev_lk (ev_ks oc) idx = some i → vk_R (ev_cn oc) idx (ev_tx i) (g.2.2.2.1 i) U) ∧
  (∀ i, i < ev_strs.length → va_O "java/lang/String" (g.2.2.2.1 i) (ev_A g) U g.2.2.1 ∧ va_OF "java/lang/String" "coder" "B" (.int 0) (g.2.2.2.1 i) (ev_A g) U g.2.2.1 ∧ va_OF "java/lang/String" "value" "[B" (.ref (g.2.2.2.2.1 i)) (g.2.2.2.1 i) (ev_A g) U g.2.2.1 ∧ va_T .byte (g.2.2.2.2.1 i) ((ev_nth ev_strs i).getD []).length (fun j => .int (((ev_nth ev_strs i).getD []).getD j 0)) (ev_A g) U g.2.2.1) ∧
  va_Z "java/lang/String" "COMPACT_STRINGS" "Z" (.int 1) (ev_A g) U g.2.2.1 ∧ va_Z "jdk/internal/util/Preconditions" "SIOOBE_FORMATTER" "Ljava/util/function/BiFunction;" g.2.2.2.2.2.1 (ev_A g) U g.2.2.1 ∧
  vx_Zq Bundle.tN "UNASSIGNED_STACK" Bundle.steD (ev_A g) U g.2.2.1 ∧ vx_Zq Bundle.tN "SUPPRESSED_SENTINEL" Bundle.listD (ev_A g) U g.2.2.1 ∧ g.2.2.2.2.2.1.category = 1
theorem ev_Cx.warm {g : ev_G} {s U : State} (hW : s.WarmedH U.vm) (h : ev_Cx g s) : ev_Cx g U := by
  obtain ⟨h1, h2, h3, h4, h5, h6, h7, h8, h9, h10, h11⟩ := h
  refine ⟨va_K.moved hW.alike h1, va_AO.moved hW.alike h2, ?_, ?_, fun oc idx i hi => vk_R.warm hW (h5 oc idx i hi), fun i hi => ⟨va_O.moved hW.alike (h6 i hi).1, va_OF.moved hW.alike (h6 i hi).2.1, va_OF.moved hW.alike (h6 i hi).2.2.1, va_T.moved hW.alike (h6 i hi).2.2.2⟩, va_Z.moved hW.alike h7, va_Z.moved hW.alike h8, vx_Zq.moved hW.alike h9, vx_Zq.moved hW.alike h10, h11⟩
  · have h := (Cond.arrayOver_setVmC (args := #[]) hW.alike (.array .int)).trans h3
    exact h
  · intro w hw
    have hk := (List.mem_filter.mp hw).2
    have hz := h4 w hw
    cases w with
    | methodLinkNest a i x y => exact va_Nw.warmM hW hz
    | castable a b => exact va_Nw.warmC hW hz
    | declares x => exact va_Nw.warmD hW hz
    | _ => simp at hk
theorem ev_Cx.same {g : ev_G} {u U : State} (hv : U.vm = u.vm) (h : ev_Cx g u) : ev_Cx g U := ev_Cx.warm (s := u) (by rw [hv]; exact State.WarmedH.refl u) h
/-- the locals -/
def ev_lv (g : ev_G) (lc : Array Slot) (n : Nat) (ls : List Value) : Prop := lc.size = n ∧ ls.length = n ∧ lv_wf lc ∧ ∀ (i : Nat) (v : Value), ev_nth ls i = some v → v ≠ ev_U → lc[i]? = some (.val (ev_uv g v))
def ev_c (σ : ev_S) : Nat := σ.1.2.2.1
def ev_s (σ : ev_S) : Nat := σ.1.2.2.2
def ev_le (sd : Bool) (σ τ : ev_S) : Prop := ev_c σ ≤ ev_c τ ∧ ev_s σ ≤ ev_s τ ∧ (sd = true → τ.1.1 = σ.1.1 ∧ τ.2.2.2 = σ.2.2.2)
theorem ev_le.rf {sd : Bool} {σ : ev_S} : ev_le sd σ σ := ⟨Nat.le_refl _, Nat.le_refl _, fun _ => ⟨rfl, rfl⟩⟩
theorem ev_le.tr {sd : Bool} {σ τ ρ : ev_S} (h : ev_le sd σ τ) (k : ev_le sd τ ρ) : ev_le sd σ ρ := ⟨Nat.le_trans h.1 k.1, Nat.le_trans h.2.1 k.2.1, fun e => ⟨(k.2.2 e).1.trans (h.2.2 e).1, (k.2.2 e).2.trans (h.2.2 e).2⟩⟩
def ev_wsM (M : ev_Me) : List Cond := Cond.code M.1 M.2.1 M.2.2.1 M.2.2.2.1 :: ev_gw
def ev_rm (d : Nat) (σ τ : ev_S) : Room := { frames := d + 10, cells := ev_c τ - ev_c σ, slots := ev_s τ - ev_s σ, locals := 100 * d + 400 }
def ev_Pc (g : ev_G) (args : List Value) (σ : ev_S) : Array Value → State → Prop := fun a U => a = (args.map (ev_uv g)).toArray ∧ ev_Rep g σ U.heap ∧ ev_Cx g U
def ev_Qc (g : ev_G) (r : ev_R) : Array Value → State → Outcome → State → Prop := fun _ _ o t => (∃ v, r.1 = some v ∧ o = .returned (v.map (ev_uv g))) ∧ ev_Rep g r.2 t.heap
def ev_XC (g : ev_G) (r : ev_R) : String → State → State → Prop := fun E _ t => r.1 = none ∧ E = "java/util/NoSuchElementException" ∧ ev_Rep g r.2 t.heap
def ev_Met (l : Launch) (g : ev_G) (d : Nat) (M : ev_Me) (args : List Value) (σ : ev_S) (r : ev_R) : Prop := vx_Met l M.1 (ev_wsM M) (ev_rm d σ r.2) (ev_Pc g args σ) (ev_Qc g r) (ev_XC g r) (ev_c r.2 - ev_c σ) (ev_s r.2 - ev_s σ) (ev_A g)
/-- what holds at a method's entry -/
def ev_At (p : Program) (g : ev_G) (M : ev_Me) (s : State) (m : MethodId) (args : Array Value) (meth : Method) (c : Code) : Prop :=
  p.tables.exec = Jvm.exec ∧ c.code = M.2.1 ∧ c.maxLocals = M.2.2.1 ∧ meth.sig.returnType = M.2.2.2.1 ∧ meth.locks = false ∧ s.vm.findClass (ev_cn M.2.2.2.2.1) = some m.cls ∧ meth.name = M.1.name ∧ (∀ x ∈ c.exceptionTable.toList, ∀ q, covers x q = false) ∧ (∀ w ∈ ev_gw, w.before args s = true) ∧ ev_Cx g s ∧ (∀ q : Nat, q < g.2.1 → s.heap[q]? = g.2.2.1[q]?) ∧ g.2.1 ≤ s.heap.size
section EVW
variable {p : Program} {l : Launch} {e : Env} {R : Room} {s : State} {m : MethodId} {args : Array Value} {below : List Frame} {meth : Method} {c : Code} {g : ev_G} {sd : Bool} {d : Nat} {M : ev_Me} {σ0 : ev_S} {r : ev_R}
/-- from here the method comes to its end r -/
def ev_P (p : Program) (l : Launch) (e : Env) (s : State) (m : MethodId) (args : Array Value) (below : List Frame) (meth : Method) (c : Code) (g : ev_G) (sd : Bool) (d : Nat) (M : ev_Me) (σ0 : ev_S) (r : ev_R) (pc : Nat) (ls st : List Value) (σ : ev_S) : Prop :=
  ev_le sd σ0 σ → ev_le sd σ r.2 ∧ ∀ (H : Heap) (lc : Array Slot) (locs : List Loc), ev_Rep g σ H → ev_lv g lc M.2.2.1 ls → va_S (ev_A g) s.heap H locs →
    W p l e (ev_rm d σ0 r.2) s m args below meth c H locs (ev_c σ - ev_c σ0) (ev_s σ - ev_s σ0) (vx_MQ below (ev_Qc g r) (ev_XC g r) args s (ev_c r.2 - ev_c σ0) (ev_s r.2 - ev_s σ0) (ev_A g)) (F0 m pc lc (st.map (ev_uv g)))
/-- a step that leaves heap and locals -/
theorem ev_P.step {pc pc' : Nat} {ls st st' : List Value} {σ : ev_S}
    (hw : ∀ (H : Heap) (lc : Array Slot) (locs : List Loc) (cells slots : Nat) (Q : State → Prop), ev_Rep g σ H → ev_lv g lc M.2.2.1 ls → va_S (ev_A g) s.heap H locs → W p l e (ev_rm d σ0 r.2) s m args below meth c H locs cells slots Q (F0 m pc' lc (st'.map (ev_uv g))) → W p l e (ev_rm d σ0 r.2) s m args below meth c H locs cells slots Q (F0 m pc lc (st.map (ev_uv g))))
    (h : ev_P p l e s m args below meth c g sd d M σ0 r pc' ls st' σ) : ev_P p l e s m args below meth c g sd d M σ0 r pc ls st σ := by
  intro h0
  obtain ⟨h1, h2⟩ := h h0
  exact ⟨h1, fun H lc locs hR hl hS => hw H lc locs _ _ _ hR hl hS (h2 H lc locs hR hl hS)⟩
/-- a step that stores a local -/
theorem ev_P.stl {pc pc' : Nat} {ls ls' st st' : List Value} {σ : ev_S}
    (hw : ∀ (H : Heap) (lc : Array Slot) (locs : List Loc) (cells slots : Nat) (Q : State → Prop), ev_Rep g σ H → ev_lv g lc M.2.2.1 ls → va_S (ev_A g) s.heap H locs → (∀ lc', ev_lv g lc' M.2.2.1 ls' → W p l e (ev_rm d σ0 r.2) s m args below meth c H locs cells slots Q (F0 m pc' lc' (st'.map (ev_uv g)))) → W p l e (ev_rm d σ0 r.2) s m args below meth c H locs cells slots Q (F0 m pc lc (st.map (ev_uv g))))
    (h : ev_P p l e s m args below meth c g sd d M σ0 r pc' ls' st' σ) : ev_P p l e s m args below meth c g sd d M σ0 r pc ls st σ := by
  intro h0
  obtain ⟨h1, h2⟩ := h h0
  exact ⟨h1, fun H lc locs hR hl hS => hw H lc locs _ _ _ hR hl hS (fun lc' hl' => h2 H lc' locs hR hl' hS)⟩
theorem ev_i8 {n : Int} (h1 : -128 ≤ n) (h2 : n < 128) : (Int8.ofInt n).toInt32 = Int32.ofInt n := by
  apply Int32.toInt_inj.mp
  rw [Int8.toInt_toInt32, Int8.toInt_ofInt, Int32.toInt_ofInt]
  have e1 : n.bmod (2 ^ 8) = n := by rw [Int.bmod_eq_of_le] <;> omega
  have e2 : n.bmod (2 ^ 32) = n := by rw [Int.bmod_eq_of_le] <;> omega
  rw [e1, e2]
theorem ev_i16 {n : Int} (h1 : -32768 ≤ n) (h2 : n < 32768) : (Int16.ofInt n).toInt32 = Int32.ofInt n := by
  apply Int32.toInt_inj.mp
  rw [Int16.toInt_toInt32, Int16.toInt_ofInt, Int32.toInt_ofInt]
  have e1 : n.bmod (2 ^ 16) = n := by rw [Int.bmod_eq_of_le] <;> omega
  have e2 : n.bmod (2 ^ 32) = n := by rw [Int.bmod_eq_of_le] <;> omega
  rw [e1, e2]
theorem ev_con_ok (hA : ev_At p g M s m args meth c) {i : Instr} {pc n : Nat} {ls st : List Value} {σ : ev_S} {v : Value} (hdg : decode M.2.1 pc = .ok (i, ev_len pc i)) (hc : ev_con i = some (v, n)) (h : ev_P p l e s m args below meth c g sd d M σ0 r (pc + n) ls (v :: st) σ) : ev_P p l e s m args below meth c g sd d M σ0 r pc ls st σ := by
  obtain ⟨hx, hb, -⟩ := hA
  refine ev_P.step (fun H lc locs cells slots Q hR hl hS hW => ?_) h
  unfold ev_con at hc
  split at hc
  · cases hc
    exact lv_iconst hx hb hdg rfl hW
  · rename_i n
    cases hb1 : decide (-128 ≤ n) && decide (n < 128) with
    | false => rw [hb1] at hc; cases hc
    | true =>
      rw [hb1] at hc
      cases hc
      simp only [Bool.and_eq_true, decide_eq_true_eq] at hb1
      exact lv_bipush hx hb hdg (ev_i8 hb1.1 hb1.2) hW
  · rename_i n
    cases hb1 : decide (-32768 ≤ n) && decide (n < 32768) with
    | false => rw [hb1] at hc; cases hc
    | true =>
      rw [hb1] at hc
      cases hc
      simp only [Bool.and_eq_true, decide_eq_true_eq] at hb1
      exact lv_sipush hx hb hdg (ev_i16 hb1.1 hb1.2) hW
  · cases hc
    exact lv_lconst hx hb hdg rfl hW
  · cases hc
theorem ev_is0 {v : Value} (h : ev_is v 0 = true) : ∃ x, v = .int x := by cases v <;> simp_all [ev_is]
theorem ev_is1 {v : Value} (h : ev_is v 1 = true) : ∃ x, v = .long x := by cases v <;> simp_all [ev_is]
theorem ev_is2 {v : Value} (h : ev_is v 2 = true) : ∃ x, v = .ref x := by cases v <;> simp_all [ev_is]
theorem ev_loa_ok (hA : ev_At p g M s m args meth c) {i : Instr} {pc t k n : Nat} {ls st : List Value} {σ : ev_S} {v : Value} (hdg : decode M.2.1 pc = .ok (i, ev_len pc i)) (hc : ev_loa i = some (t, k, n)) (hn : ev_nth ls k = some v) (hi : ev_is v t = true) (h : ev_P p l e s m args below meth c g sd d M σ0 r (pc + n) ls (v :: st) σ) : ev_P p l e s m args below meth c g sd d M σ0 r pc ls st σ := by
  obtain ⟨hx, hb, -⟩ := hA
  refine ev_P.step (fun H lc locs cells slots Q hR hl hS hW => ?_) h
  have hl2 := hl.2.2.2 k v hn
  unfold ev_loa at hc
  split at hc
  · cases hc
    obtain ⟨x, rfl⟩ := ev_is0 hi
    exact lv_iload_n hx hb hdg rfl (hl2 (fun z => by cases z)) hW
  · cases hc
    obtain ⟨x, rfl⟩ := ev_is0 hi
    exact lv_iload hx hb hdg (hl2 (fun z => by cases z)) hW
  · cases hc
    obtain ⟨x, rfl⟩ := ev_is1 hi
    exact lv_lload_n hx hb hdg rfl (hl2 (fun z => by cases z)) hW
  · cases hc
    obtain ⟨x, rfl⟩ := ev_is1 hi
    exact lv_lload hx hb hdg (hl2 (fun z => by cases z)) hW
  · cases hc
    obtain ⟨x, rfl⟩ := ev_is2 hi
    exact lv_aload_n hx hb hdg rfl (hl2 (fun z => by cases z)) hW
  · cases hc
    obtain ⟨x, rfl⟩ := ev_is2 hi
    exact lv_aload hx hb hdg (hl2 (fun z => by cases z)) hW
  · cases hc
/-- the locals that are known, as the kit lists them -/
def ev_al (g : ev_G) (ls : List Value) : List (Nat × Value) := (List.range ls.length).filterMap (fun i => (ev_nth ls i).bind (fun w => if w = ev_U then none else some (i, ev_uv g w)))
theorem ev_nth_lt {α : Type} : ∀ {l : List α} {i : Nat} {v : α}, ev_nth l i = some v → i < l.length
  | [], _, _, h => by simp [ev_nth] at h
  | _ :: _, 0, _, _ => by simp
  | _ :: t, i + 1, v, h => by
    have := ev_nth_lt (l := t) (i := i) (v := v) h
    simp; omega
theorem ev_al_in {g : ev_G} {ls : List Value} {i : Nat} {w : Value} (h : ev_nth ls i = some w) (hw : w ≠ ev_U) : (i, ev_uv g w) ∈ ev_al g ls := List.mem_filterMap.mpr ⟨i, List.mem_range.mpr (ev_nth_lt h), by simp [h, hw]⟩
theorem ev_al_of {g : ev_G} {ls : List Value} {q : Nat × Value} (h : q ∈ ev_al g ls) : ∃ w, ev_nth ls q.1 = some w ∧ w ≠ ev_U ∧ q.2 = ev_uv g w := by
  obtain ⟨i, -, hi⟩ := List.mem_filterMap.mp h
  cases hn : ev_nth ls i with
  | none => simp [hn] at hi
  | some w =>
    by_cases hu : w = ev_U
    · simp [hn, hu] at hi
    · simp [hn, hu] at hi
      subst hi
      exact ⟨w, hn, hu, rfl⟩
theorem ev_lv.has {g : ev_G} {lc : Array Slot} {n : Nat} {ls : List Value} (h : ev_lv g lc n ls) : lv_has lc n (ev_al g ls) := ⟨h.1, h.2.2.1, fun q hq => by
  obtain ⟨w, h1, h2, h3⟩ := ev_al_of hq
  rw [h3]
  exact h.2.2.2 q.1 w h1 h2⟩
theorem ev_uv_cat {g : ev_G} (hf : g.2.2.2.2.2.1.category = 1) (v : Value) : (ev_uv g v).category = v.category := by cases v <;> first | rfl | exact hf
theorem ev_sk1_spec : ∀ (ls : List Value) (k : Nat) (v : Value) (f : List Value → Option ev_R) (r : ev_R), ev_sk1 ls k v f = some r → ∃ ls', f ls' = some r ∧ k < ls.length ∧ ls'.length = ls.length ∧ ∀ i w, ev_nth ls' i = some w → w ≠ ev_U → (i = k ∧ w = v) ∨ (i ≠ k ∧ ev_nth ls i = some w ∧ ¬ (i + 1 = k ∧ w.category = 2))
  | [], _, _, _, _, h => by simp [ev_sk1] at h
  | a :: t, 0, v, f, r, h => ⟨v :: t, h, by simp, by simp, fun i w hi hw => by
    cases i with
    | zero => simp [ev_nth] at hi; exact Or.inl ⟨rfl, hi.symm⟩
    | succ i => exact Or.inr ⟨by omega, hi, by omega⟩⟩
  | a :: t, 1, v, f, r, h => by
    obtain ⟨t', h1, h2, h3, h4⟩ := ev_sk1_spec t 0 v _ r h
    cases hc : Nat.beq a.category 2 with
    | true =>
      rw [hc] at h1
      refine ⟨ev_U :: t', h1, by simp; omega, by simp [h3], fun i w hi hw => ?_⟩
      cases i with
      | zero => simp [ev_nth] at hi; exact absurd hi.symm hw
      | succ i =>
        rcases h4 i w hi hw with ⟨e1, e2⟩ | ⟨e1, e2, e3⟩
        · exact Or.inl ⟨by omega, e2⟩
        · exact Or.inr ⟨by omega, e2, by omega⟩
    | false =>
      rw [hc] at h1
      refine ⟨a :: t', h1, by simp; omega, by simp [h3], fun i w hi hw => ?_⟩
      cases i with
      | zero =>
        simp [ev_nth] at hi
        subst hi
        refine Or.inr ⟨by omega, rfl, fun z => ?_⟩
        rw [z.2] at hc
        cases hc
      | succ i =>
        rcases h4 i w hi hw with ⟨e1, e2⟩ | ⟨e1, e2, e3⟩
        · exact Or.inl ⟨by omega, e2⟩
        · exact Or.inr ⟨by omega, e2, by omega⟩
  | a :: t, n + 2, v, f, r, h => by
    obtain ⟨t', h1, h2, h3, h4⟩ := ev_sk1_spec t (n + 1) v _ r h
    refine ⟨a :: t', h1, by simp; omega, by simp [h3], fun i w hi hw => ?_⟩
    cases i with
    | zero => exact Or.inr ⟨by omega, hi, by omega⟩
    | succ i =>
      rcases h4 i w hi hw with ⟨e1, e2⟩ | ⟨e1, e2, e3⟩
      · exact Or.inl ⟨by omega, e2⟩
      · exact Or.inr ⟨by omega, e2, by omega⟩
theorem ev_sk2_spec : ∀ (ls : List Value) (k : Nat) (v : Value) (f : List Value → Option ev_R) (r : ev_R), ev_sk2 ls k v f = some r → ∃ ls', f ls' = some r ∧ k + 1 < ls.length ∧ ls'.length = ls.length ∧ ∀ i w, ev_nth ls' i = some w → w ≠ ev_U → (i = k ∧ w = v) ∨ (i ≠ k ∧ i ≠ k + 1 ∧ ev_nth ls i = some w ∧ ¬ (i + 1 = k ∧ w.category = 2))
  | [], _, _, _, _, h => by simp [ev_sk2] at h
  | [a], 0, _, _, _, h => by simp [ev_sk2] at h
  | a :: b :: t, 0, v, f, r, h => ⟨v :: ev_U :: t, h, by simp, by simp, fun i w hi hw => by
    match i, hi with
    | 0, hi => simp [ev_nth] at hi; exact Or.inl ⟨rfl, hi.symm⟩
    | 1, hi => simp [ev_nth] at hi; exact absurd hi.symm hw
    | i + 2, hi => exact Or.inr ⟨by omega, by omega, hi, by omega⟩⟩
  | a :: t, 1, v, f, r, h => by
    simp only [ev_sk2] at h
    obtain ⟨t', h1, h2, h3, h4⟩ := ev_sk2_spec t 0 v _ r h
    cases hc : Nat.beq a.category 2 with
    | true =>
      rw [hc] at h1
      refine ⟨ev_U :: t', h1, by simp; omega, by simp [h3], fun i w hi hw => ?_⟩
      cases i with
      | zero => simp [ev_nth] at hi; exact absurd hi.symm hw
      | succ i =>
        rcases h4 i w hi hw with ⟨e1, e2⟩ | ⟨e1, e2, e3, e4⟩
        · exact Or.inl ⟨by omega, e2⟩
        · exact Or.inr ⟨by omega, by omega, e3, by omega⟩
    | false =>
      rw [hc] at h1
      refine ⟨a :: t', h1, by simp; omega, by simp [h3], fun i w hi hw => ?_⟩
      cases i with
      | zero =>
        simp [ev_nth] at hi
        subst hi
        refine Or.inr ⟨by omega, by omega, rfl, fun z => ?_⟩
        rw [z.2] at hc
        cases hc
      | succ i =>
        rcases h4 i w hi hw with ⟨e1, e2⟩ | ⟨e1, e2, e3, e4⟩
        · exact Or.inl ⟨by omega, e2⟩
        · exact Or.inr ⟨by omega, by omega, e3, by omega⟩
  | a :: t, n + 2, v, f, r, h => by
    simp only [ev_sk2] at h
    obtain ⟨t', h1, h2, h3, h4⟩ := ev_sk2_spec t (n + 1) v _ r h
    refine ⟨a :: t', h1, by simp; omega, by simp [h3], fun i w hi hw => ?_⟩
    cases i with
    | zero => exact Or.inr ⟨by omega, by omega, hi, by omega⟩
    | succ i =>
      rcases h4 i w hi hw with ⟨e1, e2⟩ | ⟨e1, e2, e3, e4⟩
      · exact Or.inl ⟨by omega, e2⟩
      · exact Or.inr ⟨by omega, by omega, e3, by omega⟩
theorem ev_lv.of1 {g : ev_G} (hf : g.2.2.2.2.2.1.category = 1) {lc lc' : Array Slot} {n k : Nat} {ls ls' : List Value} {v : Value} (h : ev_lv g lc n ls) (hlen : ls'.length = ls.length) (hs : ∀ i w, ev_nth ls' i = some w → w ≠ ev_U → (i = k ∧ w = v) ∨ (i ≠ k ∧ ev_nth ls i = some w ∧ ¬ (i + 1 = k ∧ w.category = 2)))
    (h' : lv_has lc' n ((k, ev_uv g v) :: (ev_al g ls).filter (fun q => !(q.1 == k) && !(q.1 + 1 == k && q.2.category == 2)))) : ev_lv g lc' n ls' := by
  refine ⟨h'.1, hlen.trans h.2.1, h'.2.1, fun i w hi hw => ?_⟩
  rcases hs i w hi hw with ⟨e1, e2⟩ | ⟨e1, e2, e3⟩
  · subst e1; subst e2
    exact h'.2.2 _ List.mem_cons_self
  · refine h'.2.2 (i, ev_uv g w) (List.mem_cons_of_mem _ (List.mem_filter.mpr ⟨ev_al_in e2 hw, ?_⟩))
    rw [ev_uv_cat hf]
    simp only [Bool.and_eq_true, Bool.not_eq_true', beq_eq_false_iff_ne, ne_eq, Bool.and_eq_false_imp, beq_iff_eq]
    exact ⟨e1, fun z1 z2 => e3 ⟨z1, z2⟩⟩
theorem ev_lv.of2 {g : ev_G} (hf : g.2.2.2.2.2.1.category = 1) {lc lc' : Array Slot} {n k : Nat} {ls ls' : List Value} {v : Value} (h : ev_lv g lc n ls) (hlen : ls'.length = ls.length) (hs : ∀ i w, ev_nth ls' i = some w → w ≠ ev_U → (i = k ∧ w = v) ∨ (i ≠ k ∧ i ≠ k + 1 ∧ ev_nth ls i = some w ∧ ¬ (i + 1 = k ∧ w.category = 2)))
    (h' : lv_has lc' n ((k, ev_uv g v) :: (ev_al g ls).filter (fun q => !(q.1 == k) && (!(q.1 == k + 1) && !(q.1 + 1 == k && q.2.category == 2))))) : ev_lv g lc' n ls' := by
  refine ⟨h'.1, hlen.trans h.2.1, h'.2.1, fun i w hi hw => ?_⟩
  rcases hs i w hi hw with ⟨e1, e2⟩ | ⟨e1, e2, e3, e4⟩
  · subst e1; subst e2
    exact h'.2.2 _ List.mem_cons_self
  · refine h'.2.2 (i, ev_uv g w) (List.mem_cons_of_mem _ (List.mem_filter.mpr ⟨ev_al_in e3 hw, ?_⟩))
    rw [ev_uv_cat hf]
    simp only [Bool.and_eq_true, Bool.not_eq_true', beq_eq_false_iff_ne, ne_eq, Bool.and_eq_false_imp, beq_iff_eq]
    exact ⟨e1, e2, fun z1 z2 => e4 ⟨z1, z2⟩⟩
theorem ev_sto_ok (hA : ev_At p g M s m args meth c) {i : Instr} {pc t k n : Nat} {ls st : List Value} {σ : ev_S} {v : Value} (hdg : decode M.2.1 pc = .ok (i, ev_len pc i)) (hc : ev_sto i = some (t, k, n)) (hi : ev_is v t = true) {K : ev_K} (hK : ∀ pc' ls' st' σ', K pc' ls' st' σ' = some r → ev_P p l e s m args below meth c g sd d M σ0 r pc' ls' st' σ')
    (h : (bif Nat.beq t 1 then ev_sk2 ls k v (fun ls' => K (pc + n) ls' st σ) else ev_sk1 ls k v (fun ls' => K (pc + n) ls' st σ)) = some r) : ev_P p l e s m args below meth c g sd d M σ0 r pc ls (v :: st) σ := by
  obtain ⟨hx, hb, -, -, -, -, -, -, -, hCx, -⟩ := hA
  have hf := hCx.2.2.2.2.2.2.2.2.2.2
  unfold ev_sto at hc
  split at hc
  · cases hc
    obtain ⟨x, rfl⟩ := ev_is0 hi
    obtain ⟨ls', h1, h2, h3, h4⟩ := ev_sk1_spec _ _ _ _ _ h
    refine ev_P.stl (fun H lc locs cells slots Q hR hl hS hW => ?_) (hK _ _ _ _ h1)
    exact lv_istore_n hx hb hdg rfl hl.has (by rw [← hl.2.1]; exact h2) rfl (fun lc' h' => hW lc' (hl.of1 hf h3 h4 h'))
  · cases hc
    obtain ⟨x, rfl⟩ := ev_is0 hi
    obtain ⟨ls', h1, h2, h3, h4⟩ := ev_sk1_spec _ _ _ _ _ h
    refine ev_P.stl (fun H lc locs cells slots Q hR hl hS hW => ?_) (hK _ _ _ _ h1)
    exact lv_istore hx hb hdg hl.has (by rw [← hl.2.1]; exact h2) rfl (fun lc' h' => hW lc' (hl.of1 hf h3 h4 h'))
  · cases hc
    obtain ⟨x, rfl⟩ := ev_is1 hi
    obtain ⟨ls', h1, h2, h3, h4⟩ := ev_sk2_spec _ _ _ _ _ h
    refine ev_P.stl (fun H lc locs cells slots Q hR hl hS hW => ?_) (hK _ _ _ _ h1)
    exact lv_lstore_n hx hb hdg rfl hl.has (by rw [← hl.2.1]; exact h2) rfl (fun lc' h' => hW lc' (hl.of2 hf h3 h4 h'))
  · cases hc
    obtain ⟨x, rfl⟩ := ev_is1 hi
    obtain ⟨ls', h1, h2, h3, h4⟩ := ev_sk2_spec _ _ _ _ _ h
    refine ev_P.stl (fun H lc locs cells slots Q hR hl hS hW => ?_) (hK _ _ _ _ h1)
    exact lv_lstore hx hb hdg hl.has (by rw [← hl.2.1]; exact h2) rfl (fun lc' h' => hW lc' (hl.of2 hf h3 h4 h'))
  · cases hc
    obtain ⟨x, rfl⟩ := ev_is2 hi
    obtain ⟨ls', h1, h2, h3, h4⟩ := ev_sk1_spec _ _ _ _ _ h
    refine ev_P.stl (fun H lc locs cells slots Q hR hl hS hW => ?_) (hK _ _ _ _ h1)
    exact lv_astore_n hx hb hdg rfl hl.has (by rw [← hl.2.1]; exact h2) rfl (fun lc' h' => hW lc' (hl.of1 hf h3 h4 h'))
  · cases hc
    obtain ⟨x, rfl⟩ := ev_is2 hi
    obtain ⟨ls', h1, h2, h3, h4⟩ := ev_sk1_spec _ _ _ _ _ h
    refine ev_P.stl (fun H lc locs cells slots Q hR hl hS hW => ?_) (hK _ _ _ _ h1)
    exact lv_astore hx hb hdg hl.has (by rw [← hl.2.1]; exact h2) rfl (fun lc' h' => hW lc' (hl.of1 hf h3 h4 h'))
  · cases hc
theorem ev_i2_ok (hA : ev_At p g M s m args meth c) {i : Instr} {pc : Nat} {ls st : List Value} {σ : ev_S} {f : Int32 → Int32 → Int32} {x y : Int32} (hdg : decode M.2.1 pc = .ok (i, ev_len pc i)) (hc : ev_i2 i = some f) (h : ev_P p l e s m args below meth c g sd d M σ0 r (pc + 1) ls (.int (f x y) :: st) σ) : ev_P p l e s m args below meth c g sd d M σ0 r pc ls (.int y :: .int x :: st) σ := by
  obtain ⟨hx, hb, -⟩ := hA
  refine ev_P.step (fun H lc locs cells slots Q hR hl hS hW => ?_) h
  unfold ev_i2 at hc
  split at hc <;> cases hc
  · exact lv_iadd hx hb hdg hW
  · exact lv_isub hx hb hdg hW
  · exact lv_imul hx hb hdg hW
  · exact lv_iand hx hb hdg hW
  · exact lv_ior hx hb hdg hW
  · exact lv_ixor hx hb hdg hW
  · exact lv_ishl hx hb hdg hW
  · exact lv_ishr hx hb hdg hW
  · exact lv_iushr hx hb hdg rfl hW
theorem ev_i1_ok (hA : ev_At p g M s m args meth c) {i : Instr} {pc : Nat} {ls st : List Value} {σ : ev_S} {f : Int32 → Int32} {x : Int32} (hdg : decode M.2.1 pc = .ok (i, ev_len pc i)) (hc : ev_i1 i = some f) (h : ev_P p l e s m args below meth c g sd d M σ0 r (pc + 1) ls (.int (f x) :: st) σ) : ev_P p l e s m args below meth c g sd d M σ0 r pc ls (.int x :: st) σ := by
  obtain ⟨hx, hb, -⟩ := hA
  refine ev_P.step (fun H lc locs cells slots Q hR hl hS hW => ?_) h
  unfold ev_i1 at hc
  split at hc <;> cases hc
  · exact lv_ineg hx hb hdg hW
  · exact lv_i2b hx hb hdg rfl hW
  · exact lv_i2s hx hb hdg rfl hW
  · exact lv_i2c hx hb hdg rfl hW
theorem ev_l2_ok (hA : ev_At p g M s m args meth c) {i : Instr} {pc : Nat} {ls st : List Value} {σ : ev_S} {f : Int64 → Int64 → Int64} {x y : Int64} (hdg : decode M.2.1 pc = .ok (i, ev_len pc i)) (hc : ev_l2 i = some f) (h : ev_P p l e s m args below meth c g sd d M σ0 r (pc + 1) ls (.long (f x y) :: st) σ) : ev_P p l e s m args below meth c g sd d M σ0 r pc ls (.long y :: .long x :: st) σ := by
  obtain ⟨hx, hb, -⟩ := hA
  refine ev_P.step (fun H lc locs cells slots Q hR hl hS hW => ?_) h
  unfold ev_l2 at hc
  split at hc <;> cases hc
  · exact lv_ladd hx hb hdg hW
  · exact lv_lsub hx hb hdg hW
  · exact lv_lmul hx hb hdg hW
  · exact lv_land hx hb hdg hW
  · exact lv_lor hx hb hdg hW
theorem ev_l3_ok (hA : ev_At p g M s m args meth c) {i : Instr} {pc : Nat} {ls st : List Value} {σ : ev_S} {f : Int64 → Int32 → Int64} {x : Int64} {y : Int32} (hdg : decode M.2.1 pc = .ok (i, ev_len pc i)) (hc : ev_l3 i = some f) (h : ev_P p l e s m args below meth c g sd d M σ0 r (pc + 1) ls (.long (f x y) :: st) σ) : ev_P p l e s m args below meth c g sd d M σ0 r pc ls (.int y :: .long x :: st) σ := by
  obtain ⟨hx, hb, -⟩ := hA
  refine ev_P.step (fun H lc locs cells slots Q hR hl hS hW => ?_) h
  unfold ev_l3 at hc
  split at hc <;> cases hc
  · exact lv_lshl hx hb hdg rfl hW
  · exact lv_lshr hx hb hdg rfl hW
end EVW
