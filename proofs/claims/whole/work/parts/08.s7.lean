/-- what is asked of a method's data -/
def ev_MOk (M : ev_Me) : Prop := Cond.code M.1 M.2.1 M.2.2.1 M.2.2.2.1 ∈ ev_gw ∧ ev_rows M ∧ M.2.2.1 ≤ 80 ∧ M.1.cls = ev_cn M.2.2.2.2.1 ∧ plainName M.1.cls = true ∧ M.1.cls ≠ "java/lang/invoke/MethodHandle" ∧ M.1.cls ≠ "java/lang/invoke/VarHandle"
def ev_np (M : ev_Me) : Option Nat := (parseMethodDescriptor M.1.desc).map (fun d => d.parameters.length)
/-- the tables' facts: calls -/
def ev_TM : Prop := ∀ oc idx kind n ci Mc, ev_lk (ev_ml oc) idx = some (kind, n, ci, Mc) →
  (kind = 6 → Cond.methodLink (ev_cn oc) idx Lib.Math.max.name ∈ ev_gw ∧ Cond.static Lib.Math.max.name ∈ ev_gw ∧ Cond.initialized "java/lang/Math" ∈ ev_gw ∧ Cond.code Lib.Math.max.name Lib.Math.max.code 2 (some .int) ∈ ev_gw) ∧
  (kind = 7 → Cond.methodLink (ev_cn oc) idx Lib.Math.min.name ∈ ev_gw ∧ Cond.static Lib.Math.min.name ∈ ev_gw ∧ Cond.initialized "java/lang/Math" ∈ ev_gw ∧ Cond.code Lib.Math.min.name Lib.Math.min.code 2 (some .int) ∈ ev_gw) ∧
  (kind = 8 → Cond.methodLink (ev_cn oc) idx objectInit ∈ ev_gw ∧ Cond.instanceMethod objectInit ∈ ev_gw ∧ Cond.code objectInit ⟨#[0xb1]⟩ 1 none ∈ ev_gw) ∧
  (kind = 9 → Cond.methodLink (ev_cn oc) idx arraycopyName ∈ ev_gw ∧ Cond.native arraycopyName ∈ ev_gw ∧ Cond.static arraycopyName ∈ ev_gw ∧ Cond.initialized "java/lang/System" ∈ ev_gw) ∧
  (kind = 0 → ev_MOk Mc ∧ ((ci < 11 ∧ Mc.1.cls = (ev_cl ci).1) ∨ (ci = 20 ∧ Mc.1.cls = "java/lang/String")) ∧ Cond.methodLink (ev_cn oc) idx Mc.1 ∈ ev_gw ∧ Cond.instanceMethod Mc.1 ∈ ev_gw ∧ Cond.selects Mc.1.cls Mc.1 Mc.1 ∈ ev_gw ∧ Cond.initialized Mc.1.cls ∈ ev_gw ∧ 1 ≤ n ∧ ev_np Mc = some (n - 1)) ∧
  (kind = 1 → ev_MOk Mc ∧ Cond.methodLink (ev_cn oc) idx Mc.1 ∈ ev_gw ∧ Cond.instanceMethod Mc.1 ∈ ev_gw ∧ Cond.initialized Mc.1.cls ∈ ev_gw ∧ Mc.1.name = "<init>" ∧ Mc.2.2.2.1 = none ∧ 1 ≤ n ∧ ev_np Mc = some (n - 1)) ∧
  (kind = 2 → ev_MOk Mc ∧ Cond.methodLink (ev_cn oc) idx Mc.1 ∈ ev_gw ∧ Cond.static Mc.1 ∈ ev_gw ∧ Cond.initialized Mc.1.cls ∈ ev_gw ∧ ev_np Mc = some n) ∧
  (kind = 3 → ev_MOk Mc ∧ (∃ host, Cond.methodLinkNest (ev_cn oc) idx Mc.1 host ∈ ev_nest) ∧ Cond.instanceMethod Mc.1 ∈ ev_gw ∧ Cond.initialized Mc.1.cls ∈ ev_gw ∧ Mc.1.name = "<init>" ∧ Mc.2.2.2.1 = none ∧ 1 ≤ n ∧ ev_np Mc = some (n - 1)) ∧
  (kind = 4 → ev_MOk Mc ∧ (∃ host, Cond.methodLinkNest (ev_cn oc) idx Mc.1 host ∈ ev_nest) ∧ Cond.static Mc.1 ∈ ev_gw ∧ Cond.initialized Mc.1.cls ∈ ev_gw ∧ ev_np Mc = some n)
theorem ev_gw_good {w : Cond} (h : w ∈ ev_gw) : (w.onTables && w.keeps) = true ∨ ∃ ty, w = .arrayClass ty := good_of_word (List.mem_filter.mp h).2
theorem ev_gi {ws : List Cond} (h : ∀ w ∈ ws, w ∈ ev_gw) : GoodIn ev_gw ws := fun w hw => ⟨h w hw, ev_gw_good (h w hw)⟩
theorem ev_wsM_in {M : ev_Me} (h : ev_MOk M) : ∀ w ∈ ev_wsM M, w ∈ ev_gw := fun w hw => (List.mem_cons.mp hw).elim (fun e => e ▸ h.1) id
theorem ev_blind {g : ev_G} {args : List Value} {σ : ev_S} : FrameBlind (ev_Pc g args σ) := fun a U fr mk h => ⟨h.1, h.2.1, ev_Cx.same (u := U) (U := U.calling fr mk a) rfl h.2.2⟩
theorem ev_Met.met {l : Launch} {g : ev_G} {d : Nat} {M : ev_Me} {args : List Value} {σ : ev_S} {r : ev_R} {v : Option Value} (h : ev_Met l g d M args σ r) (hr : r.1 = some v) : Met l M.1 (ev_wsM M) (ev_rm d σ r.2) (ev_Pc g args σ) (ev_Qc g r) (ev_c r.2 - ev_c σ) (ev_s r.2 - ev_s σ) (ev_A g) := by
  intro p e ha hc hk s m args below hf happ hP hK
  obtain ⟨n, o, h1, h2, h3, h4⟩ := h p e ha hc hk s m args below hf happ hP hK
  refine ⟨n, o, h1, h2, h3, ?_⟩
  rcases h4 with h4 | ⟨q, -, E, ce, L, hx, -⟩
  · exact h4
  · rw [hx.1] at hr; cases hr
section EVCALL
variable {p : Program} {l : Launch} {e : Env} {R : Room} {s : State} {m : MethodId} {args : Array Value} {below : List Frame} {meth : Method} {c : Code} {g : ev_G} {sd : Bool} {d : Nat} {M : ev_Me} {σ0 : ev_S} {r : ev_R}
theorem ev_room {m : MethodId} {pc : Nat} {lc : Array Slot} {st0 rest : List Value} (hf : g.2.2.2.2.2.1.category = 1) (h : rest.length ≤ 4) : 2 * (F0 m pc lc st0).monitorRoom + ((rest.map (ev_uv g)).map fun v => v.category).sum ≤ 8 := by
  have := ev_cat_sum hf rest
  show 2 * 0 + _ ≤ 8
  omega
/-- behind a call that returned -/
theorem ev_called (hA : ev_At p g M s m args meth c) {H : Heap} {lc : Array Slot} {locs : List Loc} {cells slots mc ms pc : Nat} {st0 rest : List Value} {r' : ev_R} {v : Option Value} {a : Array Value} {Q : State → Prop} (hr' : r'.1 = some v)
    (hrun : va_Run p l e R s m args below meth c H locs cells slots mc ms (F0 m pc lc st0) rest (ev_Qc g r' a) (ev_A g)) (hS : va_S (ev_A g) s.heap H locs)
    (kk : ∀ (H1 : Heap) (locs1 : List Loc), ev_Rep g r'.2 H1 → va_S (ev_A g) s.heap H1 locs1 → W p l e R s m args below meth c H1 locs1 (cells + mc) (slots + ms) Q (F0 m (pc + 3) lc ((v.map (ev_uv g)).toList ++ rest))) : W p l e R s m args below meth c H locs cells slots Q (F0 m pc lc st0) := by
  obtain ⟨hx, hb, hml, hr, hlocks, hown, hnm, hexc, hts, hCx, hold, hb0⟩ := hA
  intro T hT X
  obtain ⟨v2, st₀, t, T', L, h0, X', hL, e1, e2, ⟨⟨v3, hv3, hv4⟩, hR1⟩, st⟩ := hrun T hT X
  have ev : v3 = v := Option.some.inj (hv3.symm.trans hr')
  subst ev
  have ev2 : v2 = v3.map (ev_uv g) := Outcome.returned.inj hv4
  subst ev2
  rw [← e1] at hR1
  have hsz : s.heap.size ≤ T'.heap.size := X'.same.2.1
  obtain ⟨t2, a1, b1⟩ := kk T'.heap (locs ++ L) hR1 ⟨hsz, fun q _ h2 => (hR1.2.2.1 q (Nat.lt_of_not_le h2)).trans (hold q (Nat.lt_of_not_le h2)).symm, fun q hq => by
    rcases List.mem_append.mp hq with h | h
    · exact hS.2.2 q h
    · exact hL q h⟩ T' rfl X'
  exact ⟨t2, st t2 a1, b1⟩
theorem ev_fx_rep {σ τ : ev_S} {H : Heap} (h : sd = true → τ.1.1 = σ.1.1 ∧ τ.2.2.2 = σ.2.2.2) : ev_fx sd σ τ = τ := by
  unfold ev_fx
  cases sd with
  | false => rfl
  | true =>
    obtain ⟨h1, h2⟩ := h rfl
    show ((σ.1.1, τ.1.2), τ.2.1, τ.2.2.1, σ.2.2.2) = τ
    rw [← h1, ← h2]
/-- arraycopy between two rows of ints -/
theorem ev_cpyW {cc : ByteArray} (hexec : p.tables.exec = Jvm.exec) (hb : c.code = cc) {H : Heap} {locs : List Loc} {cells slots : Nat} {Q : State → Prop} {pc : Nat} {ls : Array Slot} {rest : List Value} (hml : c.maxLocals = ls.size) {own : String} {index : Nat} (hown : s.vm.findClass own = some m.cls) (hlink : (Cond.methodLink own index arraycopyName).before args s = true) (hnat : (Cond.native arraycopyName).before args s = true) (hstat : (Cond.static arraycopyName).before args s = true) (hini : (Cond.initialized "java/lang/System").before args s = true)
    {A : Nat → Prop} (hS : va_S A s.heap H locs) {a0 a : Nat} {c0 : ClassId} {n0 n1 : Nat} {f f2 : Nat → Int32} (hc0 : H[a0]? = some (vp_cell c0 (n0, .inl f))) (hc1 : H[a]? = some (vp_cell c0 (n1, .inl f2))) (ht : ArrOfT s c0 .int) (hAa : A a)
    {sp dp n : Int32} (h1 : ¬ sp < 0) (h2 : ¬ dp < 0) (h3 : ¬ n < 0) (h4 : sp.toNatClampNeg + n.toNatClampNeg ≤ n0) (h5 : dp.toNatClampNeg + n.toNatClampNeg ≤ n1)
    (hframes : 1 ≤ R.frames) (hlocals : (rest.map fun v => v.category).sum + (nativeFrameWords "java/lang/System" "arraycopy" 5 + 11) ≤ R.locals) (hdg : decode cc pc = .ok (.invokestatic index, 3))
    (kk : ∀ (H1 : Heap) (locs1 : List Loc), H1[a]? = some (vp_cell c0 (n1, .inl (va_cpy f f2 sp.toNatClampNeg dp.toNatClampNeg n.toNatClampNeg))) → H1.size = H.size → (∀ q : Nat, q ≠ a → H1[q]? = H[q]?) → va_S A s.heap H1 locs1 → W p l e R s m args below meth c H1 locs1 cells slots Q (F0 m (pc + 3) ls rest)) : W p l e R s m args below meth c H locs cells slots Q (F0 m pc ls (.int n :: .int dp :: .ref a :: .int sp :: .ref a0 :: rest)) := by
  have nn : ∀ z : Int32, ¬ z < 0 → z.toInt = (z.toNatClampNeg : Int) := by
    intro z hz
    have hz0 : (0 : Int) ≤ z.toInt := by
      have := Int32.not_lt.mp hz
      simpa using Int32.le_iff_toInt_le.mp this
    show z.toInt = ((z.toInt.toNat : Nat) : Int)
    omega
  intro T hT X
  obtain ⟨-, k0, hk0, cm0, hkk0⟩ := ht n0 (fun j => .int (f j))
  obtain ⟨-, k1, hk1, cm1, hkk1⟩ := ht n1 (fun j => .int (f2 j))
  obtain ⟨vm', X', step⟩ := X.arraycopy hexec hown hlink hnat hstat hini (src := a0) (dst := a) (cs := vp_cell c0 (n0, .inl f)) (cd := vp_cell c0 (n1, .inl f2)) (srcPos := sp) (destPos := dp) (n := n) (by rw [hT]; exact hc0) (by rw [hT]; exact hc1)
    (fun _ h => by cases h) (fun _ h => by cases h) (fun h => by cases h) (fun h => by cases h) hk0 hk1 hkk0 hkk1 (by simp [refKind]) h1 h2 h3
    (by rw [nn sp h1, nn n h3]; show ¬ _ > ((arrV c0 n0 (fun j => .int (f j))).slots.size : Int); rw [arrV_size]; omega)
    (by rw [nn dp h2, nn n h3]; show ¬ _ > ((arrV c0 n1 (fun j => .int (f2 j))).slots.size : Int); rw [arrV_size]; omega)
    (fun vm₁ _ i hi => by
      have e : (vp_cell c0 (n0, .inl f)).slots.getD (sp.toNatClampNeg + i) .null = .int (f (sp.toNatClampNeg + i)) := by
        show (arrV c0 n0 (fun j => .int (f j))).slots.getD _ _ = _
        rw [Array.getD_eq_getD_getElem?, arrV_read _ _ (by omega)]
        rfl
      refine ⟨?_, ?_⟩
      · rw [e]; rfl
      · rw [e]
        exact trivial)
    (g := F0 m pc ls (.int n :: .int dp :: .ref a :: .int sp :: .ref a0 :: rest)) rfl (by rw [hml]) (rest := rest) rfl (by rw [hb]; exact hdg) hframes (by show 2 * 0 + _ + _ ≤ _; omega)
  have e1 : copied (vp_cell c0 (n0, .inl f)) (vp_cell c0 (n1, .inl f2)) sp dp n = vp_cell c0 (n1, .inl (va_cpy f f2 sp.toNatClampNeg dp.toNatClampNeg n.toNatClampNeg)) := va_copied (fun z => .int z) c0 c0 f f2 h4
  rw [e1] at X' step
  have hl : a < H.size := (Array.getElem?_eq_some_iff.mp hc1).1
  have hheap : ((T.setVm vm').setCell a (vp_cell c0 (n1, .inl (va_cpy f f2 sp.toNatClampNeg dp.toNatClampNeg n.toNatClampNeg)))).heap = H.setIfInBounds a (vp_cell c0 (n1, .inl (va_cpy f f2 sp.toNatClampNeg dp.toNatClampNeg n.toNatClampNeg))) := by rw [← hT]; rfl
  have oq : ∀ q : Nat, q ≠ a → (H.setIfInBounds a (vp_cell c0 (n1, .inl (va_cpy f f2 sp.toNatClampNeg dp.toNatClampNeg n.toNatClampNeg))))[q]? = H[q]? := fun q hq => by simp [Array.getElem?_setIfInBounds, Ne.symm hq]
  obtain ⟨t, a1, b1⟩ := kk _ _ (by simp [Array.getElem?_setIfInBounds, hl]) (by simp) oq ⟨by simp; exact hS.1, fun q g1 g2 => by
      rw [oq q (fun e => g2 (by rw [e]; exact hAa))]
      exact hS.2.1 q g1 g2, fun q hq => by
      rcases List.mem_append.mp hq with h | h
      · exact hS.2.2 q h
      · obtain ⟨z, -, hz⟩ := List.mem_map.mp h
        rw [← hz]
        exact hAa⟩ _ hheap X'
  exact ⟨t, step t a1, b1⟩
theorem ev_take {st : List Value} {n : Nat} : st = ((st.take n).reverse).reverse ++ st.drop n := by simp
/-- what every call owes -/
theorem ev_go_on (hA : ev_At p g M s m args meth c) {Mc : ev_Me} {pc n : Nat} {ls st : List Value} {σ : ev_S} {d' : Nat} (hd : d = d' + 1) (hOk : ev_MOk Mc) {cf : ev_Me → List Value → ev_S → Option ev_R} (hcf : ∀ Mc args σ r', cf Mc args σ = some r' → ev_MOk Mc → ev_Met l g d' Mc args σ r' ∧ ev_le sd σ r'.2) {K : ev_K} (hK : ∀ pc' ls' st' σ', K pc' ls' st' σ' = some r → ev_P p l e s m args below meth c g sd d M σ0 r pc' ls' st' σ')
    (h : (match Mc.2.2.2.1 with
        | none => ev_cV (cf Mc (st.take n).reverse σ) (fun σ' => K (pc + 3) ls (st.drop n) (ev_fx sd σ σ'))
        | some .long => ev_cL (cf Mc (st.take n).reverse σ) (fun x σ' => K (pc + 3) ls (.long x :: st.drop n) (ev_fx sd σ σ'))
        | some .int => ev_cI (cf Mc (st.take n).reverse σ) (fun x σ' => K (pc + 3) ls (.int x :: st.drop n) (ev_fx sd σ σ'))
        | some .boolean => ev_cI (cf Mc (st.take n).reverse σ) (fun x σ' => K (pc + 3) ls (.int x :: st.drop n) (ev_fx sd σ σ'))
        | some .char => ev_cI (cf Mc (st.take n).reverse σ) (fun x σ' => K (pc + 3) ls (.int x :: st.drop n) (ev_fx sd σ σ'))
        | some .byte => ev_cI (cf Mc (st.take n).reverse σ) (fun x σ' => K (pc + 3) ls (.int x :: st.drop n) (ev_fx sd σ σ'))
        | _ => none) = some r)
    (run : ∀ (r' : ev_R) (v : Option Value), r'.1 = some v → Met l Mc.1 (ev_wsM Mc) (ev_rm d' σ r'.2) (ev_Pc g (st.take n).reverse σ) (ev_Qc g r') (ev_c r'.2 - ev_c σ) (ev_s r'.2 - ev_s σ) (ev_A g) → ∀ (H : Heap) (lc : Array Slot) (locs : List Loc) (cells slots : Nat), ev_Rep g σ H → ev_lv g lc M.2.2.1 ls → cells + (ev_c r'.2 - ev_c σ) ≤ ev_c r.2 - ev_c σ0 → slots + (ev_s r'.2 - ev_s σ) ≤ ev_s r.2 - ev_s σ0 →
      va_Run p l e (ev_rm d σ0 r.2) s m args below meth c H locs cells slots (ev_c r'.2 - ev_c σ) (ev_s r'.2 - ev_s σ) (F0 m pc lc (st.map (ev_uv g))) ((st.drop n).map (ev_uv g)) (ev_Qc g r' (((st.take n).reverse).map (ev_uv g)).toArray) (ev_A g)) :
    ev_P p l e s m args below meth c g sd d M σ0 r pc ls st σ := by
  have fin : ∀ (r' : ev_R) (v : Option Value), cf Mc (st.take n).reverse σ = some r' → r'.1 = some v → K (pc + 3) ls (v.toList ++ st.drop n) (ev_fx sd σ r'.2) = some r → ev_P p l e s m args below meth c g sd d M σ0 r pc ls st σ := by
    intro r' v hc hr' hk
    obtain ⟨hM, hle⟩ := hcf _ _ _ _ hc hOk
    rw [ev_fx_rep (H := s.heap) hle.2.2] at hk
    intro h0
    obtain ⟨g1, g2⟩ := hK _ _ _ _ hk (h0.tr hle)
    refine ⟨hle.tr g1, fun H lc locs hR hl hS => ?_⟩
    have k1 := h0.1
    have k2 := h0.2.1
    have k3 := hle.1
    have k4 := hle.2.1
    have k5 := g1.1
    have k6 := g1.2.1
    refine ev_called hA hr' (run r' v hr' (hM.met hr') H lc locs _ _ hR hl (by omega) (by omega)) hS (fun H1 locs1 hR1 hS1 => ?_)
    rw [show ev_c σ - ev_c σ0 + (ev_c r'.2 - ev_c σ) = ev_c r'.2 - ev_c σ0 by omega, show ev_s σ - ev_s σ0 + (ev_s r'.2 - ev_s σ) = ev_s r'.2 - ev_s σ0 by omega]
    have := g2 H1 lc locs1 hR1 hl hS1
    rw [List.map_append] at this
    cases v with
    | none => exact this
    | some v => exact this
  have fI : ev_cI (cf Mc (st.take n).reverse σ) (fun x σ' => K (pc + 3) ls (.int x :: st.drop n) (ev_fx sd σ σ')) = some r → ev_P p l e s m args below meth c g sd d M σ0 r pc ls st σ := by
    intro h
    unfold ev_cI at h
    split at h
    · rename_i x σ1 hc
      exact fin (some (some (.int x)), σ1) (some (.int x)) hc rfl h
    · cases h
  split at h
  · unfold ev_cV at h
    split at h
    · rename_i σ1 hc
      exact fin (some none, σ1) none hc rfl h
    · cases h
  · unfold ev_cL at h
    split at h
    · rename_i x σ1 hc
      exact fin (some (some (.long x)), σ1) (some (.long x)) hc rfl h
    · cases h
  · exact fI h
  · exact fI h
  · exact fI h
  · exact fI h
  · cases h
theorem ev_stk {st : List Value} {n : Nat} {v : Value} {as : List Value} (h : (st.take n).reverse = v :: as) : st.map (ev_uv g) = (as.map (ev_uv g)).reverse ++ ev_uv g v :: (st.drop n).map (ev_uv g) := by
  have h1 : st.take n = as.reverse ++ [v] := by
    have := congrArg List.reverse h
    rw [List.reverse_reverse] at this
    rw [this]; simp
  conv => lhs; rw [← List.take_append_drop n st, h1]
  simp
set_option maxHeartbeats 4000000 in
theorem ev_inv_ok (hTM : ev_TM) (hTC : ev_TC) (hA : ev_At p g M s m args meth c) {pc idx : Nat} {ls st : List Value} {σ : ev_S} {d' : Nat} (hd : d = d' + 1) {cf : ev_Me → List Value → ev_S → Option ev_R} (hcf : ∀ Mc args σ r', cf Mc args σ = some r' → ev_MOk Mc → ev_Met l g d' Mc args σ r' ∧ ev_le sd σ r'.2) {K : ev_K} (hK : ∀ pc' ls' st' σ', K pc' ls' st' σ' = some r → ev_P p l e s m args below meth c g sd d M σ0 r pc' ls' st' σ') {vir spe sta : Bool}
    (hvir : vir = true → decode M.2.1 pc = .ok (.invokevirtual idx, 3)) (hspe : spe = true → decode M.2.1 pc = .ok (.invokespecial idx, 3)) (hsta : sta = true → decode M.2.1 pc = .ok (.invokestatic idx, 3))
    (h : ev_inv sd cf M K vir spe sta idx pc ls st σ = some r) : ev_P p l e s m args below meth c g sd d M σ0 r pc ls st σ := by
  have hA0 := hA
  obtain ⟨hx, hb, hml, hr, hlocks, hown, hnm, hexc, hts, hCx, hold, hb0⟩ := hA
  have hf := hCx.2.2.2.2.2.2.2.2.2.2
  have hgl : ∀ a : Nat, a < g.2.2.1.size → ¬ ev_A g a → s.heap[a]? = g.2.2.1[a]? := fun a _ h2 => hold a (Nat.lt_of_not_le h2)
  unfold ev_inv at h
  split at h
  · cases h
  rename_i kind n ci Mc hlk
  obtain ⟨t6, t7, t8, t9, t0, t1, t2, t3, t4⟩ := hTM _ _ _ _ _ _ hlk
  cases h8 : Nat.beq kind 8 with
  | true =>
    rw [h8] at h
    simp only [cond_true] at h
    obtain ⟨w1, w2, w3⟩ := t8 (Nat.eq_of_beq_eq_true h8)
    cases hs : spe with
    | false => rw [hs] at h; cases h
    | true =>
      rw [hs] at h
      simp only [cond_true] at h
      split at h
      rotate_left
      · cases h
      rename_i k rest
      cases h4 : Nat.ble rest.length 4 with
      | false => rw [h4] at h; cases h
      | true =>
        rw [h4] at h
        simp only [cond_true] at h
        refine ev_P.step (fun H lc locs cells slots Q hR hl hS hW => ?_) (hK _ _ _ _ h)
        exact W.objInit hx hb hown (hts _ w1) (hts _ w2) (hts _ w3) rfl (hl.1.trans hml.symm) rfl (hspe hs) (by show 1 ≤ d + 10; omega) (by have := ev_room (g := g) (m := m) (pc := pc) (lc := lc) (st0 := []) (rest := rest) hf (Nat.le_of_ble_eq_true h4); show 2 * 0 + _ + 12 ≤ 100 * d + 400; have h9 : 2 * 0 + ((rest.map (ev_uv g)).map fun v => v.category).sum ≤ 8 := this; omega) hW
  | false =>
    rw [h8] at h
    simp only [cond_false] at h
    cases h9 : Nat.beq kind 9 with
    | true =>
      rw [h9] at h
      simp only [cond_true] at h
      obtain ⟨w1, w2, w3, w4⟩ := t9 (Nat.eq_of_beq_eq_true h9)
      cases hs : sta with
      | false => rw [hs] at h; cases h
      | true =>
        rw [hs] at h
        simp only [cond_true] at h
        split at h
        rotate_left
        · cases h
        rename_i len dp kd sp ks rest
        split at h
        rotate_left
        · cases h
        rename_i n1 n2 hks hkd
        cases hne : Nat.beq ks kd with
        | true => rw [hne] at h; cases h
        | false =>
          rw [hne] at h
          simp only [cond_false] at h
          split at h
          rotate_left
          · cases h
          rename_i hc
          simp only [Bool.and_eq_true, Bool.not_eq_true', decide_eq_true_eq, decide_eq_false_iff_not] at hc
          obtain ⟨⟨⟨⟨⟨hr4, c1⟩, c2⟩, c3⟩, c4⟩, c5⟩ := hc
          obtain ⟨q1, q2⟩ := ev_kd_cell hks (by omega)
          obtain ⟨q3, q4⟩ := ev_kd_cell hkd (by omega)
          refine ev_P.wrl (τ := (σ.1, ev_cp σ.2.1 ks kd sp.toNatClampNeg dp.toNatClampNeg len.toNatClampNeg, σ.2.2)) rfl (fun _ => rfl) (fun H lc locs cells slots Q hR hlv hS hW => ?_) (hK _ _ _ _ h)
          have a1 := ev_rowI hCx hR q1 q2 (Or.inl ⟨rfl, rfl⟩)
          have a2 := ev_rowI hCx hR q3 q4 (Or.inl ⟨rfl, rfl⟩)
          have a3 : W p l e (ev_rm d σ0 r.2) s m args below meth c H locs cells slots Q (F0 m pc lc (.int len :: .int dp :: .ref (g.2.1 + kd) :: .int sp :: .ref (g.2.1 + ks) :: rest.map (ev_uv g))) := by
            have hcat := ev_cat_sum hf rest
            have hr5 := Nat.le_of_ble_eq_true hr4
            have hnf : nativeFrameWords "java/lang/System" "arraycopy" 5 ≤ 100 := by decide
            refine ev_cpyW hx hb (hml.trans hlv.1.symm) hown (hts _ w1) (hts _ w2) (hts _ w3) (hts _ w4) hS a1.1 a2.1 a1.2 (show g.2.1 ≤ g.2.1 + kd by omega) c1 c2 c3 c4 c5 (by show 1 ≤ d + 10; omega) (by show _ ≤ 100 * d + 400; omega) (hsta hs) (fun H1 locs1 z1 z2 z3 z4 => hW H1 locs1 (ev_Rep_upd (σ := σ) (k := kd) hR rfl z2 z3 ?_ (fun q hq => ev_E_congr ?_ rfl rfl)) z4)
            · have hE : ev_E g ((σ.1, ev_cp σ.2.1 ks kd sp.toNatClampNeg dp.toNatClampNeg len.toNatClampNeg, σ.2.2) : ev_S) kd = .inl (g.2.2.2.2.2.2 1, n2, .inl (ev_cp σ.2.1 ks kd sp.toNatClampNeg dp.toNatClampNeg len.toNatClampNeg kd)) := by
                unfold ev_E
                rw [q4]; rfl
              rw [hE]
              show H1[g.2.1 + kd]? = some (vp_cell _ _)
              rw [z1]
              congr 4
              funext j
              unfold va_cpy ev_cp
              by_cases hj : dp.toNatClampNeg ≤ j ∧ j < dp.toNatClampNeg + len.toNatClampNeg
              · rw [if_pos hj, if_pos ⟨rfl, hj⟩]
              · rw [if_neg hj, if_neg (fun z => hj z.2)]
            · funext j
              show ev_cp σ.2.1 ks kd _ _ _ q j = _
              unfold ev_cp
              rw [if_neg (fun z => hq z.1)]
          show W p l e _ s m args below meth c H locs cells slots Q (F0 m pc lc (.int len :: .int dp :: .ref (ev_ad g kd) :: .int sp :: .ref (ev_ad g ks) :: rest.map (ev_uv g)))
          rw [ev_ad_cell (Nat.lt_of_lt_of_le q1 hR.2.2.2.1), ev_ad_cell (Nat.lt_of_lt_of_le q3 hR.2.2.2.1)]
          exact a3
    | false =>
      rw [h9] at h
      simp only [cond_false] at h
      cases h6 : Nat.beq kind 6 with
      | true =>
        rw [h6] at h
        simp only [cond_true] at h
        obtain ⟨w1, w2, w3, w4⟩ := t6 (Nat.eq_of_beq_eq_true h6)
        cases hs : sta with
        | false => rw [hs] at h; cases h
        | true =>
          rw [hs] at h
          simp only [cond_true] at h
          split at h
          rotate_left
          · cases h
          rename_i y x rest
          cases h4 : Nat.ble rest.length 4 with
          | false => rw [h4] at h; cases h
          | true =>
            rw [h4] at h
            simp only [cond_true] at h
            intro h0
            obtain ⟨g1, g2⟩ := hK _ _ _ _ h h0
            refine ⟨g1, fun H lc locs hR hl hS => ?_⟩
            have k1 := h0.1
            have k2 := h0.2.1
            have k3 := g1.1
            have k4 := g1.2.1
            exact va_mmax hx hb (hml.trans hl.1.symm) hown (hts _ w1) (hts _ w2) (hts _ w3) (hts _ w4) (by show 1 ≤ d + 10; omega) (by have hcat := ev_cat_sum hf rest; have hr5 := Nat.le_of_ble_eq_true h4; show _ ≤ 100 * d + 400; omega) (by show ev_c σ - ev_c σ0 ≤ ev_c r.2 - ev_c σ0; omega) (by show ev_s σ - ev_s σ0 ≤ ev_s r.2 - ev_s σ0; omega) (hsta hs) (g2 H lc locs hR hl hS)
      | false =>
      rw [h6] at h
      simp only [cond_false] at h
      cases h7 : Nat.beq kind 7 with
      | true =>
        rw [h7] at h
        simp only [cond_true] at h
        obtain ⟨w1, w2, w3, w4⟩ := t7 (Nat.eq_of_beq_eq_true h7)
        cases hs : sta with
        | false => rw [hs] at h; cases h
        | true =>
          rw [hs] at h
          simp only [cond_true] at h
          split at h
          rotate_left
          · cases h
          rename_i y x rest
          cases h4 : Nat.ble rest.length 4 with
          | false => rw [h4] at h; cases h
          | true =>
            rw [h4] at h
            simp only [cond_true] at h
            intro h0
            obtain ⟨g1, g2⟩ := hK _ _ _ _ h h0
            refine ⟨g1, fun H lc locs hR hl hS => ?_⟩
            have k1 := h0.1
            have k2 := h0.2.1
            have k3 := g1.1
            have k4 := g1.2.1
            exact va_mmin hx hb (hml.trans hl.1.symm) hown (hts _ w1) (hts _ w2) (hts _ w3) (hts _ w4) (by show 1 ≤ d + 10; omega) (by have hcat := ev_cat_sum hf rest; have hr5 := Nat.le_of_ble_eq_true h4; show _ ≤ 100 * d + 400; omega) (by show ev_c σ - ev_c σ0 ≤ ev_c r.2 - ev_c σ0; omega) (by show ev_s σ - ev_s σ0 ≤ ev_s r.2 - ev_s σ0; omega) (hsta hs) (g2 H lc locs hR hl hS)
      | false =>
      rw [h7] at h
      simp only [cond_false] at h
      cases hc : ((Nat.beq kind 0 && vir) || ((Nat.beq kind 1 || Nat.beq kind 3) && spe) || ((Nat.beq kind 2 || Nat.beq kind 4) && sta)) && Nat.ble (st.drop n).length 4 && Nat.ble n st.length && (!(Nat.beq kind 1 || Nat.beq kind 3) || ev_hd (st.take n).reverse) with
      | false => rw [hc] at h; cases h
      | true =>
        rw [hc] at h
        simp only [cond_true] at h
        simp only [Bool.and_eq_true] at hc
        obtain ⟨⟨⟨hk, h4⟩, hnl⟩, hhd⟩ := hc
        have h4' := Nat.le_of_ble_eq_true h4
        have hnl' := Nat.le_of_ble_eq_true hnl
        have hlen : (st.take n).reverse.length = n := by rw [List.length_reverse, List.length_take]; omega
        simp only [Bool.or_eq_true, Bool.and_eq_true] at hk
        rcases hk with (⟨hk, hv⟩ | ⟨hk, hv⟩) | ⟨hk, hv⟩
        · -- virtual
          have ek := Nat.eq_of_beq_eq_true hk
          obtain ⟨hOk, hcls, w1, w2, w3, w4, hn1, hnp⟩ := t0 ek
          rw [hk] at h
          unfold ev_rc at h
          simp only [cond_true] at h
          split at h
          rotate_left
          · cases h
          rename_i k as hargs
          cases hrc : ((ev_kd σ.1.1 k == (0, ci)) || (Nat.beq ci 20 && Nat.beq (ev_kd σ.1.1 k).1 10)) with
          | false => rw [hrc] at h; cases h
          | true =>
            rw [hrc] at h
            simp only [cond_true] at h
            refine ev_go_on hA0 hd hOk hcf hK h (fun r' v hr' hM H lc locs cells slots hR hl hc1 hc2 => ?_)
            rw [hargs] at hM hlen
            have hl1 : as.length + 1 = n := hlen
            refine va_runV (C := Mc.1.cls) (bytes := Mc.2.1) (maxL := Mc.2.2.1) (ret := Mc.2.2.2.1) (n := n - 1) (b := ev_ad g k) (As := as.map (ev_uv g)) (rest := (st.drop n).map (ev_uv g)) ⟨hx, hb, hml, hown, hts⟩ hM (cwV (n - 1) hts (ev_gi (fun w hw => ?_)) rfl rfl rfl ⟨rfl, hOk.2.2.2.2.2.1, hOk.2.2.2.2.2.2, hnp⟩ ⟨by show d' + 10 + 1 ≤ d + 10; omega, by have := hOk.2.2.1; show 8 + (Mc.2.2.1 + 11) + (100 * d' + 400) ≤ 100 * d + 400; omega⟩) ⟨ev_blind, ?_, fun U hU hW => ⟨rfl, by rw [hU]; exact hR, hCx.warm hW⟩⟩ rfl (by rw [List.length_map]; omega) hl.1 (by show st.map (ev_uv g) = _; exact ev_stk hargs) (ev_room hf h4') (hvir hv) ⟨hc1, hc2⟩
            · unfold wsV at hw
              rcases List.mem_append.mp hw with hw | hw
              · simp only [List.mem_cons, List.not_mem_nil, or_false] at hw
                rcases hw with rfl | rfl | rfl | rfl
                · exact w1
                · exact w2
                · exact w3
                · exact w4
              · exact ev_wsM_in hOk w hw
            · simp only [Bool.or_eq_true, Bool.and_eq_true] at hrc
              rcases hrc with hrc | ⟨hrc1, hrc2⟩
              · obtain ⟨q1, q2⟩ := ev_kd_cell (eq_of_beq hrc) (by omega)
                have hci := ev_lay_lt11 q2
                obtain ⟨cell, z1, z2, z3, -⟩ := ev_atO hTC hci hR q1 q2
                rw [ev_ad_cell (Nat.lt_of_lt_of_le q1 hR.2.2.2.1)]
                refine ⟨cell, z1, by rw [z3]; rfl, ?_⟩
                rcases hcls with ⟨-, hcls⟩ | ⟨hci2, -⟩
                · rw [hcls, z2]
                  exact (hCx.1.1 ci _ (hTC ci hci).1).2.1
                · omega
              · have e20 := Nat.eq_of_beq_eq_true hrc1
                obtain ⟨u1, u2, u3, u4⟩ := ev_kd_text (n := σ.1.1) (k := k) (t := 10) (x := (ev_kd σ.1.1 k).2) (by rw [← Nat.eq_of_beq_eq_true hrc2]) (Or.inl rfl)
                have hadk : ev_ad g k = g.2.2.2.1 (ev_kd σ.1.1 k).2 := by
                  unfold ev_ad
                  rw [if_neg (by omega), if_pos (by omega), u4]
                obtain ⟨cell, z1, z2, z3, z4⟩ := (hCx.2.2.2.2.2.1 _ u2).1
                rw [hadk]
                have hlt : ¬ ev_A g (g.2.2.2.1 (ev_kd σ.1.1 k).2) := z4
                refine ⟨cell, (hR.2.2.1 _ (Nat.lt_of_not_le hlt)).trans z1, z2, ?_⟩
                rcases hcls with ⟨hci2, -⟩ | ⟨-, hcls⟩
                · omega
                · rw [hcls]; exact z3
        · -- constructors
          have hkk : kind = 1 ∨ kind = 3 := hk.elim (fun z => Or.inl (Nat.eq_of_beq_eq_true z)) (fun z => Or.inr (Nat.eq_of_beq_eq_true z))
          have hk0 : Nat.beq kind 0 = false := by rcases hkk with rfl | rfl <;> rfl
          rw [hk0] at h
          unfold ev_rc at h
          simp only [cond_false] at h
          have hk13 : (Nat.beq kind 1 || Nat.beq kind 3) = true := by rcases hkk with rfl | rfl <;> rfl
          rw [hk13] at hhd
          simp only [Bool.not_true, Bool.false_or] at hhd
          unfold ev_hd at hhd
          split at hhd
          rotate_left
          · cases hhd
          rename_i k as hargs
          rcases hkk with ek | ek
          · obtain ⟨hOk, w1, w2, w3, hnm1, hret, hn1, hnp⟩ := t1 ek
            refine ev_go_on hA0 hd hOk hcf hK h (fun r' v hr' hM H lc locs cells slots hR hl hc1 hc2 => ?_)
            rw [hargs] at hM hlen
            have hl1 : as.length + 1 = n := hlen
            exact va_runI (bytes := Mc.2.1) (maxL := Mc.2.2.1) (n := n - 1) (b := ev_ad g k) (As := as.map (ev_uv g)) (rest := (st.drop n).map (ev_uv g)) ⟨hx, hb, hml, hown, hts⟩ hM (cwI (n - 1) hts (ev_gi (ev_wsM_in hOk)) (by rw [← hret]; rfl) rfl rfl (hts _ w3) (hts _ w1) (hts _ w2) hnm1 ⟨hOk.2.2.2.2.2.1, hOk.2.2.2.2.2.2, hnp⟩ ⟨by show d' + 10 + 1 ≤ d + 10; omega, by have := hOk.2.2.1; show 8 + (Mc.2.2.1 + 11) + (100 * d' + 400) ≤ 100 * d + 400; omega⟩) ⟨ev_blind, fun U hU hW => ⟨rfl, by rw [hU]; exact hR, hCx.warm hW⟩⟩ rfl (by rw [List.length_map]; omega) hl.1 (by show st.map (ev_uv g) = _; exact ev_stk hargs) (ev_room hf h4') (hspe hv) ⟨hc1, hc2⟩
          · obtain ⟨hOk, ⟨host, w1⟩, w2, w3, hnm1, hret, hn1, hnp⟩ := t3 ek
            refine ev_go_on hA0 hd hOk hcf hK h (fun r' v hr' hM H lc locs cells slots hR hl hc1 hc2 => ?_)
            rw [hargs] at hM hlen
            have hl1 : as.length + 1 = n := hlen
            exact va_runIN (host := host) (bytes := Mc.2.1) (maxL := Mc.2.2.1) (n := n - 1) (b := ev_ad g k) (As := as.map (ev_uv g)) (rest := (st.drop n).map (ev_uv g)) ⟨hx, hb, hml, hown, hts⟩ hM ⟨va_cnB (n - 1) hts (ev_gi (ev_wsM_in hOk)) (by rw [← hret]; rfl) rfl rfl (hCx.2.2.2.1 _ w1) (hts _ w3) ⟨hOk.2.2.2.2.2.1, hOk.2.2.2.2.2.2, hnp⟩ ⟨by show d' + 10 + 1 ≤ d + 10; omega, by have := hOk.2.2.1; show 8 + (Mc.2.2.1 + 11) + (100 * d' + 400) ≤ 100 * d + 400; omega⟩, hnm1, hts _ w2⟩ ⟨ev_blind, fun U hU hW => ⟨rfl, by rw [hU]; exact hR, hCx.warm hW⟩⟩ rfl (by rw [List.length_map]; omega) hl.1 (by show st.map (ev_uv g) = _; exact ev_stk hargs) (ev_room hf h4') (hspe hv) ⟨hc1, hc2⟩
        · -- static
          have hkk : kind = 2 ∨ kind = 4 := hk.elim (fun z => Or.inl (Nat.eq_of_beq_eq_true z)) (fun z => Or.inr (Nat.eq_of_beq_eq_true z))
          have hk0 : Nat.beq kind 0 = false := by rcases hkk with rfl | rfl <;> rfl
          rw [hk0] at h
          unfold ev_rc at h
          simp only [cond_false] at h
          have hstk : st.map (ev_uv g) = (((st.take n).reverse).map (ev_uv g)).reverse ++ (st.drop n).map (ev_uv g) := by
            rw [← List.map_reverse, List.reverse_reverse, ← List.map_append, List.take_append_drop]
          rcases hkk with ek | ek
          · obtain ⟨hOk, w1, w2, w3, hnp⟩ := t2 ek
            refine ev_go_on hA0 hd hOk hcf hK h (fun r' v hr' hM H lc locs cells slots hR hl hc1 hc2 => ?_)
            refine va_runS (bytes := Mc.2.1) (maxL := Mc.2.2.1) (ret := Mc.2.2.2.1) (n := n) (As := ((st.take n).reverse).map (ev_uv g)) (rest := (st.drop n).map (ev_uv g)) ⟨hx, hb, hml, hown, hts⟩ hM (va_cwS n hts (ev_gi (fun w hw => ?_)) rfl rfl rfl ⟨hOk.2.2.2.2.2.1, hOk.2.2.2.2.2.2, hnp⟩ ⟨by show d' + 10 + 1 ≤ d + 10; omega, by have := hOk.2.2.1; show 8 + (Mc.2.2.1 + 11) + (100 * d' + 400) ≤ 100 * d + 400; omega⟩) ⟨ev_blind, fun U hU hW => ⟨rfl, by rw [hU]; exact hR, hCx.warm hW⟩⟩ rfl (by rw [List.length_map]; exact hlen) hl.1 hstk (ev_room hf h4') (hsta hv) ⟨hc1, hc2⟩
            unfold va_wsS at hw
            rcases List.mem_append.mp hw with hw | hw
            · simp only [List.mem_cons, List.not_mem_nil, or_false] at hw
              rcases hw with rfl | rfl | rfl
              · exact w1
              · exact w2
              · exact w3
            · exact ev_wsM_in hOk w hw
          · obtain ⟨hOk, ⟨host, w1⟩, w2, w3, hnp⟩ := t4 ek
            refine ev_go_on hA0 hd hOk hcf hK h (fun r' v hr' hM H lc locs cells slots hR hl hc1 hc2 => ?_)
            exact va_runSN (host := host) (bytes := Mc.2.1) (maxL := Mc.2.2.1) (ret := Mc.2.2.2.1) (n := n) (As := ((st.take n).reverse).map (ev_uv g)) (rest := (st.drop n).map (ev_uv g)) ⟨hx, hb, hml, hown, hts⟩ hM ⟨va_cnB n hts (ev_gi (ev_wsM_in hOk)) rfl rfl rfl (hCx.2.2.2.1 _ w1) (hts _ w3) ⟨hOk.2.2.2.2.2.1, hOk.2.2.2.2.2.2, hnp⟩ ⟨by show d' + 10 + 1 ≤ d + 10; omega, by have := hOk.2.2.1; show 8 + (Mc.2.2.1 + 11) + (100 * d' + 400) ≤ 100 * d + 400; omega⟩, hts _ w2, trivial⟩ ⟨ev_blind, fun U hU hW => ⟨rfl, by rw [hU]; exact hR, hCx.warm hW⟩⟩ rfl (by rw [List.length_map]; exact hlen) hl.1 hstk (ev_room hf h4') (hsta hv) ⟨hc1, hc2⟩
end EVCALL
