/-! The law's own method: what its rows do. -/
section LAWW
variable {p : Program} {l : Launch} {e : Env} {R : Room} {s : State} {m : MethodId} {args : Array Value} {below : List Frame} {meth : Method} {c : Code} {g : ev_G} {b L : Nat} {xs : Nat → Int32}
/-- behind a call that returned -/
theorem lw_called (hold : ∀ q : Nat, q < g.2.1 → s.heap[q]? = g.2.2.1[q]?) {H : Heap} {lc : Array Slot} {locs : List Loc} {cells slots mc ms pc : Nat} {st0 rest : List Value} {r' : ev_R} {v : Option Value} {a : Array Value} {Q : State → Prop} (hr' : r'.1 = some v)
    (hrun : va_Run p l e R s m args below meth c H locs cells slots mc ms (F0 m pc lc st0) rest (ev_Qc g r' a) (ev_A g)) (hS : va_S (ev_A g) s.heap H locs)
    (kk : ∀ (H1 : Heap) (locs1 : List Loc), ev_Rep g r'.2 H1 → va_S (ev_A g) s.heap H1 locs1 → W p l e R s m args below meth c H1 locs1 (cells + mc) (slots + ms) Q (F0 m (pc + 3) lc ((v.map (ev_uv g)).toList ++ rest))) : W p l e R s m args below meth c H locs cells slots Q (F0 m pc lc st0) := by
  intro T hT X
  obtain ⟨v2, st₀, t, T', L, h0, X', hL, e1, e2, ⟨⟨v3, hv3, hv4⟩, hR1⟩, st⟩ := hrun T hT X
  have ev : v3 = v := Option.some.inj (hv3.symm.trans hr')
  subst ev
  have ev2 : v2 = v3.map (ev_uv g) := Outcome.returned.inj hv4
  subst ev2
  rw [← e1] at hR1
  have hsz : s.heap.size ≤ T'.heap.size := X'.same.2.1
  obtain ⟨t2, a1, b1⟩ := kk T'.heap (locs ++ L) hR1 ⟨hsz, fun q _ h2 => (hR1.2.2.1 q (Nat.lt_of_not_le h2)).trans (hold q (Nat.lt_of_not_le h2)).symm, fun q hq => by
    rcases List.mem_append.mp hq with h | h
    · exact hS.2.2 q h
    · exact hL q h⟩ T' rfl X'
  exact ⟨t2, st t2 a1, b1⟩
/-- what holds in the law -/
def lC (p : Program) (s : State) (m : MethodId) (meth : Method) (c : Code) (g : ev_G) (b L : Nat) (xs : Nat → Int32) : Prop := p.tables.exec = Jvm.exec ∧ c.code = code ∧ meth.sig.returnType = ret ∧ c.maxLocals = 8 ∧ s.vm.findClass (ev_cn 12) = some m.cls ∧ (∀ w ∈ lw_tbl, w.before #[Value.ref b] s = true) ∧ va_X b L xs s s.heap ∧ b < s.heap.size ∧ meth.locks = false ∧ ev_Cx g s ∧ g.2.1 = s.heap.size ∧ g.2.2.1 = s.heap
/-- from here the law comes to its end with true -/
def lP (p : Program) (l : Launch) (e : Env) (s : State) (m : MethodId) (below : List Frame) (meth : Method) (c : Code) (g : ev_G) (b : Nat) (pc : Nat) (lv : List (Nat × Value)) (st : List Value) (σ : ev_S) : Prop :=
  ∀ (H : Heap) (lc : Array Slot) (locs : List Loc), ev_Rep g σ H → lv_has lc 8 lv → va_S (ev_A g) s.heap H locs → W p l e room_1 s m #[Value.ref b] below meth c H locs (ev_c σ) (ev_s σ) (lw_Z below #[Value.ref b] s) (F0 m pc lc st)
def lvL (g : ev_G) (b i : Nat) : List (Nat × Value) := [(4, .int (nI i)), (0, .ref b), (1, .ref (ev_ad g 0)), (2, .ref (ev_ad g 139)), (3, .ref (ev_ad g 174))]
def rwB (cc : ByteArray) : Nat → List (Instr × Nat) → Bool
  | _, [] => true
  | pc, q :: t => decide (decode cc pc = .ok (q.1, q.2)) && rwB cc (pc + q.2) t
theorem rwB_c {cc : ByteArray} {pc n : Nat} {i : Instr} {t : List (Instr × Nat)} (h : rwB cc pc ((i, n) :: t) = true) : decode cc pc = .ok (i, n) ∧ rwB cc (pc + n) t = true := by
  rw [rwB, Bool.and_eq_true, decide_eq_true_iff] at h
  exact h
theorem lP.ld {pc i a : Nat} {k : Fin 4} {lv : List (Nat × Value)} {st : List Value} {σ : ev_S} (C : lC p s m meth c g b L xs) (hdg : decode code pc = .ok (.aload_n k, 1)) (hk : (k : Nat) = i) (hlv : (i, .ref a) ∈ lv) (h : lP p l e s m below meth c g b (pc + 1) lv (.ref a :: st) σ) : lP p l e s m below meth c g b pc lv st σ := fun H lc locs hR hl hS => lv_aload_n C.1 C.2.1 hdg hk (hl.2.2 _ hlv) (h H lc locs hR hl hS)
theorem ofI_nI : ∀ k : Nat, k < 5 → Int32.ofInt (k : Int) = nI k := by decide
theorem lP.ar1 {pc i k : Nat} {lv : List (Nat × Value)} {st : List Value} {σ : ev_S} (C : lC p s m meth c g b L xs) (hk : k < 5) (h0 : decode code pc = .ok (.aload_n 0, 1)) (h1 : decode code (pc + 1) = .ok (.iload 4, 2)) (h2 : decode code (pc + 1 + 2) = .ok (.iconst (k : Int), 1)) (h3 : decode code (pc + 1 + 2 + 1) = .ok (.iadd, 1)) (h4 : decode code (pc + 1 + 2 + 1 + 1) = .ok (.iaload, 1)) (hb0 : (0, .ref b) ∈ lv) (hi4 : (4, .int (nI i)) ∈ lv) (hik : i + k < L) (hL : L ≤ 2560) (h : lP p l e s m below meth c g b (pc + 1 + 2 + 1 + 1 + 1) lv (.int (xs (i + k)) :: st) σ) : lP p l e s m below meth c g b pc lv st σ := by
  obtain ⟨hx, hb, hr, hml, hown, hts, hX, hbl, hlocks, hCx, hg1, hg2⟩ := C
  intro H lc locs hR hl hS
  refine lv_aload_n hx hb h0 rfl (hl.2.2 _ hb0) ?_
  refine lv_iload hx hb h1 (hl.2.2 _ hi4) ?_
  refine lv_iconst hx hb h2 (ofI_nI k hk) ?_
  refine lv_iadd hx hb h3 ?_
  rw [q_add]
  refine va_sld hx hb hX hbl (show ¬ g.2.1 ≤ b by omega) hS (ev_in_vp (by rw [q_in (by omega)]; exact decide_eq_true hik)) h4 ?_
  rw [q_cl (by omega)]
  exact h H lc locs hR hl hS
def argsR : Nat → Nat → List (Instr × Nat)
  | _, 0 => []
  | k, n + 1 => (.aload_n 0, 1) :: (.iload 4, 2) :: (.iconst (k : Int), 1) :: (.iadd, 1) :: (.iaload, 1) :: argsR (k + 1) n
def vals (xs : Nat → Int32) (i : Nat) : Nat → Nat → List Value
  | _, 0 => []
  | k, n + 1 => .int (xs (i + k)) :: vals xs i (k + 1) n
theorem vals_len (xs : Nat → Int32) (i : Nat) : ∀ n k, (vals xs i k n).length = n
  | 0, _ => rfl
  | n + 1, k => by show (vals xs i (k + 1) n).length + 1 = _; rw [vals_len xs i n]
theorem vals_uv (g : ev_G) (xs : Nat → Int32) (i : Nat) : ∀ n k, (vals xs i k n).map (ev_uv g) = vals xs i k n
  | 0, _ => rfl
  | n + 1, k => by show ev_uv g (.int (xs (i + k))) :: (vals xs i (k + 1) n).map (ev_uv g) = _; rw [vals_uv g xs i n]; rfl
theorem lP.arl {i : Nat} {lv : List (Nat × Value)} {σ : ev_S} (C : lC p s m meth c g b L xs) (hb0 : (0, .ref b) ∈ lv) (hi4 : (4, .int (nI i)) ∈ lv) (hi : i + 4 < L) (hL : L ≤ 2560) {tl : List (Instr × Nat)} : ∀ n k pc st, k + n ≤ 5 → rwB code pc (argsR k n ++ tl) = true → (rwB code (pc + 6 * n) tl = true → lP p l e s m below meth c g b (pc + 6 * n) lv ((vals xs i k n).reverse ++ st) σ) → lP p l e s m below meth c g b pc lv st σ := by
  intro n
  induction n with
  | zero =>
    intro k pc st _ hr h
    rw [argsR, List.nil_append] at hr
    rw [Nat.mul_zero, Nat.add_zero, vals, List.reverse_nil, List.nil_append] at h
    exact h hr
  | succ n ih =>
    intro k pc st hk hr h
    have r1 := rwB_c hr
    have r2 := rwB_c r1.2
    have r3 := rwB_c r2.2
    have r4 := rwB_c r3.2
    have r5 := rwB_c r4.2
    refine lP.ar1 C (by omega) r1.1 r2.1 r3.1 r4.1 r5.1 hb0 hi4 (by omega) hL ?_
    refine ih (k + 1) _ _ (by omega) r5.2 (fun hr' => ?_)
    rw [show pc + 1 + 2 + 1 + 1 + 1 + 6 * n = pc + 6 * (n + 1) by omega] at hr' ⊢
    have := h hr'
    rw [vals, List.reverse_cons, List.append_assoc] at this
    exact this
theorem lP.call {D idx n ci k pc : Nat} {Mc : ev_Me} {as rest st : List Value} {σ τ : ev_S} {v : Value} {lv : List (Nat × Value)} (C : lC p s m meth c g b L xs) (hl0 : l.stackTraces = false) (hlk : ev_lk (ev_ml 12) idx = some (0, n, ci, Mc)) (hci : ci < 11) (hdg : decode code pc = .ok (.invokevirtual idx, 3)) (hn : as.length + 1 = n) (hk : k < σ.1.1) (hlay : ev_lay k = (0, ci)) (hD : D ≤ 300) (hcall : ev_call true D Mc (.ref k :: as) σ = some (some (some v), τ)) (hrest : (rest.map fun v => v.category).sum ≤ 8) (hc : ev_c τ ≤ 601024) (hs : ev_s τ ≤ 7293034) (hst : st = (as.map (ev_uv g)).reverse ++ .ref (ev_ad g k) :: rest) (h : lP p l e s m below meth c g b (pc + 3) lv (ev_uv g v :: rest) τ) : lP p l e s m below meth c g b pc lv st σ := by
  obtain ⟨hx, hb, hr, hml, hown, hts, hX, hbl, hlocks, hCx, hg1, hg2⟩ := C
  obtain ⟨-, -, -, -, t0, -⟩ := ev_T_ok.2.2.2.2.2.2 12 idx 0 n ci Mc hlk
  obtain ⟨hOk, hcls, w1, w2, w3, w4, hn1, hnp⟩ := t0 rfl
  obtain ⟨hM, hle⟩ := ev_call_ok (l := l) ev_T_ok hl0 (g := g) (sd := true) D Mc _ σ _ hcall hOk
  have hTC := ev_T_ok.2.1
  intro H lc locs hR hl hS
  have hts' : ∀ w ∈ ev_gw, w.before #[Value.ref b] s = true := fun w hw => hts w (List.mem_filter.mp hw).1
  have k1 : ev_c σ ≤ ev_c τ := hle.1
  have k2 : ev_s σ ≤ ev_s τ := hle.2.1
  have hMt := hM.met (v := some v) rfl
  refine lw_called (r' := (some (some v), τ)) (v := some v) (a := (Value.ref (ev_ad g k) :: as.map (ev_uv g)).toArray) (mc := ev_c τ - ev_c σ) (ms := ev_s τ - ev_s σ) (fun q hq => by rw [hg2]) rfl (va_runV (C := Mc.1.cls) (bytes := Mc.2.1) (maxL := Mc.2.2.1) (ret := Mc.2.2.2.1) (n := n - 1) (b := ev_ad g k) (As := as.map (ev_uv g)) (rest := rest) ⟨hx, hb, hml, hown, hts'⟩ hMt (cwV (n - 1) hts' (ev_gi (fun w hw => ?_)) rfl rfl rfl ⟨rfl, hOk.2.2.2.2.2.1, hOk.2.2.2.2.2.2, hnp⟩ ⟨by show D + 10 + 1 ≤ 2048; omega, by have := hOk.2.2.1; show 8 + (Mc.2.2.1 + 11) + (100 * D + 400) ≤ 84000; omega⟩) ⟨ev_blind, ?_, fun U hU hW => ⟨rfl, by rw [hU]; exact hR, hCx.warm hW⟩⟩ rfl (by rw [List.length_map]; omega) hl.1 hst (lv_room hrest) hdg ⟨?_, ?_⟩) hS (fun H1 locs1 hR1 hS1 => ?_)
  · unfold wsV at hw
    rcases List.mem_append.mp hw with hw | hw
    · simp only [List.mem_cons, List.not_mem_nil, or_false] at hw
      rcases hw with rfl | rfl | rfl | rfl
      · exact w1
      · exact w2
      · exact w3
      · exact w4
    · exact ev_wsM_in hOk w hw
  · obtain ⟨cell, z1, z2, z3, -⟩ := ev_atO hTC hci hR hk hlay
    rw [ev_ad_cell (Nat.lt_of_lt_of_le hk hR.2.2.2.1)]
    refine ⟨cell, z1, by rw [z3]; rfl, ?_⟩
    rcases hcls with ⟨-, hcls⟩ | ⟨hci2, -⟩
    · rw [hcls, z2]
      exact (hCx.1.1 ci _ (hTC ci hci).1).2.1
    · omega
  · show ev_c σ + (ev_c τ - ev_c σ) ≤ 601024
    omega
  · show ev_s σ + (ev_s τ - ev_s σ) ≤ 7293034
    omega
  · rw [show ev_c σ + (ev_c τ - ev_c σ) = ev_c τ by omega, show ev_s σ + (ev_s τ - ev_s σ) = ev_s τ by omega]
    exact h H1 lc locs1 hR1 hl hS1
theorem lay0 : ev_lay 0 = (0, 9) := by decide
theorem lay139 : ev_lay 139 = (0, 10) := by decide +kernel
/-- a call that doesn't throw -/
theorem lCase (C : lC p s m meth c g b L xs) (hl0 : l.stackTraces = false) {n pc i i1 i2 : Nat} {off : Int} {Mc Mm : ev_Me} (hn : n ≤ 4) (rows : rwB code pc ((.aload_n 1, 1) :: (argsR 1 n ++ (.invokevirtual i1, 3) :: (.aload_n 2, 1) :: (argsR 1 n ++ [(.invokevirtual i2, 3), (.if_icmp .eq off, 3)]))) = true) (ht : ((pc + 1 + 6 * n + 3 + 1 + 6 * n + 3 : Nat) : Int) + off = ((1571 : Nat) : Int)) (k1 : ev_lk (ev_ml 12) i1 = some (0, n + 1, 9, Mc)) (k2 : ev_lk (ev_ml 12) i2 = some (0, n + 1, 10, Mm)) {h : Bool × Nat × Nat} {I : Nat → Nat → Int32} {L' : Nat → Nat → Int64} (hok : okI h 0 Mc Mm (vals xs i 1 n) I L') (hi : i + 4 < L) (hL : L ≤ 2560) (hc : h.2.1 ≤ 600000) (hs : h.2.2 ≤ 7000000) (nx : ∀ I2 L2, inv I2 L2 → lP p l e s m below meth c g b 1571 (lvL g b i) [] (ev_mk h I2 L2)) : lP p l e s m below meth c g b pc (lvL g b i) [] (ev_mk h I L') := by
  obtain ⟨v, I1, L1, I2, L2, e1, e2, hv⟩ := hok
  have r1 := rwB_c rows
  have hb0 : (0, Value.ref b) ∈ lvL g b i := by simp [lvL]
  have hi4 : (4, Value.int (nI i)) ∈ lvL g b i := by simp [lvL]
  refine lP.ld C r1.1 rfl (show (1, Value.ref (ev_ad g 0)) ∈ lvL g b i by simp [lvL]) ?_
  refine lP.arl C hb0 hi4 hi hL n 1 _ _ (by omega) r1.2 (fun r2 => ?_)
  have r3 := rwB_c r2
  refine lP.call (D := 100) (σ := ev_mk h I L') (τ := ev_mk h I1 L1) (v := .int v) (as := vals xs i 1 n) (rest := []) (k := 0) C hl0 k1 (by omega) r3.1 (by rw [vals_len]) (by show 0 < ev_N0; decide) lay0 (by omega) e1 (by simp) (by show h.2.1 ≤ 601024; omega) (by show h.2.2 ≤ 7293034; omega) (by rw [vals_uv]) ?_
  have r4 := rwB_c r3.2
  refine lP.ld C r4.1 rfl (show (2, Value.ref (ev_ad g 139)) ∈ lvL g b i by simp [lvL]) ?_
  refine lP.arl C hb0 hi4 hi hL n 1 _ _ (by omega) r4.2 (fun r5 => ?_)
  have r6 := rwB_c r5
  refine lP.call (D := 100) (σ := ev_mk h I1 L1) (τ := ev_mk h I2 L2) (v := .int v) (as := vals xs i 1 n) (rest := [.int v]) (k := 139) C hl0 k2 (by omega) r6.1 (by rw [vals_len]) (by show 139 < ev_N0; decide) lay139 (by omega) e2 (by show 1 + 0 ≤ 8; omega) (by show h.2.1 ≤ 601024; omega) (by show h.2.2 ≤ 7293034; omega) (by rw [vals_uv]; rfl) ?_
  have r7 := rwB_c r6.2
  intro H lc locs hR hl hS
  exact lv_icmp_eq (tgt := 1571) C.1 C.2.1 r7.1 ht (fun _ => nx I2 L2 hv H lc locs hR hl hS) (fun z => absurd rfl z)
end LAWW
