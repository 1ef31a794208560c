/-! The law's cases that may throw. -/
section LAWY
variable {p : Program} {l : Launch} {e : Env} {R : Room} {s : State} {m : MethodId} {args : Array Value} {below : List Frame} {meth : Method} {c : Code} {g : ev_G} {b L : Nat} {xs : Nat → Int32}
/-- a method of the law that catches: what it calls has returned, or thrown -/
theorem lw_wrap2 (hl0 : l.stackTraces = false) {y : MethodName} {cc : ByteArray} {idx : Nat} {Mc : ev_Me} (hy : y.cls = ev_cn 12) (rows : rwB cc 0 [(.aload_n 2, 1), (.iconst 0, 1), (.aload_n 0, 1), (.iload_n 1, 1), (.invokevirtual idx, 3), (.lastore, 1), (.goto 6, 3), (.astore_n 3, 1), (.iconst 1, 1), (.ireturn, 1), (.iconst 0, 1), (.ireturn, 1)] = true) (hlk : ev_lk (ev_ml 12) idx = some (0, 2, 9, Mc)) {x1 k : Int32} {σ τ : ev_S} {r0 : ev_R} (hN : 174 < σ.1.1) (hN' : 174 < r0.2.1.1) (hcall : ev_call true 100 Mc [.ref 0, .int x1] σ = some r0) (hor : (∃ v, r0.1 = some (some (.long v)) ∧ τ = ev_putL r0.2 174 0 v ∧ k = 0) ∨ (r0.1 = none ∧ τ = r0.2 ∧ k = 1)) : vx_Met l y (wsW y cc 4 [(0, 8, 11, 13)]) (rmW σ τ) (ev_Pc g [.ref 0, .int x1, .ref 174] σ) (ev_Qc g (some (some (.int k)), τ)) (ev_XC g (some (some (.int k)), τ)) (ev_c τ - ev_c σ) (ev_s τ - ev_s σ) (ev_A g) := by
  have r1 := rwB_c rows
  have r2 := rwB_c r1.2
  have r3 := rwB_c r2.2
  have r4 := rwB_c r3.2
  have r5 := rwB_c r4.2
  have r6 := rwB_c r5.2
  have r7 := rwB_c r6.2
  have r8 := rwB_c r7.2
  have r9 := rwB_c r8.2
  have r10 := rwB_c r9.2
  have r11 := rwB_c r10.2
  have r12 := rwB_c r11.2
  obtain ⟨-, -, -, -, t0, -⟩ := ev_T_ok.2.2.2.2.2.2 12 idx 0 2 9 Mc hlk
  obtain ⟨hOk, hcls, w1, w2, w3, w4, hn1, hnp⟩ := t0 rfl
  obtain ⟨hM, hle⟩ := ev_call_ok (l := l) ev_T_ok hl0 (g := g) (sd := true) 100 Mc _ σ _ hcall hOk
  have hTC := ev_T_ok.2.1
  have q1 : ev_c σ ≤ ev_c r0.2 := hle.1
  have q2 : ev_s σ ≤ ev_s r0.2 := hle.2.1
  have z1 : ev_c τ = ev_c r0.2 := by rcases hor with ⟨v, -, hτ, -⟩ | ⟨-, hτ, -⟩ <;> rw [hτ]; rfl
  have z2 : ev_s τ = ev_s r0.2 := by rcases hor with ⟨v, -, hτ, -⟩ | ⟨-, hτ, -⟩ <;> rw [hτ]; rfl
  refine vx_ofWH (cc := cc) (maxL := 4) (ret := some .int) (hh := [(0, 8, 11, 13)]) (by rw [hy]; decide +kernel) rfl ?_
  intro p e s m a below meth c s₁ B hml hPc
  obtain ⟨rfl, hR, hCx⟩ := hPc
  have hts0 := atoms_spec (ws := wsW y cc 4 [(0, 8, 11, 13)]) B.pre
  have hts : ∀ w ∈ ev_gw, w.before _ s = true := fun w hw => hts0 w (List.mem_cons_of_mem _ hw)
  have hx := B.exec
  have hb := B.bytes
  have hr := B.returns
  have hlocks := B.notSynchronized
  have hown : s.vm.findClass (ev_cn 12) = some m.cls := by rw [← hy]; exact findClass_of_methodNamed B.named
  have htab := vx_table (x := y) B (hts0 _ List.mem_cons_self)
  have hold := hR.2.2.1
  have hl := lv_entry ([.ref (ev_ad g 0), .int x1, .ref (ev_ad g 174)]) (n := 4) (Nat.le_of_ble_eq_true rfl)
  show W p l e (rmW σ τ) s m _ below meth c s.heap [] 0 0 _ (entryFrame m ([.ref (ev_ad g 0), .int x1, .ref (ev_ad g 174)] : List Value).toArray 4)
  rw [lg_entry_eq]
  generalize (lg_sl ([.ref (ev_ad g 0), .int x1, .ref (ev_ad g 174)]) ++ List.replicate (4 - (lg_sl ([.ref (ev_ad g 0), .int x1, .ref (ev_ad g 174)])).length) Slot.unset).toArray = ls at hl ⊢
  have hl : lv_has ls 4 [(0, .ref (ev_ad g 0)), (1, .int x1), (2, .ref (ev_ad g 174))] := hl
  have hS : va_S (ev_A g) s.heap s.heap [] := va_S.rf
  refine lv_aload_n hx hb r1.1 rfl (lv_at hl 2 rfl) ?_
  refine lv_iconst (v := 0) hx hb r2.1 (by decide) ?_
  refine lv_aload_n hx hb r3.1 rfl (lv_at hl 0 rfl) ?_
  refine lv_iload_n hx hb r4.1 rfl (lv_at hl 1 rfl) ?_
  refine lw_calledX (r' := r0) (a := (Value.ref (ev_ad g 0) :: [.int x1]).toArray) (mc := ev_c r0.2 - ev_c σ) (ms := ev_s r0.2 - ev_s σ) hold (vx_runV (C := Mc.1.cls) (bytes := Mc.2.1) (maxL := Mc.2.2.1) (ret := Mc.2.2.2.1) (n := 1) (b := ev_ad g 0) (As := [.int x1]) (rest := [.int 0, .ref (ev_ad g 174)]) ⟨hx, hb, hml, hown, hts⟩ hM (cwV 1 hts (ev_gi (fun w hw => ?_)) rfl rfl rfl ⟨rfl, hOk.2.2.2.2.2.1, hOk.2.2.2.2.2.2, hnp⟩ ⟨by show 100 + 10 + 1 ≤ 120; omega, by have := hOk.2.2.1; show 8 + (Mc.2.2.1 + 11) + (100 * 100 + 400) ≤ 11000; omega⟩) ⟨ev_blind, ?_, fun U hU hW => ⟨rfl, by rw [hU]; exact hR, hCx.warm hW⟩⟩ rfl rfl hl.1 rfl (lv_room (by show 1 + (1 + 0) ≤ 8; omega)) r5.1 ⟨?_, ?_⟩) hS (fun v H1 locs1 hv hR1 hS1 => ?_) (fun q ce H1 locs1 hv hR1 hS1 hce hcv hcl => ?_)
  · unfold wsV at hw
    rcases List.mem_append.mp hw with hw | hw
    · simp only [List.mem_cons, List.not_mem_nil, or_false] at hw
      rcases hw with rfl | rfl | rfl | rfl
      · exact w1
      · exact w2
      · exact w3
      · exact w4
    · exact ev_wsM_in hOk w hw
  · obtain ⟨cell, z1, z2, z3, -⟩ := ev_atO hTC (by omega) hR (by omega) lay0
    rw [ev_ad_cell (by omega)]
    refine ⟨cell, z1, by rw [z3]; rfl, ?_⟩
    rcases hcls with ⟨-, hcls⟩ | ⟨hci2, -⟩
    · rw [hcls, z2]
      exact (hCx.1.1 9 _ (hTC 9 (by omega)).1).2.1
    · omega
  · show 0 + (ev_c r0.2 - ev_c σ) ≤ ev_c τ - ev_c σ
    omega
  · show 0 + (ev_s r0.2 - ev_s σ) ≤ ev_s τ - ev_s σ
    omega
  · rcases hor with ⟨v', hv', hτ, hk⟩ | ⟨hn, -, -⟩
    · rw [hv'] at hv
      cases hv
      refine lw_last hx hb hCx hR1 hS1 hN' r6.1 (fun H2 locs2 hR2 hS2 => ?_)
      refine lv_goto (tgt := 14) hx hb r7.1 (by decide) ?_
      refine lv_iconst (v := 0) hx hb r11.1 (by decide) ?_
      refine vx_ret ?_
      rw [Nat.zero_add, Nat.zero_add, ← z1, ← z2]
      exact W.iret hx hb hr (fun t ht hw => ⟨⟨_, rfl, by rw [hk]; rfl⟩, by rw [ht, hτ]; exact hR2⟩) hS2.2.2 r12.1 hlocks
    · rw [hn] at hv; cases hv
  · rcases hor with ⟨v', hv', hτ, hk⟩ | ⟨hn, hτ, hk⟩
    · rw [hv'] at hv; cases hv
    · refine vx_catch (own := ev_cn 12) (name := "java/util/NoSuchElementException") (E := "java/util/NoSuchElementException") hown [] _ [] htab (fun z hz => by cases hz) (by decide) (by decide) (hts _ lw_kl) (va_Nw.use rfl (hCx.2.2.2.1 _ lw_ka)) hce hcv hcl ?_
      refine lv_astore_n (lv' := [(3, .ref q), (0, .ref (ev_ad g 0)), (1, .int x1), (2, .ref (ev_ad g 174))]) hx hb r8.1 rfl hl (by decide) rfl (fun ls hl => ?_)
      refine lv_iconst (v := 1) hx hb r9.1 (by decide) ?_
      refine vx_ret ?_
      rw [Nat.zero_add, Nat.zero_add, ← z1, ← z2]
      exact W.iret hx hb hr (fun t ht hw => ⟨⟨_, rfl, by rw [hk]; rfl⟩, by rw [ht, hτ]; exact hR1⟩) hS1.2.2 r10.1 hlocks
theorem lw_met {y : MethodName} {ws : List Cond} {rm : Room} {Pc : Array Value → State → Prop} {r : ev_R} {v : Option Value} {mc ms : Nat} {free : Addr → Prop} (h : vx_Met l y ws rm Pc (ev_Qc g r) (ev_XC g r) mc ms free) (hr : r.1 = some v) : Met l y ws rm Pc (ev_Qc g r) mc ms free := by
  intro p e ha hc hk s m args below hf happ hP hK
  obtain ⟨n, o, h1, h2, h3, h4⟩ := h p e ha hc hk s m args below hf happ hP hK
  refine ⟨n, o, h1, h2, h3, ?_⟩
  rcases h4 with h4 | ⟨q, -, E, ce, L, hx, -⟩
  · exact h4
  · rw [hx.1] at hr; cases hr
/-- the words of a method that catches -/
def lw_wd (y : MethodName) (cc : ByteArray) (mL : Nat) (hh : List (Nat × Nat × Nat × Nat)) (idx n : Nat) : Prop := y.cls = ev_cn 12 ∧ Cond.methodLink (ev_cn 12) idx y ∈ ev_gw ∧ Cond.static y ∈ ev_gw ∧ Cond.initialized y.cls ∈ ev_gw ∧ Cond.codeWith y cc mL (some .int) hh ∈ ev_gw ∧ (parseMethodDescriptor y.desc).map (fun d => d.parameters.length) = some n ∧ mL ≤ 80
theorem lP.callS {idx n mL pc : Nat} {y : MethodName} {cc : ByteArray} {hh : List (Nat × Nat × Nat × Nat)} {as rest st : List Value} {σ τ : ev_S} {v : Value} {lv : List (Nat × Value)} (C : lC p s m meth c g b L xs) (hw : lw_wd y cc mL hh idx n) (hM : vx_Met l y (wsW y cc mL hh) (rmW σ τ) (ev_Pc g as σ) (ev_Qc g (some (some v), τ)) (ev_XC g (some (some v), τ)) (ev_c τ - ev_c σ) (ev_s τ - ev_s σ) (ev_A g)) (hdg : decode code pc = .ok (.invokestatic idx, 3)) (hn : as.length = n) (k1 : ev_c σ ≤ ev_c τ) (k2 : ev_s σ ≤ ev_s τ) (hrest : (rest.map fun v => v.category).sum ≤ 8) (hc : ev_c τ ≤ 601024) (hs : ev_s τ ≤ 7293034) (hst : st = (as.map (ev_uv g)).reverse ++ rest) (h : lP p l e s m below meth c g b (pc + 3) lv (ev_uv g v :: rest) τ) : lP p l e s m below meth c g b pc lv st σ := by
  obtain ⟨hx, hb, hr, hml, hown, hts, hX, hbl, hlocks, hCx, hg1, hg2⟩ := C
  obtain ⟨w0, w1, w2, w3, w4, hnp, hmL⟩ := hw
  intro H lc locs hR hl hS
  have hts' : ∀ w ∈ ev_gw, w.before #[Value.ref b] s = true := fun w hw => hts w (List.mem_filter.mp hw).1
  refine lw_called (r' := (some (some v), τ)) (v := some v) (a := (as.map (ev_uv g)).toArray) (mc := ev_c τ - ev_c σ) (ms := ev_s τ - ev_s σ) (fun q hq => by rw [hg2]) rfl (vx_runSW (bytes := cc) (maxL := mL) (ret := some .int) (hh := hh) (n := n) (As := as.map (ev_uv g)) (rest := rest) ⟨hx, hb, hml, hown, hts'⟩ (lw_met (v := some v) hM rfl) (vx_cwSW n hts' (ev_gi (fun w hw => ?_)) rfl rfl rfl ⟨by rw [w0]; decide, by rw [w0]; decide, hnp⟩ ⟨by show 120 + 1 ≤ 2048; omega, by show 8 + (mL + 11) + 11000 ≤ 84000; omega⟩) ⟨ev_blind, fun U hU hW => ⟨rfl, by rw [hU]; exact hR, hCx.warm hW⟩⟩ rfl (by rw [List.length_map]; exact hn) hl.1 hst (lv_room hrest) hdg ⟨?_, ?_⟩) hS (fun H1 locs1 hR1 hS1 => ?_)
  · unfold va_wsS at hw
    rcases List.mem_append.mp hw with hw | hw
    · simp only [List.mem_cons, List.not_mem_nil, or_false] at hw
      rcases hw with rfl | rfl | rfl
      · exact w1
      · exact w2
      · exact w3
    · unfold wsW at hw
      rcases List.mem_cons.mp hw with rfl | hw
      · exact w4
      · exact hw
  · show ev_c σ + (ev_c τ - ev_c σ) ≤ 601024
    omega
  · show ev_s σ + (ev_s τ - ev_s σ) ≤ 7293034
    omega
  · rw [show ev_c σ + (ev_c τ - ev_c σ) = ev_c τ by omega, show ev_s σ + (ev_s τ - ev_s σ) = ev_s τ by omega]
    exact h H1 lc locs1 hR1 hl hS1
theorem lg_cmp_self (x : Int64) : lg_cmp x x = 0 := by
  unfold lg_cmp
  simp
def lv5 (g : ev_G) (b i : Nat) (k : Int32) : List (Nat × Value) := (5, .int k) :: lvL g b i
def lv6 (g : ev_G) (b i : Nat) (k : Int32) (v : Value) : List (Nat × Value) := (6, v) :: lv5 g b i k
/-- up to what the catching method answers -/
theorem lX1 (C : lC p s m meth c g b L xs) {n pc i iw mL : Nat} {y : MethodName} {cc : ByteArray} {hh : List (Nat × Nat × Nat × Nat)} {tl : List (Instr × Nat)} {σ τ : ev_S} {k : Int32} (hn : n ≤ 4) (rows : rwB code pc ((.aload_n 1, 1) :: (argsR 1 n ++ (.aload_n 3, 1) :: (.invokestatic iw, 3) :: (.istore 5, 2) :: tl)) = true) (hw : lw_wd y cc mL hh iw (n + 2)) (hM : vx_Met l y (wsW y cc mL hh) (rmW σ τ) (ev_Pc g (.ref 0 :: (vals xs i 1 n ++ [.ref 174])) σ) (ev_Qc g (some (some (.int k)), τ)) (ev_XC g (some (some (.int k)), τ)) (ev_c τ - ev_c σ) (ev_s τ - ev_s σ) (ev_A g)) (k1 : ev_c σ ≤ ev_c τ) (k2 : ev_s σ ≤ ev_s τ) (hi : i + 4 < L) (hL : L ≤ 2560) (hc : ev_c τ ≤ 601024) (hs : ev_s τ ≤ 7293034) (h : rwB code (pc + 1 + 6 * n + 1 + 3 + 2) tl = true → lP p l e s m below meth c g b (pc + 1 + 6 * n + 1 + 3 + 2) (lv5 g b i k) [] τ) : lP p l e s m below meth c g b pc (lvL g b i) [] σ := by
  have r1 := rwB_c rows
  have hb0 : (0, Value.ref b) ∈ lvL g b i := by simp [lvL]
  have hi4 : (4, Value.int (nI i)) ∈ lvL g b i := by simp [lvL]
  refine lP.ld C r1.1 rfl (show (1, Value.ref (ev_ad g 0)) ∈ lvL g b i by simp [lvL]) ?_
  refine lP.arl C hb0 hi4 hi hL n 1 _ _ (by omega) r1.2 (fun r2 => ?_)
  have r3 := rwB_c r2
  have r4 := rwB_c r3.2
  have r5 := rwB_c r4.2
  refine lP.ld C r3.1 rfl (show (3, Value.ref (ev_ad g 174)) ∈ lvL g b i by simp [lvL]) ?_
  refine lP.callS (v := .int k) (as := .ref 0 :: (vals xs i 1 n ++ [.ref 174])) (rest := []) C hw hM r4.1 (by simp [vals_len]) k1 k2 (by simp) hc hs ?_ ?_
  · rw [List.map_cons, List.map_append, vals_uv]
    simp [ev_uv]
  · intro H lc locs hR hl hS
    exact lv_istore (lv' := lv5 g b i k) C.1 C.2.1 r5.1 hl (by decide) rfl (fun lc hl => h r5.2 H lc locs hR hl hS)
/-- and what the reference answers -/
theorem lX2 (C : lC p s m meth c g b L xs) (hl0 : l.stackTraces = false) {n pc i i2 : Nat} {Mm : ev_Me} {tl : List (Instr × Nat)} {τ τ2 : ev_S} {k : Int32} {v : Value} (hn : n ≤ 4) (rows : rwB code pc ((.aload_n 2, 1) :: (argsR 1 n ++ (.invokevirtual i2, 3) :: tl)) = true) (k2 : ev_lk (ev_ml 12) i2 = some (0, n + 1, 10, Mm)) (hN : τ.1.1 = ev_N0) (e2 : ev_call true 100 Mm (.ref 139 :: vals xs i 1 n) τ = some (some (some v), τ2)) (hi : i + 4 < L) (hL : L ≤ 2560) (hc : ev_c τ2 ≤ 601024) (hs : ev_s τ2 ≤ 7293034) (h : rwB code (pc + 1 + 6 * n + 3) tl = true → lP p l e s m below meth c g b (pc + 1 + 6 * n + 3) (lv5 g b i k) [ev_uv g v] τ2) : lP p l e s m below meth c g b pc (lv5 g b i k) [] τ := by
  have r1 := rwB_c rows
  refine lP.ld C r1.1 rfl (show (2, Value.ref (ev_ad g 139)) ∈ lv5 g b i k by simp [lv5, lvL]) ?_
  refine lP.arl C (show (0, Value.ref b) ∈ lv5 g b i k by simp [lv5, lvL]) (show (4, Value.int (nI i)) ∈ lv5 g b i k by simp [lv5, lvL]) hi hL n 1 _ _ (by omega) r1.2 (fun r2 => ?_)
  have r3 := rwB_c r2
  exact lP.call (D := 100) (v := v) (as := vals xs i 1 n) (rest := []) (k := 139) C hl0 k2 (by omega) r3.1 (by rw [vals_len]) (by rw [hN]; decide) lay139 (by omega) e2 (by simp) hc hs (by rw [vals_uv]) (h r3.2)
theorem lk54 : ev_lk (ev_ml 12) 54 = some (0, 1, 10, M_Mo_thrown) := by rfl
theorem lX3i (C : lC p s m meth c g b L xs) (hl0 : l.stackTraces = false) {pc i : Nat} {off : Int} {τ2 : ev_S} {k : Int32} {v : Int32} (rows : rwB code pc [(.istore 6, 2), (.aload_n 2, 1), (.invokevirtual 54, 3), (.iload 5, 2), (.if_icmp .eq 5, 3), (.iconst 0, 1), (.ireturn, 1), (.iload 5, 2), (.ifCond .ne 15, 3), (.aload_n 3, 1), (.iconst 0, 1), (.laload, 1), (.iload 6, 2), (.i2l, 1), (.lcmp, 1), (.ifCond .eq 5, 3), (.iconst 0, 1), (.ireturn, 1), (.goto off, 3)] = true) (ht : ((pc + 2 + 1 + 3 + 2 + 3 + 1 + 1 + 2 + 3 + 1 + 1 + 1 + 2 + 1 + 1 + 3 + 1 + 1 : Nat) : Int) + off = ((1571 : Nat) : Int)) (hN : τ2.1.1 = ev_N0) (e3 : ev_call true 100 M_Mo_thrown [.ref 139] τ2 = some (some (some (.int k)), τ2)) (hk : k = 0 → τ2.2.2.1 174 0 = v.toInt64) (hc : ev_c τ2 ≤ 601024) (hs : ev_s τ2 ≤ 7293034) (h : ∀ ex, lP p l e s m below meth c g b 1571 (ex ++ lvL g b i) [] τ2) : lP p l e s m below meth c g b pc (lv5 g b i k) [.int v] τ2 := by
  have r1 := rwB_c rows
  have r2 := rwB_c r1.2
  have r3 := rwB_c r2.2
  have r4 := rwB_c r3.2
  have r5 := rwB_c r4.2
  have r6 := rwB_c r5.2
  have r7 := rwB_c r6.2
  have r8 := rwB_c r7.2
  have r9 := rwB_c r8.2
  have r10 := rwB_c r9.2
  have r11 := rwB_c r10.2
  have r12 := rwB_c r11.2
  have r13 := rwB_c r12.2
  have r14 := rwB_c r13.2
  have r15 := rwB_c r14.2
  have r16 := rwB_c r15.2
  have r17 := rwB_c r16.2
  have r18 := rwB_c r17.2
  have r19 := rwB_c r18.2
  intro H lc locs hR hl hS
  refine lv_istore (lv' := lv6 g b i k (.int v)) C.1 C.2.1 r1.1 hl (by decide) rfl (fun lc hl => ?_)
  refine lP.ld C r2.1 rfl (show (2, Value.ref (ev_ad g 139)) ∈ lv6 g b i k (.int v) by simp [lv6, lv5, lvL]) ?_ H lc locs hR hl hS
  refine lP.call (D := 100) (v := .int k) (as := []) (rest := []) (k := 139) C hl0 lk54 (by omega) r3.1 rfl (by rw [hN]; decide) lay139 (by omega) e3 (by simp) hc hs rfl ?_
  intro H lc locs hR hl hS
  refine lv_iload C.1 C.2.1 r4.1 (hl.2.2 (5, .int k) (by simp [lv6, lv5])) ?_
  refine lv_icmp_eq (tgt := pc + 2 + 1 + 3 + 2 + 3 + 1 + 1) C.1 C.2.1 r5.1 (by omega) (fun _ => ?_) (fun z => absurd rfl z)
  refine lv_iload C.1 C.2.1 r8.1 (hl.2.2 (5, .int k) (by simp [lv6, lv5])) ?_
  refine lv_if_ne (tgt := pc + 2 + 1 + 3 + 2 + 3 + 1 + 1 + 2 + 3 + 1 + 1 + 1 + 2 + 1 + 1 + 3 + 1 + 1) C.1 C.2.1 r9.1 (by omega) (fun hk1 => ?_) (fun hk0 => ?_)
  · refine lv_goto (tgt := 1571) C.1 C.2.1 r19.1 ht ?_
    exact h [(6, .int v), (5, .int k)] H lc locs hR hl hS
  · refine lv_aload_n C.1 C.2.1 r10.1 rfl (hl.2.2 (3, .ref (ev_ad g 174)) (by simp [lv6, lv5, lvL])) ?_
    refine lv_iconst (v := 0) C.1 C.2.1 r11.1 (by decide) ?_
    refine lw_lald C.1 C.2.1 C.2.2.2.2.2.2.2.2.2.1 hR (by rw [hN]; decide) r12.1 ?_
    rw [hk hk0]
    refine lv_iload C.1 C.2.1 r13.1 (hl.2.2 (6, .int v) (by simp [lv6])) ?_
    refine lv_i2l C.1 C.2.1 r14.1 rfl ?_
    refine W.lcmp C.1 C.2.1 r15.1 ?_
    refine lv_if_eq (tgt := pc + 2 + 1 + 3 + 2 + 3 + 1 + 1 + 2 + 3 + 1 + 1 + 1 + 2 + 1 + 1 + 3 + 1 + 1) C.1 C.2.1 r16.1 (by omega) (fun _ => ?_) (fun z => absurd (lg_cmp_self _) z)
    refine lv_goto (tgt := 1571) C.1 C.2.1 r19.1 ht ?_
    exact h [(6, .int v), (5, .int k)] H lc locs hR hl hS
theorem lX3l (C : lC p s m meth c g b L xs) (hl0 : l.stackTraces = false) {pc i : Nat} {off : Int} {τ2 : ev_S} {k : Int32} {v : Int64} (rows : rwB code pc [(.lstore 6, 2), (.aload_n 2, 1), (.invokevirtual 54, 3), (.iload 5, 2), (.if_icmp .eq 5, 3), (.iconst 0, 1), (.ireturn, 1), (.iload 5, 2), (.ifCond .ne 14, 3), (.aload_n 3, 1), (.iconst 0, 1), (.laload, 1), (.lload 6, 2), (.lcmp, 1), (.ifCond .eq 5, 3), (.iconst 0, 1), (.ireturn, 1), (.goto off, 3)] = true) (ht : ((pc + 2 + 1 + 3 + 2 + 3 + 1 + 1 + 2 + 3 + 1 + 1 + 1 + 2 + 1 + 3 + 1 + 1 : Nat) : Int) + off = ((1571 : Nat) : Int)) (hN : τ2.1.1 = ev_N0) (e3 : ev_call true 100 M_Mo_thrown [.ref 139] τ2 = some (some (some (.int k)), τ2)) (hk : k = 0 → τ2.2.2.1 174 0 = v) (hc : ev_c τ2 ≤ 601024) (hs : ev_s τ2 ≤ 7293034) (h : ∀ ex, lP p l e s m below meth c g b 1571 (ex ++ lvL g b i) [] τ2) : lP p l e s m below meth c g b pc (lv5 g b i k) [.long v] τ2 := by
  have r1 := rwB_c rows
  have r2 := rwB_c r1.2
  have r3 := rwB_c r2.2
  have r4 := rwB_c r3.2
  have r5 := rwB_c r4.2
  have r6 := rwB_c r5.2
  have r7 := rwB_c r6.2
  have r8 := rwB_c r7.2
  have r9 := rwB_c r8.2
  have r10 := rwB_c r9.2
  have r11 := rwB_c r10.2
  have r12 := rwB_c r11.2
  have r13 := rwB_c r12.2
  have r14 := rwB_c r13.2
  have r15 := rwB_c r14.2
  have r16 := rwB_c r15.2
  have r17 := rwB_c r16.2
  have r18 := rwB_c r17.2
  intro H lc locs hR hl hS
  refine lv_lstore (lv' := lv6 g b i k (.long v)) C.1 C.2.1 r1.1 hl (by decide) rfl (fun lc hl => ?_)
  refine lP.ld C r2.1 rfl (show (2, Value.ref (ev_ad g 139)) ∈ lv6 g b i k (.long v) by simp [lv6, lv5, lvL]) ?_ H lc locs hR hl hS
  refine lP.call (D := 100) (v := .int k) (as := []) (rest := []) (k := 139) C hl0 lk54 (by omega) r3.1 rfl (by rw [hN]; decide) lay139 (by omega) e3 (by simp) hc hs rfl ?_
  intro H lc locs hR hl hS
  refine lv_iload C.1 C.2.1 r4.1 (hl.2.2 (5, .int k) (by simp [lv6, lv5])) ?_
  refine lv_icmp_eq (tgt := pc + 2 + 1 + 3 + 2 + 3 + 1 + 1) C.1 C.2.1 r5.1 (by omega) (fun _ => ?_) (fun z => absurd rfl z)
  refine lv_iload C.1 C.2.1 r8.1 (hl.2.2 (5, .int k) (by simp [lv6, lv5])) ?_
  refine lv_if_ne (tgt := pc + 2 + 1 + 3 + 2 + 3 + 1 + 1 + 2 + 3 + 1 + 1 + 1 + 2 + 1 + 3 + 1 + 1) C.1 C.2.1 r9.1 (by omega) (fun hk1 => ?_) (fun hk0 => ?_)
  · refine lv_goto (tgt := 1571) C.1 C.2.1 r18.1 ht ?_
    exact h [(6, .long v), (5, .int k)] H lc locs hR hl hS
  · refine lv_aload_n C.1 C.2.1 r10.1 rfl (hl.2.2 (3, .ref (ev_ad g 174)) (by simp [lv6, lv5, lvL])) ?_
    refine lv_iconst (v := 0) C.1 C.2.1 r11.1 (by decide) ?_
    refine lw_lald C.1 C.2.1 C.2.2.2.2.2.2.2.2.2.1 hR (by rw [hN]; decide) r12.1 ?_
    rw [hk hk0]
    refine lv_lload C.1 C.2.1 r13.1 (hl.2.2 (6, .long v) (by simp [lv6])) ?_
    refine W.lcmp C.1 C.2.1 r14.1 ?_
    refine lv_if_eq (tgt := pc + 2 + 1 + 3 + 2 + 3 + 1 + 1 + 2 + 3 + 1 + 1 + 1 + 2 + 1 + 3 + 1 + 1) C.1 C.2.1 r15.1 (by omega) (fun _ => ?_) (fun z => absurd (lg_cmp_self _) z)
    refine lv_goto (tgt := 1571) C.1 C.2.1 r18.1 ht ?_
    exact h [(6, .long v), (5, .int k)] H lc locs hR hl hS
end LAWY
