/-! The law's four methods that catch. -/
section LAWX
variable {p : Program} {l : Launch} {e : Env} {R : Room} {s : State} {m : MethodId} {args : Array Value} {below : List Frame} {meth : Method} {c : Code} {g : ev_G} {b L : Nat} {xs : Nat → Int32}
theorem lw_calledX (hold : ∀ q : Nat, q < g.2.1 → s.heap[q]? = g.2.2.1[q]?) {H : Heap} {lc : Array Slot} {locs : List Loc} {cells slots mc ms pc : Nat} {st0 rest : List Value} {r' : ev_R} {a : Array Value} {Q : State → Prop}
    (hrun : vx_Run p l e R s m args below meth c H locs cells slots mc ms (F0 m pc lc st0) rest (ev_Qc g r' a) (ev_XC g r') (ev_A g)) (hS : va_S (ev_A g) s.heap H locs)
    (kk : ∀ (v : Option Value) (H1 : Heap) (locs1 : List Loc), r'.1 = some v → ev_Rep g r'.2 H1 → va_S (ev_A g) s.heap H1 locs1 → W p l e R s m args below meth c H1 locs1 (cells + mc) (slots + ms) Q (F0 m (pc + 3) lc ((v.map (ev_uv g)).toList ++ rest)))
    (kx : ∀ (q : Addr) (ce : Cell) (H1 : Heap) (locs1 : List Loc), r'.1 = none → ev_Rep g r'.2 H1 → va_S (ev_A g) s.heap H1 locs1 → H1[q]? = some ce → ce.vm = .none → s.vm.findClass "java/util/NoSuchElementException" = some ce.cls → vx_W p l e R s m args below meth c H1 locs1 (cells + mc) (slots + ms) Q (F0 m pc lc rest) q) : W p l e R s m args below meth c H locs cells slots Q (F0 m pc lc st0) := by
  intro T hT X
  have hS1 : ∀ (T' : State) (L : List Loc), ev_Rep g r'.2 T'.heap → s.heap.size ≤ T'.heap.size → (∀ z ∈ L, ev_A g z.base) → va_S (ev_A g) s.heap T'.heap (locs ++ L) := fun T' L hR1 hsz hL => ⟨hsz, fun q _ h2 => (hR1.2.2.1 q (Nat.lt_of_not_le h2)).trans (hold q (Nat.lt_of_not_le h2)).symm, fun q hq => by
    rcases List.mem_append.mp hq with h | h
    · exact hS.2.2 q h
    · exact hL q h⟩
  rcases hrun T hT X with ⟨v2, st₀, t, T', L, h0, X', hL, e1, e2, ⟨⟨v3, hv3, hv4⟩, hR1⟩, st⟩ | ⟨q, st₀, t, T', L, E, ce, h0, X', hL, e1, e2, ⟨hn, hE, hR1⟩, hce, hcv, hcl, st⟩
  · have ev2 : v2 = v3.map (ev_uv g) := Outcome.returned.inj hv4
    subst ev2
    rw [← e1] at hR1
    obtain ⟨t2, a1, b1⟩ := kk v3 T'.heap (locs ++ L) hv3 hR1 (hS1 T' L hR1 X'.same.2.1 hL) T' rfl X'
    exact ⟨t2, st t2 a1, b1⟩
  · subst hE
    rw [← e1] at hR1 hce
    obtain ⟨t2, a1, b1⟩ := kx q ce T'.heap (locs ++ L) hn hR1 (hS1 T' L hR1 X'.same.2.1 hL) hce hcv hcl T' rfl X'
    exact ⟨t2, st.trans a1, b1⟩
theorem lay174 : ev_lay 174 = (2, 1) := by decide +kernel
theorem lw_last {cc : ByteArray} (hx : p.tables.exec = Jvm.exec) (hb : c.code = cc) (hCx : ev_Cx g s) {σ : ev_S} {H : Heap} {locs : List Loc} {lc : Array Slot} {cells slots pc : Nat} {Q : State → Prop} {rest : List Value} {y : Int64} (hR : ev_Rep g σ H) (hS : va_S (ev_A g) s.heap H locs) (hk : 174 < σ.1.1) (hdg : decode cc pc = .ok (.lastore, 1)) (kk : ∀ (H1 : Heap) (locs1 : List Loc), ev_Rep g (ev_putL σ 174 0 y) H1 → va_S (ev_A g) s.heap H1 locs1 → W p l e R s m args below meth c H1 locs1 cells slots Q (F0 m (pc + 1) lc rest)) : W p l e R s m args below meth c H locs cells slots Q (F0 m pc lc (.long y :: .int 0 :: .ref (ev_ad g 174) :: rest)) := by
  have q1 := ev_atA (t := 2) (n := 1) (x := (1, .inr (.inl (σ.2.2.1 174)))) hR hk (by unfold ev_E; rw [lay174]; rfl)
  have q2 := (hCx.1.2 1 _ rfl).1
  rw [ev_ad_cell (Nat.lt_of_lt_of_le hk hR.2.2.2.1)]
  refine W.last hx hb q1 (q2 1 (fun j => .long (σ.2.2.1 174 j))) (fun q => by cases q) (by rw [vp_cell_l, arrV_size]; exact ev_in_vp (by decide)) rfl rfl hdg fun H1 e1 e2 e3 => ?_
  refine kk H1 _ (ev_Rep_upd (σ := σ) hR rfl e2 e3 ?_ (fun a ha => ev_E_congr rfl (ev_up_ne ha) rfl)) (hS.put e2 e3 (show g.2.1 ≤ g.2.1 + 174 by omega))
  have hE : ev_E g (ev_putL σ 174 0 y) 174 = .inl (g.2.2.2.2.2.2 2, 1, .inr (.inl (ev_up σ.2.2.1 174 0 y 174))) := by
    unfold ev_E
    rw [lay174]; rfl
  rw [hE]
  show H1[g.2.1 + 174]? = some (vp_cell _ _)
  rw [e1, vp_cell_l, vp_cell_l, arrV_store]
  congr 2
  funext q
  by_cases hq : q = 0
  · subst hq; simp [updV, ev_up]
  · simp [updV, ev_up, hq]
theorem lw_lald {cc : ByteArray} (hx : p.tables.exec = Jvm.exec) (hb : c.code = cc) (hCx : ev_Cx g s) {σ : ev_S} {H : Heap} {locs : List Loc} {lc : Array Slot} {cells slots pc : Nat} {Q : State → Prop} {rest : List Value} (hR : ev_Rep g σ H) (hk : 174 < σ.1.1) (hdg : decode cc pc = .ok (.laload, 1)) (kk : W p l e R s m args below meth c H locs cells slots Q (F0 m (pc + 1) lc (.long (σ.2.2.1 174 0) :: rest))) : W p l e R s m args below meth c H locs cells slots Q (F0 m pc lc (.int 0 :: .ref (ev_ad g 174) :: rest)) := by
  have q1 := ev_atA (t := 2) (n := 1) (x := (1, .inr (.inl (σ.2.2.1 174)))) hR hk (by unfold ev_E; rw [lay174]; rfl)
  have q2 := (hCx.1.2 1 _ rfl).1
  rw [ev_ad_cell (Nat.lt_of_lt_of_le hk hR.2.2.2.1)]
  exact W.lald (v := .long (σ.2.2.1 174 0)) hx hb q1 (q2 1 (fun j => .long (σ.2.2.1 174 j))) (fun q => by cases q) (by rw [vp_cell_l, arrV_size]; exact ev_in_vp (by decide)) (by rw [vp_cell_l, arrV_read _ _ (show (0 : Int32).toNatClampNeg < 1 by decide)]; rfl) rfl rfl hdg kk
def rmW (σ τ : ev_S) : Room := { frames := 120, cells := ev_c τ - ev_c σ, slots := ev_s τ - ev_s σ, locals := 11000 }
def wsW (y : MethodName) (cc : ByteArray) (mL : Nat) (hh : List (Nat × Nat × Nat × Nat)) : List Cond := Cond.codeWith y cc mL (some .int) hh :: ev_gw
theorem lw_kl : Cond.classLink (ev_cn 12) 13 "java/util/NoSuchElementException" ∈ ev_gw := ev_hw_ok (h := 5065) (by decide +kernel)
theorem lw_ka : Cond.castable "java/util/NoSuchElementException" "java/util/NoSuchElementException" ∈ ev_nest := List.mem_filter.mpr ⟨ev_hn_ok (h := 5072) (by decide +kernel), rfl⟩
/-- a method of the law that catches: what it calls has returned, or thrown -/
theorem lw_wrap3 (hl0 : l.stackTraces = false) {y : MethodName} {cc : ByteArray} {idx : Nat} {Mc : ev_Me} (hy : y.cls = ev_cn 12) (rows : rwB cc 0 [(.aload_n 3, 1), (.iconst 0, 1), (.aload_n 0, 1), (.iload_n 1, 1), (.iload_n 2, 1), (.invokevirtual idx, 3), (.i2l, 1), (.lastore, 1), (.goto 7, 3), (.astore 4, 2), (.iconst 1, 1), (.ireturn, 1), (.iconst 0, 1), (.ireturn, 1)] = true) (hlk : ev_lk (ev_ml 12) idx = some (0, 3, 9, Mc)) {x1 x2 k : Int32} {σ τ : ev_S} {r0 : ev_R} (hN : 174 < σ.1.1) (hN' : 174 < r0.2.1.1) (hcall : ev_call true 100 Mc [.ref 0, .int x1, .int x2] σ = some r0) (hor : (∃ v, r0.1 = some (some (.int v)) ∧ τ = ev_putL r0.2 174 0 v.toInt64 ∧ k = 0) ∨ (r0.1 = none ∧ τ = r0.2 ∧ k = 1)) : vx_Met l y (wsW y cc 5 [(0, 10, 13, 13)]) (rmW σ τ) (ev_Pc g [.ref 0, .int x1, .int x2, .ref 174] σ) (ev_Qc g (some (some (.int k)), τ)) (ev_XC g (some (some (.int k)), τ)) (ev_c τ - ev_c σ) (ev_s τ - ev_s σ) (ev_A g) := by
  have r1 := rwB_c rows
  have r2 := rwB_c r1.2
  have r3 := rwB_c r2.2
  have r4 := rwB_c r3.2
  have r5 := rwB_c r4.2
  have r6 := rwB_c r5.2
  have r7 := rwB_c r6.2
  have r8 := rwB_c r7.2
  have r9 := rwB_c r8.2
  have r10 := rwB_c r9.2
  have r11 := rwB_c r10.2
  have r12 := rwB_c r11.2
  have r13 := rwB_c r12.2
  have r14 := rwB_c r13.2
  obtain ⟨-, -, -, -, t0, -⟩ := ev_T_ok.2.2.2.2.2.2 12 idx 0 3 9 Mc hlk
  obtain ⟨hOk, hcls, w1, w2, w3, w4, hn1, hnp⟩ := t0 rfl
  obtain ⟨hM, hle⟩ := ev_call_ok (l := l) ev_T_ok hl0 (g := g) (sd := true) 100 Mc _ σ _ hcall hOk
  have hTC := ev_T_ok.2.1
  have q1 : ev_c σ ≤ ev_c r0.2 := hle.1
  have q2 : ev_s σ ≤ ev_s r0.2 := hle.2.1
  have z1 : ev_c τ = ev_c r0.2 := by rcases hor with ⟨v, -, hτ, -⟩ | ⟨-, hτ, -⟩ <;> rw [hτ]; rfl
  have z2 : ev_s τ = ev_s r0.2 := by rcases hor with ⟨v, -, hτ, -⟩ | ⟨-, hτ, -⟩ <;> rw [hτ]; rfl
  refine vx_ofWH (cc := cc) (maxL := 5) (ret := some .int) (hh := [(0, 10, 13, 13)]) (by rw [hy]; decide +kernel) rfl ?_
  intro p e s m a below meth c s₁ B hml hPc
  obtain ⟨rfl, hR, hCx⟩ := hPc
  have hts0 := atoms_spec (ws := wsW y cc 5 [(0, 10, 13, 13)]) B.pre
  have hts : ∀ w ∈ ev_gw, w.before _ s = true := fun w hw => hts0 w (List.mem_cons_of_mem _ hw)
  have hx := B.exec
  have hb := B.bytes
  have hr := B.returns
  have hlocks := B.notSynchronized
  have hown : s.vm.findClass (ev_cn 12) = some m.cls := by rw [← hy]; exact findClass_of_methodNamed B.named
  have htab := vx_table (x := y) B (hts0 _ List.mem_cons_self)
  have hold := hR.2.2.1
  have hl := lv_entry ([.ref (ev_ad g 0), .int x1, .int x2, .ref (ev_ad g 174)]) (n := 5) (Nat.le_of_ble_eq_true rfl)
  show W p l e (rmW σ τ) s m _ below meth c s.heap [] 0 0 _ (entryFrame m ([.ref (ev_ad g 0), .int x1, .int x2, .ref (ev_ad g 174)] : List Value).toArray 5)
  rw [lg_entry_eq]
  generalize (lg_sl ([.ref (ev_ad g 0), .int x1, .int x2, .ref (ev_ad g 174)]) ++ List.replicate (5 - (lg_sl ([.ref (ev_ad g 0), .int x1, .int x2, .ref (ev_ad g 174)])).length) Slot.unset).toArray = ls at hl ⊢
  have hl : lv_has ls 5 [(0, .ref (ev_ad g 0)), (1, .int x1), (2, .int x2), (3, .ref (ev_ad g 174))] := hl
  have hS : va_S (ev_A g) s.heap s.heap [] := va_S.rf
  refine lv_aload_n hx hb r1.1 rfl (lv_at hl 3 rfl) ?_
  refine lv_iconst (v := 0) hx hb r2.1 (by decide) ?_
  refine lv_aload_n hx hb r3.1 rfl (lv_at hl 0 rfl) ?_
  refine lv_iload_n hx hb r4.1 rfl (lv_at hl 1 rfl) ?_
  refine lv_iload_n hx hb r5.1 rfl (lv_at hl 2 rfl) ?_
  refine lw_calledX (r' := r0) (a := (Value.ref (ev_ad g 0) :: [.int x1, .int x2]).toArray) (mc := ev_c r0.2 - ev_c σ) (ms := ev_s r0.2 - ev_s σ) hold (vx_runV (C := Mc.1.cls) (bytes := Mc.2.1) (maxL := Mc.2.2.1) (ret := Mc.2.2.2.1) (n := 2) (b := ev_ad g 0) (As := [.int x1, .int x2]) (rest := [.int 0, .ref (ev_ad g 174)]) ⟨hx, hb, hml, hown, hts⟩ hM (cwV 2 hts (ev_gi (fun w hw => ?_)) rfl rfl rfl ⟨rfl, hOk.2.2.2.2.2.1, hOk.2.2.2.2.2.2, hnp⟩ ⟨by show 100 + 10 + 1 ≤ 120; omega, by have := hOk.2.2.1; show 8 + (Mc.2.2.1 + 11) + (100 * 100 + 400) ≤ 11000; omega⟩) ⟨ev_blind, ?_, fun U hU hW => ⟨rfl, by rw [hU]; exact hR, hCx.warm hW⟩⟩ rfl rfl hl.1 rfl (lv_room (by show 1 + (1 + 0) ≤ 8; omega)) r6.1 ⟨?_, ?_⟩) hS (fun v H1 locs1 hv hR1 hS1 => ?_) (fun q ce H1 locs1 hv hR1 hS1 hce hcv hcl => ?_)
  · unfold wsV at hw
    rcases List.mem_append.mp hw with hw | hw
    · simp only [List.mem_cons, List.not_mem_nil, or_false] at hw
      rcases hw with rfl | rfl | rfl | rfl
      · exact w1
      · exact w2
      · exact w3
      · exact w4
    · exact ev_wsM_in hOk w hw
  · obtain ⟨cell, z1, z2, z3, -⟩ := ev_atO hTC (by omega) hR (by omega) lay0
    rw [ev_ad_cell (by omega)]
    refine ⟨cell, z1, by rw [z3]; rfl, ?_⟩
    rcases hcls with ⟨-, hcls⟩ | ⟨hci2, -⟩
    · rw [hcls, z2]
      exact (hCx.1.1 9 _ (hTC 9 (by omega)).1).2.1
    · omega
  · show 0 + (ev_c r0.2 - ev_c σ) ≤ ev_c τ - ev_c σ
    omega
  · show 0 + (ev_s r0.2 - ev_s σ) ≤ ev_s τ - ev_s σ
    omega
  · rcases hor with ⟨v', hv', hτ, hk⟩ | ⟨hn, -, -⟩
    · rw [hv'] at hv
      cases hv
      refine lv_i2l hx hb r7.1 rfl ?_
      refine lw_last hx hb hCx hR1 hS1 hN' r8.1 (fun H2 locs2 hR2 hS2 => ?_)
      refine lv_goto (tgt := 17) hx hb r9.1 (by decide) ?_
      refine lv_iconst (v := 0) hx hb r13.1 (by decide) ?_
      refine vx_ret ?_
      rw [Nat.zero_add, Nat.zero_add, ← z1, ← z2]
      exact W.iret hx hb hr (fun t ht hw => ⟨⟨_, rfl, by rw [hk]; rfl⟩, by rw [ht, hτ]; exact hR2⟩) hS2.2.2 r14.1 hlocks
    · rw [hn] at hv; cases hv
  · rcases hor with ⟨v', hv', hτ, hk⟩ | ⟨hn, hτ, hk⟩
    · rw [hv'] at hv; cases hv
    · refine vx_catch (own := ev_cn 12) (name := "java/util/NoSuchElementException") (E := "java/util/NoSuchElementException") hown [] _ [] htab (fun z hz => by cases hz) (by decide) (by decide) (hts _ lw_kl) (va_Nw.use rfl (hCx.2.2.2.1 _ lw_ka)) hce hcv hcl ?_
      refine lv_astore (lv' := [(4, .ref q), (0, .ref (ev_ad g 0)), (1, .int x1), (2, .int x2), (3, .ref (ev_ad g 174))]) hx hb r10.1 hl (by decide) rfl (fun ls hl => ?_)
      refine lv_iconst (v := 1) hx hb r11.1 (by decide) ?_
      refine vx_ret ?_
      rw [Nat.zero_add, Nat.zero_add, ← z1, ← z2]
      exact W.iret hx hb hr (fun t ht hw => ⟨⟨_, rfl, by rw [hk]; rfl⟩, by rw [ht, hτ]; exact hR1⟩) hS1.2.2 r12.1 hlocks
end LAWX
