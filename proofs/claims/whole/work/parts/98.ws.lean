/-! The law from its entry. -/
section LWS
variable {p : Program} {l : Launch} {e : Env} {R : Room} {s : State} {m : MethodId} {below : List Frame} {meth : Method} {c : Code} {g : ev_G} {b L : Nat} {xs : Nat → Int32}
theorem lw_new (C : lC p s m meth c g b L xs) {idx ci pc : Nat} (hlk : ev_lk (ev_nl 12) idx = some ci) (hci : ci < 11) (hdg : decode code pc = .ok (.new idx, 3)) {σ : ev_S} {H : Heap} {locs : List Loc} {lc : Array Slot} {st : List Value} {Q : State → Prop} (hR : ev_Rep g σ H) (hop : σ.1.2.1 = true) (hlay : ev_lay σ.1.1 = (0, ci)) (hN0 : σ.1.1 < ev_N0) (hS : va_S (ev_A g) s.heap H locs) (hcells : ev_c σ + 1 ≤ 601024) (hslots : ev_s σ + (ev_cl ci).2.2 ≤ 7293034)
    (kk : ∀ H1 : Heap, ev_Rep g (ev_more σ (ev_cl ci).2.2) H1 → va_S (ev_A g) s.heap H1 locs → W p l e room_1 s m #[Value.ref b] below meth c H1 locs (ev_c σ + 1) (ev_s σ + (ev_cl ci).2.2) Q (F0 m (pc + 3) lc (.ref (ev_ad g σ.1.1) :: st))) : W p l e room_1 s m #[Value.ref b] below meth c H locs (ev_c σ) (ev_s σ) Q (F0 m pc lc st) := by
  obtain ⟨hx, hb, hr, hml, hown, hts, hX, hbl, hlocks, hCx, hg1, hg2⟩ := C
  have hts' : ∀ w ∈ ev_gw, w.before #[Value.ref b] s = true := fun w hw => hts w (List.mem_filter.mp hw).1
  obtain ⟨w1, w2, w3⟩ := (ev_T_ok.2.2.2.1 _ _ _ hlk).1 hci
  obtain ⟨c1, c2, c3, c4, c5, c6, c7⟩ := ev_T_ok.2.1 ci hci
  have hKn := hCx.1.1 ci _ c1
  have hsz := hR.2.1 hop
  have had : ev_ad g σ.1.1 = H.size := by rw [hsz]; exact ev_ad_cell (Nat.lt_trans hN0 ev_N0_lt)
  rw [had] at kk
  refine W.newcK hx hb hown (hts' _ w1) (hts' _ w2) (hts' _ w3) rfl hdg hcells hslots hKn.2.1 rfl fun H1 kC hkC e1 z1 o1 => ?_
  refine kk H1 (ev_Rep_more hR hop (Nat.lt_trans hN0 ev_N0_lt) z1 o1 ?_) (ev_S_more hS (by omega) o1)
  unfold ev_E
  rw [hlay]
  rw [hsz] at e1
  refine ⟨_, c1, (u_born (ev_ft ci) hts' c2 hKn hkC e1 c3).to (fun j hj => ?_)⟩
  show defaultValue (ev_ft ci j) = ((List.range (ev_cl ci).2.2).map (ev_fldv g (ev_more σ (ev_cl ci).2.2) σ.1.1 ci)).getD j .null
  simp only [List.getD, List.getElem?_map, List.getElem?_range hj, Option.map_some, Option.getD_some]
  rw [c6 j hj]
  unfold ev_fldv
  rw [(ev_more_at (b := j)).1, (ev_more_at (b := j)).2.2]
  rfl
theorem lw_ini (C : lC p s m meth c g b L xs) (hl0 : l.stackTraces = false) {idx ci k D pc : Nat} {Mc : ev_Me} (hlk : ev_lk (ev_ml 12) idx = some (1, 1, ci, Mc)) (hdg : decode code pc = .ok (.invokespecial idx, 3)) {σ τ : ev_S} (hD : D ≤ 300) (hcall : ev_call false D Mc [.ref k] σ = some (some none, τ)) {H : Heap} {locs : List Loc} {lc : Array Slot} {rest : List Value} {Q : State → Prop} (hR : ev_Rep g σ H) (hl : lc.size = 8) (hS : va_S (ev_A g) s.heap H locs) (hrest : (rest.map fun v => v.category).sum ≤ 8) (hc : ev_c τ ≤ 601024) (hs : ev_s τ ≤ 7293034)
    (kk : ∀ (H1 : Heap) (locs1 : List Loc), ev_Rep g τ H1 → va_S (ev_A g) s.heap H1 locs1 → W p l e room_1 s m #[Value.ref b] below meth c H1 locs1 (ev_c τ) (ev_s τ) Q (F0 m (pc + 3) lc rest)) : W p l e room_1 s m #[Value.ref b] below meth c H locs (ev_c σ) (ev_s σ) Q (F0 m pc lc (.ref (ev_ad g k) :: rest)) := by
  obtain ⟨hx, hb, hr, hml, hown, hts, hX, hbl, hlocks, hCx, hg1, hg2⟩ := C
  have hts' : ∀ w ∈ ev_gw, w.before #[Value.ref b] s = true := fun w hw => hts w (List.mem_filter.mp hw).1
  obtain ⟨-, -, -, -, -, t1, -⟩ := ev_T_ok.2.2.2.2.2.2 12 idx 1 1 ci Mc hlk
  obtain ⟨hOk, w1, w2, w3, hnm1, hret, hn1, hnp⟩ := t1 rfl
  obtain ⟨hM, hle⟩ := ev_call_ok (l := l) ev_T_ok hl0 (g := g) (sd := false) D Mc _ σ _ hcall hOk
  have k1 : ev_c σ ≤ ev_c τ := hle.1
  have k2 : ev_s σ ≤ ev_s τ := hle.2.1
  refine lw_called (r' := (some none, τ)) (v := none) (a := (Value.ref (ev_ad g k) :: []).toArray) (mc := ev_c τ - ev_c σ) (ms := ev_s τ - ev_s σ) (fun q hq => by rw [hg2]) rfl (va_runI (bytes := Mc.2.1) (maxL := Mc.2.2.1) (n := 0) (b := ev_ad g k) (As := []) (rest := rest) ⟨hx, hb, hml, hown, hts'⟩ (hM.met (v := none) rfl) (cwI 0 hts' (ev_gi (ev_wsM_in hOk)) (by rw [← hret]; rfl) rfl rfl (hts' _ w3) (hts' _ w1) (hts' _ w2) hnm1 ⟨hOk.2.2.2.2.2.1, hOk.2.2.2.2.2.2, hnp⟩ ⟨by show D + 10 + 1 ≤ 2048; omega, by have := hOk.2.2.1; show 8 + (Mc.2.2.1 + 11) + (100 * D + 400) ≤ 84000; omega⟩) ⟨ev_blind, fun U hU hW => ⟨rfl, by rw [hU]; exact hR, hCx.warm hW⟩⟩ rfl rfl hl rfl (lv_room hrest) hdg ⟨?_, ?_⟩) hS (fun H1 locs1 hR1 hS1 => ?_)
  · show ev_c σ + (ev_c τ - ev_c σ) ≤ 601024
    omega
  · show ev_s σ + (ev_s τ - ev_s σ) ≤ 7293034
    omega
  · rw [show ev_c σ + (ev_c τ - ev_c σ) = ev_c τ by omega, show ev_s σ + (ev_s τ - ev_s σ) = ev_s τ by omega]
    exact kk H1 locs1 hR1 hS1
def ev_s0 : ev_S := ((0, true, 0, 0), (fun _ _ => 0), (fun _ _ => 0), (fun _ _ => none))
theorem ev_s0_more : ev_more ev_s0 18 = ev_s00 := by
  have e : ∀ {α : Type} (b : Bool) (z : α), (bif b then z else z) = z := fun b z => by cases b <;> rfl
  unfold ev_more ev_s0 ev_s00
  simp only [e]
/-- both constructors, where their cells begin and what they take -/
theorem lw_st : (match ev_st1 with
  | some (some none, σ) => Nat.beq σ.1.1 139 && σ.1.2.1 && (match ev_st2 with
    | some (some none, τ) => Nat.beq τ.1.1 174 && τ.1.2.1 && Nat.ble τ.1.2.2.1 900 && Nat.ble τ.1.2.2.2 90000
    | _ => false)
  | _ => false) = true := by decide +kernel
theorem lw_st_of : ∃ σ τ : ev_S, ev_cr false 100 12 M_SL_init [.ref 0] ev_s00 = some (some none, σ) ∧ ev_cr false 100 12 M_Mo_init [.ref 139] (ev_more σ 49) = some (some none, τ) ∧ (σ.1.1 = 139 ∧ σ.1.2.1 = true) ∧ (τ.1.1 = 174 ∧ τ.1.2.1 = true ∧ τ.1.2.2.1 ≤ 900 ∧ τ.1.2.2.2 ≤ 90000) ∧ ev_asB (ev_more τ 1) ev_I0 ev_L0 ev_R0 = true := by
  have h1 := lw_st
  have h3 := ev_st3_ok
  split at h1
  · rename_i σ e1
    simp only [Bool.and_eq_true] at h1
    obtain ⟨⟨a1, a2⟩, h2⟩ := h1
    split at h2
    · rename_i τ e2
      simp only [Bool.and_eq_true] at h2
      obtain ⟨⟨⟨b1, b2⟩, b3⟩, b4⟩ := h2
      have e3 : ev_st3 = some (ev_more τ 1) := by unfold ev_st3; rw [e2]
      rw [e3] at h3
      simp only [Bool.and_eq_true] at h3
      have e2' := e2
      unfold ev_st2 at e2'
      rw [e1] at e2'
      exact ⟨σ, τ, e1, e2', ⟨Nat.eq_of_beq_eq_true a1, a2⟩, ⟨Nat.eq_of_beq_eq_true b1, b2, Nat.le_of_ble_eq_true b3, Nat.le_of_ble_eq_true b4⟩, h3.2⟩
    · cases h2
  · cases h1
theorem st_rows : rwB code 0 [(.new 8, 3), (.dup, 1), (.invokespecial 25, 3), (.astore_n 1, 1), (.new 26, 3), (.dup, 1), (.invokespecial 28, 3), (.astore_n 2, 1), (.iconst 1, 1), (.newarray .long, 2), (.astore_n 3, 1), (.iconst 0, 1), (.istore 4, 2)] = true := by decide +kernel
theorem whole_start (l : Launch) (hl0 : l.stackTraces = false) (hL : L ≤ 2560) (C0 : lw_At p s m meth c b L xs) : W p l e room_1 s m #[Value.ref b] below meth c s.heap [] 0 0 (lw_Z below #[Value.ref b] s) (entryFrame m ([Value.ref b] : List Value).toArray 8) := by
  obtain ⟨g, hg1, hg2, hCx⟩ := lw_cx C0
  obtain ⟨hx, hb, hr, hml, hown, hts, hX, hbl, hlocks, hgv⟩ := C0
  have C : lC p s m meth c g b L xs := ⟨hx, hb, hr, hml, hown, hts, hX, hbl, hlocks, hCx, hg1, hg2⟩
  have r1 := rwB_c st_rows
  have r2 := rwB_c r1.2
  have r3 := rwB_c r2.2
  have r4 := rwB_c r3.2
  have r5 := rwB_c r4.2
  have r6 := rwB_c r5.2
  have r7 := rwB_c r6.2
  have r8 := rwB_c r7.2
  have r9 := rwB_c r8.2
  have r10 := rwB_c r9.2
  have r11 := rwB_c r10.2
  have r12 := rwB_c r11.2
  have r13 := rwB_c r12.2
  obtain ⟨σ, τ, e1, e2, ⟨n1, o1⟩, ⟨n2, o2, z1, z2⟩, hasB⟩ := lw_st_of
  have e1' := ev_cr_ok _ _ _ _ _ e1
  have e2' := ev_cr_ok _ _ _ _ _ e2
  have hle2 := (ev_call_ok (l := l) ev_T_ok hl0 (g := g) (sd := false) 12 M_Mo_init _ _ _ e2' ((ev_T_ok.2.2.2.2.2.2 12 28 1 1 10 M_Mo_init rfl).2.2.2.2.2.1 rfl).1).2
  have q1 : σ.1.2.2.1 + 1 ≤ τ.1.2.2.1 := hle2.1
  have q2 : σ.1.2.2.2 + 49 ≤ τ.1.2.2.2 := hle2.2.1
  have hl := lv_entry ([.ref b]) (n := 8) (Nat.le_of_ble_eq_true rfl)
  rw [lg_entry_eq]
  generalize (lg_sl ([.ref b]) ++ List.replicate (8 - (lg_sl ([.ref b])).length) Slot.unset).toArray = lc at hl ⊢
  have hl : lv_has lc 8 [(0, .ref b)] := hl
  have hS : va_S (ev_A g) s.heap s.heap [] := va_S.rf
  have hR0 : ev_Rep g ev_s0 s.heap := ⟨by show g.2.1 + 0 ≤ _; omega, fun _ => by show _ = g.2.1 + 0; omega, fun q hq => by rw [hg2], Nat.zero_le _, fun k hk => absurd hk (Nat.not_lt_zero _)⟩
  refine lw_new (σ := ev_s0) (ci := 9) C rfl (by omega) r1.1 hR0 rfl lay0 (by decide) hS (by decide) (by decide) (fun H hR hS => ?_)
  have hR : ev_Rep g ev_s00 H := by rw [← ev_s0_more]; exact hR
  refine lv_dup hx hb r2.1 rfl ?_
  refine lw_ini (σ := ev_s00) (τ := σ) (k := 0) (D := 12) C hl0 (Mc := M_SL_init) (ci := 9) rfl r3.1 (by omega) e1' hR hl.1 hS (by show 1 + 0 ≤ 8; omega) (by show σ.1.2.2.1 ≤ _; omega) (by show σ.1.2.2.2 ≤ _; omega) (fun H locs hR hS => ?_)
  refine lv_astore_n (lv' := [(1, .ref (ev_ad g 0)), (0, .ref b)]) hx hb r4.1 rfl hl (by decide) rfl (fun lc hl => ?_)
  refine lw_new (σ := σ) (ci := 10) C rfl (by omega) r5.1 hR o1 (by rw [n1]; exact lay139) (by rw [n1]; decide) hS (by show σ.1.2.2.1 + 1 ≤ _; omega) (by show σ.1.2.2.2 + 49 ≤ _; omega) (fun H hR hS => ?_)
  rw [n1]
  refine lv_dup hx hb r6.1 rfl ?_
  refine lw_ini (σ := ev_more σ 49) (τ := τ) (k := 139) (D := 12) C hl0 (Mc := M_Mo_init) (ci := 10) rfl r7.1 (by omega) e2' hR hl.1 hS (by show 1 + 0 ≤ 8; omega) (by show τ.1.2.2.1 ≤ _; omega) (by show τ.1.2.2.2 ≤ _; omega) (fun H locs hR hS => ?_)
  refine lv_astore_n (lv' := [(2, .ref (ev_ad g 139)), (1, .ref (ev_ad g 0)), (0, .ref b)]) hx hb r8.1 rfl hl (by decide) rfl (fun lc hl => ?_)
  refine lv_iconst (v := 1) hx hb r9.1 (by decide) ?_
  have hsz := hR.2.1 o2
  have had : ev_ad g 174 = H.size := by rw [hsz, n2]; exact ev_ad_cell (by decide)
  refine va_newaK (atype := .long) hx hb (hts _ (List.mem_filter.mp ev_T_ok.2.2.2.2.2.1.2.1).1) rfl r10.1 rfl (by decide) (show (1 : Int32).toNatClampNeg = 1 by decide) (by decide) (by show τ.1.2.2.1 + 1 ≤ 601024; omega) (by show τ.1.2.2.2 + 1 ≤ 7293034; omega) rfl fun H1 cA y1 y2 y3 hAr hNm => ?_
  have ecA : cA = g.2.2.2.2.2.2 2 := Option.some.inj (hNm.symm.trans (hCx.1.2 1 _ rfl).2)
  subst ecA
  have m1 : (ev_more τ 1).2.2.1 τ.1.1 = fun _ => 0 := funext fun b => ev_more_at.2.1
  have hR3 : ev_Rep g (ev_more τ 1) H1 := by
    refine ev_Rep_more hR o2 (by omega) y2 y3 ?_
    have hE : ev_E g (ev_more τ 1) τ.1.1 = .inl (g.2.2.2.2.2.2 2, 1, .inr (.inl (fun _ => 0))) := by
      unfold ev_E
      rw [n2, lay174]
      show Sum.inl _ = _
      rw [← n2, m1]
    rw [hE]
    show H1[g.2.1 + τ.1.1]? = some (vp_cell _ _)
    rw [← hsz]
    exact y1
  have hR4 := ev_Rep_as hasB (by show τ.1.1 + 1 ≤ ev_N0; rw [n2]; decide) hR3
  have hR5 : ev_Rep g (ev_mk (τ.1.2.1, τ.1.2.2.1 + 1, τ.1.2.2.2 + 1) ev_I0 ev_L0) H1 := by
    have e9 : (((ev_more τ 1).1, ev_I0, ev_L0, ev_R0) : ev_S) = ev_mk (τ.1.2.1, τ.1.2.2.1 + 1, τ.1.2.2.2 + 1) ev_I0 ev_L0 := by
      show ((τ.1.1 + 1, τ.1.2.1, τ.1.2.2.1 + 1, τ.1.2.2.2 + 1), ev_I0, ev_L0, ev_R0) = _
      rw [n2]; rfl
    rw [← e9]; exact hR4
  have hS1 : va_S (ev_A g) s.heap H1 locs := ev_S_more hS (by omega) y3
  show W p l e room_1 s m #[Value.ref b] below meth c H1 locs (τ.1.2.2.1 + 1) (τ.1.2.2.2 + 1) (lw_Z below #[Value.ref b] s) (F0 m _ lc [.ref H.size])
  rw [← had]
  refine lv_astore_n (lv' := [(3, .ref (ev_ad g 174)), (2, .ref (ev_ad g 139)), (1, .ref (ev_ad g 0)), (0, .ref b)]) hx hb r11.1 rfl hl (by decide) rfl (fun lc hl => ?_)
  refine lv_iconst (v := nI 0) hx hb r12.1 (by decide) ?_
  refine lv_istore (lv' := [(4, .int (nI 0)), (3, .ref (ev_ad g 174)), (2, .ref (ev_ad g 139)), (1, .ref (ev_ad g 0)), (0, .ref b)]) hx hb r13.1 hl (by decide) rfl (fun lc hl => ?_)
  exact law_loop C hl0 hL L 0 (τ.1.2.1, τ.1.2.2.1 + 1, τ.1.2.2.2 + 1) ev_I0 ev_L0 [] (by omega) (Nat.zero_le _) (inv0 _) (by show τ.1.2.2.1 + 1 ≤ _; omega) (by show τ.1.2.2.2 + 1 ≤ _; omega) H1 lc locs hR5 (lv_sub hl [0, 4, 3, 2, 1] rfl) hS1
end LWS
