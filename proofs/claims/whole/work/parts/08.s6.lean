section EVV
variable {p : Program} {l : Launch} {e : Env} {R : Room} {s : State} {m : MethodId} {args : Array Value} {below : List Frame} {meth : Method} {c : Code} {g : ev_G} {sd : Bool} {d : Nat} {M : ev_Me} {σ0 : ev_S} {r : ev_R}
theorem va_any9 {U : State} {A A' : Array Value} {t : FieldType} (h : (Cond.arrayOver t).before A U = true) : (Cond.arrayOver t).before A' U = true := h
theorem ev_lay_lt11 {k ci : Nat} (h : ev_lay k = (0, ci)) : ci < 11 := by
  have : ∀ q ∈ ev_layL, q.1 = 0 → q.2 < 11 := by decide +kernel
  unfold ev_lay at h
  cases hn : ev_nth ev_layL k with
  | none => rw [hn] at h; cases h
  | some q =>
    rw [hn] at h
    have h' : q = (0, ci) := h
    have := this q (ev_nth_mem hn) (by rw [h'])
    rw [h'] at this
    exact this
/-- the words of a throw at the method's entry -/
theorem ev_thr_words (hTX : ev_TX) (hA : ev_At p g M s m args meth c) : ∀ w ∈ ev_atX (ev_cn ev_thrC.1) ev_thrC.2 "java/util/NoSuchElementException" 13 prog_30_method_4_code ev_thrN, w.before args s = true := by
  obtain ⟨hx, hb, hml, hr, hlocks, hown, hnm, hexc, hts, hCx, hold, hb0⟩ := hA
  intro w hw
  rcases (hTX.1 w hw).1 with h | ⟨h, h2⟩
  · exact hts w h
  · exact va_Nw.use h2 (hCx.2.2.2.1 w h)
set_option maxHeartbeats 4000000 in
theorem ev_new_ok (hl0 : l.stackTraces = false) (hTC : ev_TC) (hTN : ev_TN) (hTX : ev_TX) (hrows : ev_rows M) (hA : ev_At p g M s m args meth c) {idx pc : Nat} {ls st : List Value} {σ : ev_S} (hdg : decode M.2.1 pc = .ok (.new idx, 3)) {K : ev_K} (hK : ∀ pc' ls' st' σ', K pc' ls' st' σ' = some r → ev_P p l e s m args below meth c g sd d M σ0 r pc' ls' st' σ')
    (h : ev_wr sd M K (.new idx) pc ls st σ = some r) : ev_P p l e s m args below meth c g sd d M σ0 r pc ls st σ := by
  have hA0 := hA
  obtain ⟨hx, hb, hml, hr, hlocks, hown, hnm, hexc, hts, hCx, hold, hb0⟩ := hA
  have hgl : ∀ a : Nat, a < g.2.2.1.size → ¬ ev_A g a → s.heap[a]? = g.2.2.1[a]? := fun a _ h2 => hold a (Nat.lt_of_not_le h2)
  have hf := hCx.2.2.2.2.2.2.2.2.2.2
  unfold ev_wr at h
  simp only [] at h
  split at h
  · -- a throw
    rename_i hlk
    cases hth : ev_isThrow M pc && Nat.ble st.length 4 with
    | false => rw [hth] at h; cases h
    | true =>
      rw [hth] at h
      simp only [cond_true] at h
      rw [Bool.and_eq_true] at hth
      obtain ⟨hth, hst⟩ := hth
      have hst4 := Nat.le_of_ble_eq_true hst
      cases h
      have hck := (hTN _ _ _ hlk).2.1 rfl
      unfold ev_isThrow at hth
      rw [Bool.and_eq_true] at hth
      obtain ⟨hoc, hth⟩ := hth
      have eoc := Nat.eq_of_beq_eq_true hoc
      intro h0
      have hle : ev_le sd σ (((σ.1.1, false, σ.1.2.2.1 + 1, σ.1.2.2.2 + 6), σ.2) : ev_S) := ⟨Nat.le_succ _, Nat.le_add_right _ _, fun _ => ⟨rfl, rfl⟩⟩
      refine ⟨hle, fun H lc locs hR hl hS => ?_⟩
      have k3 := h0.1
      have k4 := h0.2.1
      have e1 : ev_c (((σ.1.1, false, σ.1.2.2.1 + 1, σ.1.2.2.2 + 6), σ.2) : ev_S) = ev_c σ + 1 := rfl
      have e2 : ev_s (((σ.1.1, false, σ.1.2.2.1 + 1, σ.1.2.2.2 + 6), σ.2) : ev_S) = ev_s σ + 6 := rfl
      have hrest := ev_cat_sum hf st
      have hw := ev_thr_words hTX hA0
      have hgood : ∀ w ∈ Cond.classLink (ev_cn M.2.2.2.2.1) idx "java/util/NoSuchElementException" :: Cond.initialized "java/util/NoSuchElementException" :: ev_atX (ev_cn M.2.2.2.2.1) ev_thrC.2 "java/util/NoSuchElementException" 13 prog_30_method_4_code ev_thrN, vx_ot w = true := by
        intro w hw2
        rcases List.mem_cons.mp hw2 with rfl | hw2
        · rfl
        · rcases List.mem_cons.mp hw2 with rfl | hw2
          · rfl
          · rw [eoc] at hw2
            exact (hTX.1 w hw2).2
      have hX : ∀ t : State, s.vm.Alike t.vm → H.size ≤ t.heap.size → (∀ q : Nat, q < H.size → t.heap[q]? = H[q]?) → ev_XC g (none, (((σ.1.1, false, σ.1.2.2.1 + 1, σ.1.2.2.2 + 6), σ.2) : ev_S)) "java/util/NoSuchElementException" s t := by
        intro t _ hz hq
        obtain ⟨r1, r2, r3, r4, r5⟩ := hR
        refine ⟨rfl, rfl, Nat.le_trans r1 hz, fun z => (by cases z), fun q hq1 => (hq q (by omega)).trans (r3 q hq1), r4, fun k hk => ?_⟩
        have hE : ev_E g (((σ.1.1, false, σ.1.2.2.1 + 1, σ.1.2.2.2 + 6), σ.2) : ev_S) k = ev_E g σ k := ev_E_congr rfl rfl rfl
        rw [hE]
        have hk' : k < σ.1.1 := hk
        exact (r5 k hk').kept (hq _ (by show g.2.1 + k < H.size; omega))
      have hU := vx_Zq.kept hCx.2.2.2.2.2.2.2.2.1 hgl
      have hN := vx_Zq.kept hCx.2.2.2.2.2.2.2.2.2.1 hgl
      split at hth
      rotate_left
      · cases hth
      rename_i n3 hd3
      split at hth
      · rename_i is n4 hd4
        split at hth
        rotate_left
        · cases hth
        rename_i ic n6 n9 hd6 hd9
        rw [Bool.and_eq_true] at hth
        have eic := Nat.eq_of_beq_eq_true hth.1
        obtain ⟨a, ha⟩ := Option.isSome_iff_exists.mp hth.2
        have hd3' := (hrows _ _ _ hd3).1
        have hd4' := (hrows _ _ _ hd4).1
        have hd6' := (hrows _ _ _ hd6).1
        have hd9' := (hrows _ _ _ hd9).1
        subst eic
        exact ev_throwS hx hb hl0 (ix := 13) (rx := prog_30_method_4_code) (by decide +kernel) (by decide +kernel) (by decide +kernel) (by decide +kernel) (own := ev_cn M.2.2.2.2.1) (cls := "java/util/NoSuchElementException") (names := ev_thrN) (ik := idx) (is := is) (ic := ev_thrC.2) (A := ev_A g) hown (by decide) (by decide) (hts _ hck) (hts _ hTX.2) (hCx.2.2.2.2.1 _ _ _ ha) (by rw [eoc]; exact hw) hgood hU hN hS (hl.1.trans hml.symm) hdg hd3' hd4' hd6' hd9' (fun x hx9 => hexc x hx9 _)
          (by show 2 + 3 < d + 10; omega) (by show _ + (13 * (2 + 1) + 43) ≤ 100 * d + 400; omega) (by show _ + 1 ≤ ev_c _ - ev_c σ0; rw [e1]; omega) (by show _ + 6 ≤ ev_s _ - ev_s σ0; rw [e2]; omega) hlocks hX hS.2.2 (by rw [e1]; omega) (by rw [e2]; omega)
      · rename_i is n4 hd4
        split at hth
        rotate_left
        · cases hth
        rename_i ic n6 n9 hd6 hd9
        rw [Bool.and_eq_true] at hth
        have eic := Nat.eq_of_beq_eq_true hth.1
        obtain ⟨a, ha⟩ := Option.isSome_iff_exists.mp hth.2
        have hd3' := (hrows _ _ _ hd3).1
        have hd4' := (hrows _ _ _ hd4).1
        have hd6' := (hrows _ _ _ hd6).1
        have hd9' := (hrows _ _ _ hd9).1
        subst eic
        exact ev_throwSW hx hb hl0 (ix := 13) (rx := prog_30_method_4_code) (by decide +kernel) (by decide +kernel) (by decide +kernel) (by decide +kernel) (own := ev_cn M.2.2.2.2.1) (cls := "java/util/NoSuchElementException") (names := ev_thrN) (ik := idx) (is := is) (ic := ev_thrC.2) (A := ev_A g) hown (by decide) (by decide) (hts _ hck) (hts _ hTX.2) (hCx.2.2.2.2.1 _ _ _ ha) (by rw [eoc]; exact hw) hgood hU hN hS (hl.1.trans hml.symm) hdg hd3' hd4' hd6' hd9' (fun x hx9 => hexc x hx9 _)
          (by show 2 + 3 < d + 10; omega) (by show _ + (13 * (2 + 1) + 43) ≤ 100 * d + 400; omega) (by show _ + 1 ≤ ev_c _ - ev_c σ0; rw [e1]; omega) (by show _ + 6 ≤ ev_s _ - ev_s σ0; rw [e2]; omega) hlocks hX hS.2.2 (by rw [e1]; omega) (by rw [e2]; omega)
      · cases hth
  · -- an object
    rename_i ci _ hlk
    cases hc : (!sd && σ.1.2.1 && (ev_lay σ.1.1 == (0, ci)) && Nat.blt σ.1.1 ev_N0 && Nat.blt ci 11) with
    | false => rw [hc] at h; cases h
    | true =>
      rw [hc] at h
      simp only [cond_true] at h
      simp only [Bool.and_eq_true, Bool.not_eq_true'] at hc
      obtain ⟨⟨⟨⟨hsd, hop⟩, hly⟩, hN0⟩, h11⟩ := hc
      have hci : ci < 11 := ev_blt h11
      have hlay : ev_lay σ.1.1 = (0, ci) := eq_of_beq hly
      obtain ⟨w1, w2, w3⟩ := (hTN _ _ _ hlk).1 hci
      obtain ⟨c1, c2, c3, c4, c5, c6, c7⟩ := hTC ci hci
      have hKn := hCx.1.1 ci _ c1
      refine ev_P.al hsd (fun H lc locs cells slots Q hR hS hcells hslots hW => ?_) (hK _ _ _ _ h)
      have hsz := hR.2.1 hop
      have had : ev_ad g σ.1.1 = H.size := by rw [hsz]; exact ev_ad_cell (Nat.lt_trans (ev_blt hN0) ev_N0_lt)
      have hW' : ∀ H1 : Heap, ev_Rep g (ev_more σ (ev_cl ci).2.2) H1 → va_S (ev_A g) s.heap H1 locs → W p l e (ev_rm d σ0 r.2) s m args below meth c H1 locs (cells + 1) (slots + (ev_cl ci).2.2) Q (F0 m (pc + 3) lc (.ref H.size :: st.map (ev_uv g))) := by
        intro H1 a1 a2
        rw [← had]
        exact hW H1 a1 a2
      refine W.newcK hx hb hown (hts _ w1) (hts _ w2) (hts _ w3) rfl hdg hcells hslots hKn.2.1 rfl fun H1 kC hkC e1 z1 o1 => ?_
      refine hW' H1 (ev_Rep_more hR hop (Nat.lt_trans (ev_blt hN0) ev_N0_lt) z1 o1 ?_) (ev_S_more hS (by omega) o1)
      unfold ev_E
      rw [hlay]
      rw [hsz] at e1
      refine ⟨_, c1, (u_born (ev_ft ci) hts c2 hKn hkC e1 c3).to (fun j hj => ?_)⟩
      show defaultValue (ev_ft ci j) = ((List.range (ev_cl ci).2.2).map (ev_fldv g (ev_more σ (ev_cl ci).2.2) σ.1.1 ci)).getD j .null
      simp only [List.getD, List.getElem?_map, List.getElem?_range hj, Option.map_some, Option.getD_some]
      rw [c6 j hj]
      unfold ev_fldv
      rw [(ev_more_at (b := j)).1, (ev_more_at (b := j)).2.2]
      rfl
  · cases h
set_option maxHeartbeats 4000000 in
theorem ev_arr_ok (hTN : ev_TN) (hTA : ev_TA) (hA : ev_At p g M s m args meth c) {i : Instr} {pc : Nat} {ls st : List Value} {σ : ev_S} (hi : (∃ ty, i = .newarray ty) ∨ (∃ idx, i = .anewarray idx) ∨ (∃ idx k, i = .multianewarray idx k)) (hdg : decode M.2.1 pc = .ok (i, ev_len pc i)) {K : ev_K} (hK : ∀ pc' ls' st' σ', K pc' ls' st' σ' = some r → ev_P p l e s m args below meth c g sd d M σ0 r pc' ls' st' σ')
    (h : ev_wr sd M K i pc ls st σ = some r) : ev_P p l e s m args below meth c g sd d M σ0 r pc ls st σ := by
  obtain ⟨hx, hb, hml, hr, hlocks, hown, hnm, hexc, hts, hCx, hold, hb0⟩ := hA
  rcases hi with ⟨ty, rfl⟩ | ⟨idx, rfl⟩ | ⟨idx, k, rfl⟩
  · unfold ev_wr at h
    simp only [] at h
    split at h
    rotate_left
    · cases h
    rename_i x rest
    rcases hlay : ev_lay σ.1.1 with ⟨kd, n⟩
    simp only [hlay] at h
    have fin : ∀ (t : Nat) (fty : FieldType) (a0 : vp_A), kd = t → newarray.typeOf ty = fty → σ.1.2.1 = true → sd = false → σ.1.1 < ev_N0 → n < 1000 → x = Int32.ofNat n → Cond.arrayClass fty ∈ ev_gw → s.vm.findClass ("[" ++ fty.toString) = some (g.2.2.2.2.2.2 t) → componentBytes fty ≤ 8 → (∀ cA : ClassId, vp_cell cA a0 = arrV cA n (fun _ => defaultValue fty)) → (ev_E g (ev_more σ n) σ.1.1 = .inl (g.2.2.2.2.2.2 t, a0)) → K (pc + 2) ls (.ref σ.1.1 :: rest) (ev_more σ n) = some r → ev_P p l e s m args below meth c g sd d M σ0 r pc ls (.int x :: rest) σ := by
      intro t fty a0 ht hty hop hsd hN0 hn hxe hw hfc hcb ha0 hE h
      refine ev_P.al hsd (fun H lc locs cells slots Q hR hS hcells hslots hW => ?_) (hK _ _ _ _ h)
      have hsz := hR.2.1 hop
      have had : ev_ad g σ.1.1 = H.size := by rw [hsz]; exact ev_ad_cell (Nat.lt_trans hN0 ev_N0_lt)
      have hW' : ∀ H1 : Heap, ev_Rep g (ev_more σ n) H1 → va_S (ev_A g) s.heap H1 locs → W p l e (ev_rm d σ0 r.2) s m args below meth c H1 locs (cells + 1) (slots + n) Q (F0 m (pc + 2) lc (.ref H.size :: rest.map (ev_uv g))) := by
        intro H1 a1 a2
        rw [← had]
        exact hW H1 a1 a2
      subst hxe
      subst hty
      obtain ⟨b1, b2⟩ := ev_ofNat_nn hn
      refine va_newaK hx hb (hts _ hw) rfl hdg rfl b1 b2 (by have : n * componentBytes (newarray.typeOf ty) ≤ 1000 * 8 := Nat.mul_le_mul (by omega) hcb; omega) hcells hslots rfl fun H1 cA e1 z1 o1 hAr hNm => ?_
      have ecA : cA = g.2.2.2.2.2.2 t := Option.some.inj (hNm.symm.trans hfc)
      subst ecA
      refine hW' H1 (ev_Rep_more hR hop (Nat.lt_trans hN0 ev_N0_lt) z1 o1 ?_) (ev_S_more hS (by omega) o1)
      rw [hE]
      show H1[g.2.1 + σ.1.1]? = some (vp_cell _ _)
      rw [ha0, ← hsz]
      exact e1
    cases hc : (!sd && σ.1.2.1 && Nat.blt σ.1.1 ev_N0 && ev_aty ty kd && decide (x = Int32.ofNat n) && Nat.blt n 1000) with
    | false => rw [hc] at h; cases h
    | true =>
      rw [hc] at h
      simp only [cond_true] at h
      simp only [Bool.and_eq_true, Bool.not_eq_true', decide_eq_true_eq] at hc
      obtain ⟨⟨⟨⟨⟨hsd, hop⟩, hN0⟩, hty⟩, hxe⟩, hn⟩ := hc
      have m0 : (ev_more σ n).2.1 σ.1.1 = fun _ => 0 := funext fun b => ev_more_at.1
      have m1 : (ev_more σ n).2.2.1 σ.1.1 = fun _ => 0 := funext fun b => ev_more_at.2.1
      unfold ev_aty at hty
      split at hty
      · exact fin 1 .int (n, .inl (fun _ => 0)) rfl rfl hop hsd (ev_blt hN0) (ev_blt hn) hxe hTA.1 (hCx.1.2 0 _ rfl).2 (by decide) (fun cA => rfl) (by unfold ev_E; rw [hlay]; show Sum.inl _ = _; rw [m0]) h
      · exact fin 2 .long (n, .inr (.inl (fun _ => 0))) rfl rfl hop hsd (ev_blt hN0) (ev_blt hn) hxe hTA.2.1 (hCx.1.2 1 _ rfl).2 (by decide) (fun cA => rfl) (by unfold ev_E; rw [hlay]; show Sum.inl _ = _; rw [m1]) h
      · exact fin 3 .char (n, .inl (fun _ => 0)) rfl rfl hop hsd (ev_blt hN0) (ev_blt hn) hxe hTA.2.2.1 (hCx.1.2 2 _ rfl).2 (by decide) (fun cA => rfl) (by unfold ev_E; rw [hlay]; show Sum.inl _ = _; rw [m0]) h
      · exact fin 4 .boolean (n, .inl (fun _ => 0)) rfl rfl hop hsd (ev_blt hN0) (ev_blt hn) hxe hTA.2.2.2 (hCx.1.2 3 _ rfl).2 (by decide) (fun cA => rfl) (by unfold ev_E; rw [hlay]; show Sum.inl _ = _; rw [m0]) h
      · cases hty
  · unfold ev_wr at h
    simp only [] at h
    split at h
    rotate_left
    · cases h
    rename_i x rest hlk
    split at h
    rotate_left
    · cases h
    rename_i n hlay
    cases hc : (!sd && σ.1.2.1 && Nat.blt σ.1.1 ev_N0 && decide (x = Int32.ofNat n) && Nat.blt n 1000) with
    | false => rw [hc] at h; cases h
    | true =>
      rw [hc] at h
      simp only [cond_true] at h
      simp only [Bool.and_eq_true, Bool.not_eq_true', decide_eq_true_eq] at hc
      obtain ⟨⟨⟨⟨hsd, hop⟩, hN0⟩, hxe⟩, hn⟩ := hc
      obtain ⟨b1, b2⟩ := ev_ofNat_nn (ev_blt hn)
      refine ev_P.al hsd (fun H lc locs cells slots Q hR hS hcells hslots hW => ?_) (hK _ _ _ _ h)
      have hsz := hR.2.1 hop
      have had : ev_ad g σ.1.1 = H.size := by rw [hsz]; exact ev_ad_cell (Nat.lt_trans (ev_blt hN0) ev_N0_lt)
      have hW' : ∀ H1 : Heap, ev_Rep g (ev_more σ n) H1 → va_S (ev_A g) s.heap H1 locs → W p l e (ev_rm d σ0 r.2) s m args below meth c H1 locs (cells + 1) (slots + n) Q (F0 m (pc + 3) lc (.ref H.size :: rest.map (ev_uv g))) := by
        intro H1 a1 a2
        rw [← had]
        exact hW H1 a1 a2
      subst hxe
      obtain ⟨kA0, comp0, k1, k2, k3, k4⟩ := (hCx.1.2 4 _ rfl).2
      refine W.anew hx hb hown (hts _ ((hTN _ _ _ hlk).1 (by omega)).1) (va_AO.use hCx.2.1) rfl hdg rfl b1 (by rw [b2]; have := ev_blt hn; omega) hcells (by rw [b2]; exact hslots) fun cA kA comp f1 f2 f3 f4 => ?_
      rw [b2]
      have ecA : cA = g.2.2.2.2.2.2 5 := Option.some.inj (f1.symm.trans k4)
      subst ecA
      generalize hH1 : H.push ({ cls := g.2.2.2.2.2.2 5, slots := Array.replicate n .null, vm := .none } : Cell) = H1
      have z1 : H1.size = H.size + 1 := by rw [← hH1, Array.size_push]
      have e1 : H1[H.size]? = some (arrV (g.2.2.2.2.2.2 5) n (fun _ => .null)) := by rw [← hH1, Array.getElem?_push_size, ← arrV_new]
      have o1 : ∀ q : Nat, q < H.size → H1[q]? = H[q]? := fun q hq => by rw [← hH1, Array.getElem?_push, if_neg (Nat.ne_of_lt hq)]
      refine hW' H1 (ev_Rep_more hR hop (Nat.lt_trans (ev_blt hN0) ev_N0_lt) z1 o1 ?_) (ev_S_more hS (by omega) o1)
      have hE : ev_E g (ev_more σ n) σ.1.1 = .inl (g.2.2.2.2.2.2 5, n, .inr (.inr (.inr (.inr (fun _ => none))))) := by
        unfold ev_E
        rw [hlay]
        have : (fun j => ((ev_more σ n).2.2.2 σ.1.1 j).map (ev_ad g)) = fun _ => none := by
          funext b
          rw [ev_more_at.2.2]; rfl
        show Sum.inl (_, _, Sum.inr (Sum.inr (Sum.inr (Sum.inr (fun j => ((ev_more σ n).2.2.2 σ.1.1 j).map (ev_ad g)))))) = _
        rw [this]
      rw [hE]
      show H1[g.2.1 + σ.1.1]? = some (vp_cell _ _)
      rw [vp_cell_q, ← hsz]
      exact e1
  · by_cases hk2 : k = 2
    rotate_left
    · exfalso
      have : ev_wr sd M K (.multianewarray idx k) pc ls st σ = none := by
        unfold ev_wr
        split <;> first | rfl | (rename_i heq; cases heq; exact absurd rfl hk2) | (rename_i heq; cases heq)
      rw [this] at h
      cases h
    subst hk2
    unfold ev_wr at h
    simp only [] at h
    split at h
    rotate_left
    · cases h
    rename_i y x rest hlk
    split at h
    rotate_left
    · cases h
    rename_i a b hlay hlay1
    cases hc : (!sd && σ.1.2.1 && Nat.ble (σ.1.1 + 1 + a) ev_N0 && decide (x = Int32.ofNat a) && decide (y = Int32.ofNat b) && ev_rowsOk b a (σ.1.1 + 1) && Nat.blt a 1000 && Nat.blt b 1000) with
    | false => rw [hc] at h; cases h
    | true =>
      rw [hc] at h
      simp only [cond_true] at h
      simp only [Bool.and_eq_true, Bool.not_eq_true', decide_eq_true_eq] at hc
      obtain ⟨⟨⟨⟨⟨⟨⟨hsd, hop⟩, hN0⟩, hxe⟩, hye⟩, hrow⟩, ha⟩, hb1⟩ := hc
      subst hxe
      subst hye
      have hN0' := Nat.le_of_ble_eq_true hN0
      have hP := hK _ _ _ _ h
      generalize hτ : (((ev_moreN b a (ev_more σ a)).1, (ev_moreN b a (ev_more σ a)).2.1, (ev_moreN b a (ev_more σ a)).2.2.1, (fun p q => bif Nat.beq p σ.1.1 then (if q < a then some (σ.1.1 + 1 + q) else none) else (ev_moreN b a (ev_more σ a)).2.2.2 p q)) : ev_S) = τ at hP
      obtain ⟨m1, m2, m3⟩ := ev_moreN_facts b a (ev_more σ a)
      have t1 : τ.1 = (σ.1.1 + 1 + a, σ.1.2.1, σ.1.2.2.1 + 1 + a, σ.1.2.2.2 + a + a * b) := by rw [← hτ]; exact m1
      have hN := ev_N0_lt
      have hnb : ∀ k, k ≠ σ.1.1 → Nat.beq k σ.1.1 = false := fun k hk => by
        cases hz : Nat.beq k σ.1.1 with
        | false => rfl
        | true => exact absurd (Nat.eq_of_beq_eq_true hz) hk
      have told : ∀ k, k < σ.1.1 → ev_E g τ k = ev_E g σ k := fun k hk => by
        obtain ⟨q1, q2, q3⟩ := m2 k (Nat.lt_succ_of_lt hk)
        have hz := hnb k (by omega)
        refine ev_E_congr ?_ ?_ ?_
        · rw [← hτ]; refine q1.trans ?_; funext q; show (bif Nat.beq k σ.1.1 then _ else _) = _; rw [hz]; rfl
        · rw [← hτ]; refine q2.trans ?_; funext q; show (bif Nat.beq k σ.1.1 then _ else _) = _; rw [hz]; rfl
        · rw [← hτ]
          funext q
          show (bif Nat.beq k σ.1.1 then _ else (ev_moreN b a (ev_more σ a)).2.2.2 k q) = _
          rw [hz]
          refine (congrFun q3 q).trans ?_
          show (bif Nat.beq k σ.1.1 then _ else _) = _
          rw [hz]; rfl
      intro h0
      have e1 : ev_c τ = ev_c σ + 1 + a := by unfold ev_c; rw [t1]
      have e2 : ev_s τ = ev_s σ + a + a * b := by unfold ev_s; rw [t1]
      have hle : ev_le sd σ τ := ⟨by rw [e1]; omega, by rw [e2]; omega, fun z => by rw [hsd] at z; cases z⟩
      obtain ⟨g1, g2⟩ := hP (h0.tr hle)
      have k1 := g1.1
      have k2 := g1.2.1
      have k3 := h0.1
      have k4 := h0.2.1
      rw [e1] at k1
      rw [e2] at k2
      rw [e1, e2, show ev_c σ + 1 + a - ev_c σ0 = ev_c σ - ev_c σ0 + 1 + a by omega, show ev_s σ + a + a * b - ev_s σ0 = ev_s σ - ev_s σ0 + a + a * b by omega] at g2
      refine ⟨hle.tr g1, fun H lc locs hR hl hS => ?_⟩
      have hsz := hR.2.1 hop
      have had : ev_ad g σ.1.1 = H.size := by rw [hsz]; exact ev_ad_cell (by omega)
      refine ev_mna hx hb hown (hts _ ((hTN _ _ _ hlk).2.2 rfl)) (va_any9 hCx.2.2.1) (hts _ hTA.1) (hCx.1.2 5 _ rfl).2 (hCx.1.2 0 _ rfl).2 (ev_blt ha) (ev_blt hb1) (by show _ ≤ ev_c r.2 - ev_c σ0; omega) (by show _ ≤ ev_s r.2 - ev_s σ0; omega) hdg (fun H1 z1 q1 q2 q3 => ?_)
      have hg2 := g2 H1 lc locs ⟨by rw [t1]; show g.2.1 + (σ.1.1 + 1 + a) ≤ _; omega, fun _ => by rw [t1]; show H1.size = g.2.1 + (σ.1.1 + 1 + a); omega, fun q hq => (q3 q (by omega)).trans (hR.2.2.1 q hq), by rw [t1]; show σ.1.1 + 1 + a ≤ _; omega, fun k hk => ?_⟩ hl (ev_S_more hS (by omega) q3)
      · rw [← had]
        exact hg2
      · rw [t1] at hk
        have hk' : k < σ.1.1 + 1 + a := hk
        rcases (show k < σ.1.1 ∨ k = σ.1.1 ∨ σ.1.1 < k by omega) with z | z | z
        · rw [told k z]
          exact (hR.2.2.2.2 k z).kept (q3 _ (by show g.2.1 + k < H.size; omega))
        · subst z
          have hE : ev_E g τ σ.1.1 = .inl (g.2.2.2.2.2.2 6, a, .inr (.inr (.inr (.inr (fun i => if i < a then some (H.size + 1 + i) else none))))) := by
            unfold ev_E
            rw [hlay]
            have : (fun j => (τ.2.2.2 σ.1.1 j).map (ev_ad g)) = fun i => if i < a then some (H.size + 1 + i) else none := by
              funext j
              rw [← hτ]
              show Option.map (ev_ad g) (bif Nat.beq σ.1.1 σ.1.1 then (if j < a then some (σ.1.1 + 1 + j) else none) else _) = _
              rw [Nat.beq_refl]
              show Option.map (ev_ad g) (if j < a then some (σ.1.1 + 1 + j) else none) = _
              by_cases hj : j < a
              · rw [if_pos hj, if_pos hj, Option.map_some, ev_ad_cell (by omega), hsz]
                congr 1
                omega
              · rw [if_neg hj, if_neg hj]; rfl
            show Sum.inl (_, _, Sum.inr (Sum.inr (Sum.inr (Sum.inr (fun j => (τ.2.2.2 σ.1.1 j).map (ev_ad g)))))) = _
            rw [this]
          rw [hE]
          show H1[g.2.1 + σ.1.1]? = some (vp_cell _ _)
          rw [← hsz]
          exact q1
        · obtain ⟨j, rfl⟩ : ∃ j, k = σ.1.1 + 1 + j := ⟨k - (σ.1.1 + 1), by omega⟩
          have hj : j < a := by omega
          have hl1 := ev_rowsOk_spec hrow j hj
          have hE : ev_E g τ (σ.1.1 + 1 + j) = .inl (g.2.2.2.2.2.2 1, b, .inl (fun _ => 0)) := by
            unfold ev_E
            rw [hl1]
            show Sum.inl (_, _, Sum.inl (τ.2.1 (σ.1.1 + 1 + j))) = _
            rw [← hτ]
            exact congrArg (fun f => (Sum.inl (g.2.2.2.2.2.2 1, b, Sum.inl f) : va_E)) (m3 j hj)
          rw [hE]
          show H1[g.2.1 + (σ.1.1 + 1 + j)]? = some (vp_cell _ _)
          have := q2 j hj
          rw [hsz] at this
          rw [show g.2.1 + (σ.1.1 + 1 + j) = g.2.1 + σ.1.1 + 1 + j by omega]
          exact this
end EVV
