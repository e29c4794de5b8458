def st5 : SS := fun k => match k with
  | 0 => fun i => if i = 7 then 10 else 0
  | 19 => fun i => if i = 6 then -1 else if i = 7 then -1 else if i = 8 then 3 else if i = 9 then -1 else 0
  | 39 => fun i => if i = 3 then -1 else 0
  | _ => fun _ => 0
def st6 : SS := fun k => match k with
  | 0 => fun i => if i = 11 then 10 else 0
  | _ => fun _ => 0
theorem pk00 : pk 0 0 = 0 := by decide
def ad5 (h : Nat) (u : List Nat) : Nat → Nat := fun k => (h :: u).getD k 0
set_option maxRecDepth 100000 in
set_option maxHeartbeats 4000000 in
theorem out5_wl (w : Wd) (h : Nat) (u : List Nat) : outX5 w h u = wl true (ad5 h u, w.2) st5 := by
  have e : tmC (ad5 h u, w.2) 39 (st5 39) = .inr (4, [.ref (ad5 h u 1), .ref (ad5 h u 13), .ref (ad5 h u 19), .int (-1), .long 0]) := by
    show Sum.inr (4, [_, _, _, _, Value.long (pk 0 0)]) = _
    rw [pk00]
    rfl
  have e2 : wl true (ad5 h u, w.2) st5 = (List.range 39).map (fun k => ((ad5 h u) k, tmC (ad5 h u, w.2) k (st5 k))) ++ [((ad5 h u) 39, tmC (ad5 h u, w.2) 39 (st5 39)), ((ad5 h u) 40, tmC (ad5 h u, w.2) 40 (st5 40))] := rfl
  rw [e2, e]
  rfl
set_option maxRecDepth 100000 in
set_option maxHeartbeats 4000000 in
theorem out6_wl (w : Wd) (h : Nat) (u : List Nat) : outX6 w h u = wl false (ad5 h u, w.2) st6 := rfl
theorem arr_of {s : State} {args : Array Value} {ty : FieldType} (hp : ty = .int ∨ ty = .boolean) (h : (Cond.arrayClass ty).before args s = true) : ∃ cA : ClassId, ArrOfT s cA ty ∧ va_RA s cA ty := by
  obtain ⟨cA, kA, comp, h1, h2, h3⟩ := Cond.arrayClass_spec h
  rcases hp with rfl | rfl
  · exact ⟨cA, fun n z => ⟨fun k h => (by cases h), kA, h2, comp, h3⟩, h1⟩
  · exact ⟨cA, fun n z => ⟨fun k h => (by cases h), kA, h2, comp, h3⟩, h1⟩
theorem sim_all : ∃ (N : Nat) (Rel : Nat → SS → SS → Prop), Sim N Rel ∧ (∀ k σ τ, k < 512 → Rel k σ τ → Rel (k + 1) σ τ) ∧ Rel 0 st5 st6 := by
  refine ⟨1000000, Rel, sim_ok, rel_up, rel_start (fun x i h1 h2 => ?_) (fun i hi => ?_) rfl (fun i hi => ?_) rfl⟩
  · rcases (show x = 1 ∨ x = 2 ∨ x = 3 ∨ x = 4 ∨ x = 5 ∨ x = 6 ∨ x = 7 ∨ x = 8 ∨ x = 9 ∨ x = 10 ∨ x = 11 ∨ x = 12 ∨ x = 13 ∨ x = 14 ∨ x = 15 ∨ x = 16 ∨ x = 17 ∨ x = 18 by omega) with rfl | rfl | rfl | rfl | rfl | rfl | rfl | rfl | rfl | rfl | rfl | rfl | rfl | rfl | rfl | rfl | rfl | rfl <;> rfl
  · show (if i = 7 then (10 : Int32) else 0) = 0
    exact if_neg hi
  · show (if i = 11 then (10 : Int32) else 0) = 0
    exact if_neg hi
set_option maxRecDepth 100000 in
set_option maxHeartbeats 4000000 in
theorem law_pre {X : Cx} {b : Nat} {mn : String} (F : FC X mn nwMM cL_law RL 4 2048 84000 600000 7302250)
  (g : ∀ h5 u5 h6 u6, GC X [] 4 18 [(0, .ref b), (1, .ref h5), (2, .ref h6), (3, .int 0)] [] (outX5 X.2.2 h5 u5 ++ outX6 X.2.2 h6 u6) 57 1713) : GC X [] 4 0 [(0, .ref b)] [] [] 0 0 := by
  refine c_new F (fs := [.null, .null, .null, .null, .null, .null, .int 0, .int 0, .int 0, .int 0, .int 0]) cl5 tyX5 tyX5_ok (inr_1 _ (List.mem_of_getElem? (i := 0) rfl)) (inr_1 _ (List.mem_of_getElem? (i := 1) rfl)) (inr_1 _ (List.mem_of_getElem? (i := 2) rfl)) (fun j hj => by rcases (show j = 0 ∨ j = 1 ∨ j = 2 ∨ j = 3 ∨ j = 4 ∨ j = 5 ∨ j = 6 ∨ j = 7 ∨ j = 8 ∨ j = 9 ∨ j = 10 by omega) with rfl | rfl | rfl | rfl | rfl | rfl | rfl | rfl | rfl | rfl | rfl <;> rfl) (cells' := 1) (slots' := 11) rfl rfl (Nat.le_of_ble_eq_true rfl) (Nat.le_of_ble_eq_true rfl) dL_law_0 (fun h5 => ?_)
  refine c_ws F (ws' := [(h5, .inr (5, [.null, .null, .null, .null, .null, .null, .int 0, .int 0, .int 0, .int 0, .int 0]))]) rfl ?_
  refine c_dup F dL_law_3 ?_
  refine c_call F (n := 0) (q := h5) (As := []) (rest := [.ref h5]) (wr := []) (fun v hv => ⟨⟨_, _, _, _, List.mem_singleton.mp hv⟩, hv⟩) (mkX5_init h5) rfl [0] [] rfl rfl (by decide) (by decide) (inr_1 _ (List.mem_of_getElem? (i := 6) rfl)) (inr_1 _ (List.mem_of_getElem? (i := 7) rfl)) (inr_1 _ (List.mem_of_getElem? (i := 2) rfl)) (inr_1 _ (List.mem_of_getElem? (i := 8) rfl)) rfl (by decide +kernel) rfl ⟨Nat.le_of_ble_eq_true rfl, Nat.le_of_ble_eq_true rfl⟩ (cells' := 41) (slots' := 811) rfl rfl (Nat.le_of_ble_eq_true rfl) (Nat.le_of_ble_eq_true rfl) rfl (Nat.le_of_ble_eq_true rfl) dL_law_4 (fun u5 => ?_)
  refine c_astore F dL_law_7 rfl (by decide) (lv' := [(0, .ref b), (1, .ref h5)]) [1, 0] rfl ?_
  refine c_ws F (ws' := outX5 X.2.2 h5 u5) rfl ?_
  refine c_new F (fs := [.int 0, .null, .null, .int 0, .null, .null, .null, .null, .null, .null, .int 0, .int 0, .int 0, .int 0, .null, .null, .int 0, .int 0, .int 0, .int 0, .int 0, .int 0, .null, .int 0, .null, .null, .null, .null]) cl6 tyX6 tyX6_ok (inr_1 _ (List.mem_of_getElem? (i := 3) rfl)) (inr_1 _ (List.mem_of_getElem? (i := 4) rfl)) (inr_1 _ (List.mem_of_getElem? (i := 5) rfl)) (fun j hj => by rcases (show j = 0 ∨ j = 1 ∨ j = 2 ∨ j = 3 ∨ j = 4 ∨ j = 5 ∨ j = 6 ∨ j = 7 ∨ j = 8 ∨ j = 9 ∨ j = 10 ∨ j = 11 ∨ j = 12 ∨ j = 13 ∨ j = 14 ∨ j = 15 ∨ j = 16 ∨ j = 17 ∨ j = 18 ∨ j = 19 ∨ j = 20 ∨ j = 21 ∨ j = 22 ∨ j = 23 ∨ j = 24 ∨ j = 25 ∨ j = 26 ∨ j = 27 by omega) with rfl | rfl | rfl | rfl | rfl | rfl | rfl | rfl | rfl | rfl | rfl | rfl | rfl | rfl | rfl | rfl | rfl | rfl | rfl | rfl | rfl | rfl | rfl | rfl | rfl | rfl | rfl | rfl <;> rfl) (cells' := 42) (slots' := 839) rfl rfl (Nat.le_of_ble_eq_true rfl) (Nat.le_of_ble_eq_true rfl) dL_law_8 (fun h6 => ?_)
  refine c_dup F dL_law_11 ?_
  refine c_call F (n := 0) (q := h6) (As := []) (rest := [.ref h6]) (wr := outX5 X.2.2 h5 u5) (fun v hv => absurd hv List.not_mem_nil) (mkX6_init h6) rfl [41] (List.range 41) rfl rfl (by decide +kernel) (by decide) (inr_5 _ (List.mem_of_getElem? (i := 14) rfl)) (inr_5 _ (List.mem_of_getElem? (i := 15) rfl)) (inr_1 _ (List.mem_of_getElem? (i := 5) rfl)) (inr_5 _ (List.mem_of_getElem? (i := 16) rfl)) rfl (by decide +kernel) rfl ⟨Nat.le_of_ble_eq_true rfl, Nat.le_of_ble_eq_true rfl⟩ (cells' := 57) (slots' := 1713) rfl rfl (Nat.le_of_ble_eq_true rfl) (Nat.le_of_ble_eq_true rfl) rfl (Nat.le_of_ble_eq_true rfl) dL_law_12 (fun u6 => ?_)
  refine c_astore F dL_law_15 rfl (by decide) (lv' := [(0, .ref b), (1, .ref h5), (2, .ref h6)]) [1, 2, 0] rfl ?_
  refine c_iconst F (v := 0) dL_law_16 (by decide) ?_
  refine c_istore F dL_law_17 rfl (by decide) (lv' := [(0, .ref b), (1, .ref h5), (2, .ref h6), (3, .int 0)]) [1, 2, 3, 0] rfl ?_
  exact g h5 u5 h6 u6
set_option maxRecDepth 100000 in
set_option maxHeartbeats 4000000 in
theorem whole_start {p : Program} {e : Env} {s : State} {m : MethodId} {below : List Frame} {meth : Method} {c : Code} (l : Launch) (hflags : l.flags = flags0) {b L : Nat} {xs : Nat → Int32} (hL : L ≤ 3072) (C0 : lw_At p s m meth c b L xs) : W p l e room_1 s m #[Value.ref b] below meth c s.heap [] 0 0 (lw_Z below #[Value.ref b] s) (entryFrame m ([Value.ref b] : List Value).toArray 4) := by
  obtain ⟨hx, hb, hr, hml, hown, hts0, hX, hbl, hlocks, hgv⟩ := id C0
  have hts : ∀ w ∈ wsL_law, w.before #[Value.ref b] s = true := fun w h => hts0 w (wsL_law_in w h)
  obtain ⟨c0, i0, hK0⟩ := u_known (C := RX0) (T := TX0) (N := 9) (n := 9) hts inlX0 (hts _ (inr_2 _ (List.mem_of_getElem? (i := 1) rfl)))
  obtain ⟨c1, i1, hK1⟩ := u_known (C := RX1) (T := TX1) (N := 7) (n := 7) hts inlX1 (hts _ (inr_1 _ (List.mem_of_getElem? (i := 17) rfl)))
  obtain ⟨c2, i2, hK2⟩ := u_known (C := RX2) (T := TX2) (N := 13) (n := 13) hts inlX2 (hts _ (inr_1 _ (List.mem_of_getElem? (i := 21) rfl)))
  obtain ⟨c3, i3, hK3⟩ := u_known (C := RX3) (T := TX3) (N := 13) (n := 13) hts inlX3 (hts _ (inr_1 _ (List.mem_of_getElem? (i := 13) rfl)))
  obtain ⟨c4, i4, hK4⟩ := u_known (C := RX4) (T := TX4) (N := 5) (n := 5) hts inlX4 (hts _ (inr_2 _ (List.mem_of_getElem? (i := 5) rfl)))
  obtain ⟨c5, i5, hK5⟩ := u_known (C := RX5) (T := TX5) (N := 11) (n := 11) hts inlX5 (hts _ (inr_1 _ (List.mem_of_getElem? (i := 1) rfl)))
  obtain ⟨c6, i6, hK6⟩ := u_known (C := RX6) (T := TX6) (N := 28) (n := 28) hts inlX6 (hts _ (inr_1 _ (List.mem_of_getElem? (i := 4) rfl)))
  obtain ⟨cI, hI1, hI2⟩ := arr_of (Or.inl rfl) (hts _ (inr_2 _ (List.mem_of_getElem? (i := 8) rfl)))
  obtain ⟨cZ, hZ1, hZ2⟩ := arr_of (Or.inr rfl) (hts _ (inr_4 _ (List.mem_of_getElem? (i := 22) rfl)))
  obtain ⟨D, hD1⟩ : ∃ D : va_G, ∀ (k : Nat) (q : vw_C), vwCl[k]? = some q → u_Kn s q.1 q.2.1 q.2.2 (D.1 k) (D.2 k) := by
    refine ⟨(fun k => match k with | 0 => c0 | 1 => c1 | 2 => c2 | 3 => c3 | 4 => c4 | 5 => c5 | _ => c6, fun k => match k with | 0 => i0 | 1 => i1 | 2 => i2 | 3 => i3 | 4 => i4 | 5 => i5 | _ => i6), ?_⟩
    intro k q hq
    match k, hq with
    | 0, hq => cases hq; exact hK0
    | 1, hq => cases hq; exact hK1
    | 2, hq => cases hq; exact hK2
    | 3, hq => cases hq; exact hK3
    | 4, hq => cases hq; exact hK4
    | 5, hq => cases hq; exact hK5
    | 6, hq => cases hq; exact hK6
    | k + 7, hq => exact absurd (List.getElem?_eq_some_iff.mp hq).1 (by simp)
  have hK : va_K D vwCl (tys (id, cI, cZ, D)) s := by
    refine ⟨hD1, fun k q hq => ?_⟩
    match k, hq with
    | 0, hq => cases hq; exact ⟨hI1, hI2⟩
    | 1, hq => cases hq; exact ⟨hZ1, hZ2⟩
    | k + 2, hq => exact absurd (List.getElem?_eq_some_iff.mp hq).1 (by simp [tys])
  have hNW : ∀ v ∈ nwMM, va_Nw v s := by
    intro v hv
    have hv2 := List.mem_singleton.mp hv
    subst hv2
    exact va_Nw.of rfl (hts0 _ (by decide +kernel))
  have hl := lv_entry ([.ref b]) (n := 4) (Nat.le_of_ble_eq_true rfl)
  rw [lg_entry_eq]
  generalize (lg_sl ([.ref b]) ++ List.replicate (4 - (lg_sl ([.ref b])).length) Slot.unset).toArray = ls at hl ⊢
  have FCx : FC ((p, l, e, room_1, s, m, #[Value.ref b]), (below, meth, c, lw_Z below #[Value.ref b] s), (id, cI, cZ, D)) meth.name nwMM cL_law RL 4 2048 84000 600000 7302250 := ⟨hx, hb, hml, hown, hts, hK, Nat.le_refl _, Nat.le_refl _, Nat.le_refl _, Nat.le_refl _, rfl, hNW⟩
  obtain ⟨N, Rel, hS, hup, hr0⟩ := sim_all
  refine law_pre (b := b) FCx (fun h5 u5 h6 u6 => ?_) s.heap [] ls (fun k q h => by simp at h) ⟨fun i j p q h => by simp at h, fun k q h => by simp at h⟩ va_S.rf hl
  intro H locs ls1 hP hDd hSs hl1
  have eA : ∀ q, va_A [] s.heap.size q ↔ s.heap.size ≤ q := fun q => ⟨fun h => by rcases h with ⟨k, e, h⟩ | h; simp at h; exact h, fun h => Or.inr h⟩
  have h5l : (wl true (ad5 h5 u5, (cI, cZ, D)) st5).length = 41 := by simp [wl, NP]
  rw [show outX5 (id, cI, cZ, D) h5 u5 = wl true (ad5 h5 u5, (cI, cZ, D)) st5 from out5_wl (id, cI, cZ, D) h5 u5, show outX6 (id, cI, cZ, D) h6 u6 = wl false (ad5 h6 u6, (cI, cZ, D)) st6 from out6_wl (id, cI, cZ, D) h6 u6] at hP hDd
  have g1 : ∀ i, i < 41 → (wl true (ad5 h5 u5, (cI, cZ, D)) st5 ++ wl false (ad5 h6 u6, (cI, cZ, D)) st6)[i]? = some (ad5 h5 u5 i, tm true (ad5 h5 u5, (cI, cZ, D)) i (st5 i)) := fun i h => by
    rw [List.getElem?_append_left (by omega)]
    exact wl_get (t := true) h
  have g2 : ∀ i, i < 16 → (wl true (ad5 h5 u5, (cI, cZ, D)) st5 ++ wl false (ad5 h6 u6, (cI, cZ, D)) st6)[41 + i]? = some (ad5 h6 u6 i, tm false (ad5 h6 u6, (cI, cZ, D)) i (st6 i)) := fun i h => by
    rw [List.getElem?_append_right (by omega), h5l, Nat.add_sub_cancel_left]
    exact wl_get (t := false) h
  have FLx : FL ((p, l, e, room_1, s, m, #[Value.ref b]), (below, meth, c, lw_Z below #[Value.ref b] s), (id, cI, cZ, D)) ((ad5 h5 u5, (cI, cZ, D)), (ad5 h6 u6, (cI, cZ, D)), b, L, xs) := by
    refine ⟨hx, hb, hml, hown, hts, hK, fun i j hi hj he => hDd.1 i j _ _ (g1 i hi) (g1 j hj) he, fun i j hi hj he => ?_, fun i j hi hj he => ?_, fun i hi => (eA _).mp (hDd.2 i _ (g1 i hi)), fun i hi => (eA _).mp (hDd.2 (41 + i) _ (g2 i hi)), rfl, hX, hbl, Nat.le_refl _, Nat.le_refl _, Nat.le_refl _, Nat.le_refl _⟩
    · have h1 := hDd.1 (41 + i) (41 + j) _ _ (g2 i hi) (g2 j hj) he
      omega
    · have h1 := hDd.1 i (41 + j) _ _ (g1 i hi) (g2 j hj) he
      have h2 : i < 41 := hi
      omega
  have key := law_loop FLx hL hS hup (fun pc lv σ τ hdg => ?_) 513 0 (by omega) (by omega) st5 st6 hr0 H locs ls1 (fun k q h => hP k q (by rw [List.getElem?_append_left (by rw [h5l]; exact wl_lt (t := true) h)]; exact h)) (va_P_cut hP) ⟨hSs.1, fun q h1 h2 => hSs.2.1 q h1 (fun h => h2 ((eA q).mp h)), fun q h => (eA _).mp (hSs.2.2 q h)⟩ hl1
  · exact W.widen (k := 600000) (n := 7302250) (Nat.le_of_ble_eq_true rfl) (Nat.le_of_ble_eq_true rfl) key
  · intro H1 locs1 ls2 _ _ hS1 _
    exact va_forget (fun q hq => hS1.2.2 q hq) (lw_ret hx hb hr hlocks hdg)
